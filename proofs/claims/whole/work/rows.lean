section
-- ===== PART A: goes FIRST, ahead of the names: the tables' words, and 'selects' of the private methods out of them =====
/-- a private method of a class that the tables say can be made, by its rows of tables_1 -/
def lw_okq (q : MethodName × Nat) : Prop := (q.1.cls ≠ "java/lang/invoke/MethodHandle" ∧ q.1.cls ≠ "java/lang/invoke/VarHandle") ∧ Cond.instantiable q.1.cls q.2 ∈ tables_1 ∧ Cond.privateMethod q.1 ∈ tables_1 ∧ Cond.instanceMethod q.1 ∈ tables_1
theorem lw_p0 : lw_okq (⟨"DrainOffice$Flow", "planDrains", "(LDrainOffice$Net;)V"⟩, 4) := ⟨⟨by decide +kernel, by decide +kernel⟩, List.mem_of_getElem? (i := 267) (by decide +kernel), List.mem_of_getElem? (i := 526) (by decide +kernel), List.mem_of_getElem? (i := 527) (by decide +kernel)⟩
theorem lw_p1 : lw_okq (⟨"DrainOffice$Flow", "addDrain", "(LDrainOffice$Line;I)V"⟩, 4) := ⟨⟨by decide +kernel, by decide +kernel⟩, List.mem_of_getElem? (i := 267) (by decide +kernel), List.mem_of_getElem? (i := 535) (by decide +kernel), List.mem_of_getElem? (i := 536) (by decide +kernel)⟩
theorem lw_p2 : lw_okq (⟨"DrainOffice$Flow", "planOrder", "(LDrainOffice$Net;)V"⟩, 4) := ⟨⟨by decide +kernel, by decide +kernel⟩, List.mem_of_getElem? (i := 267) (by decide +kernel), List.mem_of_getElem? (i := 540) (by decide +kernel), List.mem_of_getElem? (i := 541) (by decide +kernel)⟩
theorem lw_p3 : lw_okq (⟨"DrainOffice$Flow", "wetPlace", "(LDrainOffice$Sheet;LDrainOffice$Water;I)V"⟩, 4) := ⟨⟨by decide +kernel, by decide +kernel⟩, List.mem_of_getElem? (i := 267) (by decide +kernel), List.mem_of_getElem? (i := 549) (by decide +kernel), List.mem_of_getElem? (i := 550) (by decide +kernel)⟩
theorem lw_p4 : lw_okq (⟨"DrainOffice$Flow", "drainPlace", "(LDrainOffice$Sheet;LDrainOffice$Water;I)V"⟩, 4) := ⟨⟨by decide +kernel, by decide +kernel⟩, List.mem_of_getElem? (i := 267) (by decide +kernel), List.mem_of_getElem? (i := 557) (by decide +kernel), List.mem_of_getElem? (i := 558) (by decide +kernel)⟩
theorem lw_p5 : lw_okq (⟨"DrainOffice$Flow", "passOn", "(LDrainOffice$Sheet;LDrainOffice$Water;I)V"⟩, 4) := ⟨⟨by decide +kernel, by decide +kernel⟩, List.mem_of_getElem? (i := 267) (by decide +kernel), List.mem_of_getElem? (i := 562) (by decide +kernel), List.mem_of_getElem? (i := 563) (by decide +kernel)⟩
theorem lw_p6 : lw_okq (⟨"DrainOffice$Flow", "mostInto", "(LDrainOffice$Sheet;LDrainOffice$Water;LDrainOffice$Pipe;)I"⟩, 4) := ⟨⟨by decide +kernel, by decide +kernel⟩, List.mem_of_getElem? (i := 267) (by decide +kernel), List.mem_of_getElem? (i := 566) (by decide +kernel), List.mem_of_getElem? (i := 567) (by decide +kernel)⟩
theorem lw_p7 : lw_okq (⟨"DrainOffice$Trenches", "findLeast", "(LDrainOffice$Ground;LDrainOffice$Group;)V"⟩, 7) := ⟨⟨by decide +kernel, by decide +kernel⟩, List.mem_of_getElem? (i := 286) (by decide +kernel), List.mem_of_getElem? (i := 625) (by decide +kernel), List.mem_of_getElem? (i := 626) (by decide +kernel)⟩
theorem lw_p8 : lw_okq (⟨"DrainOffice$Trenches", "offer", "(III)V"⟩, 7) := ⟨⟨by decide +kernel, by decide +kernel⟩, List.mem_of_getElem? (i := 286) (by decide +kernel), List.mem_of_getElem? (i := 635) (by decide +kernel), List.mem_of_getElem? (i := 636) (by decide +kernel)⟩
theorem lw_p9 : lw_okq (⟨"DrainOffice$Trenches", "take", "()V"⟩, 7) := ⟨⟨by decide +kernel, by decide +kernel⟩, List.mem_of_getElem? (i := 286) (by decide +kernel), List.mem_of_getElem? (i := 639) (by decide +kernel), List.mem_of_getElem? (i := 640) (by decide +kernel)⟩
theorem lw_p10 : lw_okq (⟨"DrainOffice", "fits", "(III)Z"⟩, 6) := ⟨⟨by decide +kernel, by decide +kernel⟩, List.mem_of_getElem? (i := 15) (by decide +kernel), List.mem_of_getElem? (i := 664) (by decide +kernel), List.mem_of_getElem? (i := 665) (by decide +kernel)⟩
theorem lw_p11 : lw_okq (⟨"DrainOffice", "fitsAlone", "(II)Z"⟩, 6) := ⟨⟨by decide +kernel, by decide +kernel⟩, List.mem_of_getElem? (i := 15) (by decide +kernel), List.mem_of_getElem? (i := 685) (by decide +kernel), List.mem_of_getElem? (i := 686) (by decide +kernel)⟩
theorem lw_p12 : lw_okq (⟨"DrainOffice", "pairWhere", "(II)I"⟩, 6) := ⟨⟨by decide +kernel, by decide +kernel⟩, List.mem_of_getElem? (i := 15) (by decide +kernel), List.mem_of_getElem? (i := 689) (by decide +kernel), List.mem_of_getElem? (i := 690) (by decide +kernel)⟩
theorem lw_p13 : lw_okq (⟨"DrainOffice", "fitsTogether", "(III)Z"⟩, 6) := ⟨⟨by decide +kernel, by decide +kernel⟩, List.mem_of_getElem? (i := 15) (by decide +kernel), List.mem_of_getElem? (i := 693) (by decide +kernel), List.mem_of_getElem? (i := 694) (by decide +kernel)⟩
theorem lw_p14 : lw_okq (⟨"DrainOfficeModel", "isPlace", "(I)Z"⟩, 7) := ⟨⟨by decide +kernel, by decide +kernel⟩, List.mem_of_getElem? (i := 726) (by decide +kernel), List.mem_of_getElem? (i := 765) (by decide +kernel), List.mem_of_getElem? (i := 766) (by decide +kernel)⟩
theorem lw_p15 : lw_okq (⟨"DrainOfficeModel", "places", "()I"⟩, 7) := ⟨⟨by decide +kernel, by decide +kernel⟩, List.mem_of_getElem? (i := 726) (by decide +kernel), List.mem_of_getElem? (i := 769) (by decide +kernel), List.mem_of_getElem? (i := 770) (by decide +kernel)⟩
def lw_privs_1 : List (MethodName × Nat) := [(⟨"DrainOffice$Flow", "planDrains", "(LDrainOffice$Net;)V"⟩, 4), (⟨"DrainOffice$Flow", "addDrain", "(LDrainOffice$Line;I)V"⟩, 4), (⟨"DrainOffice$Flow", "planOrder", "(LDrainOffice$Net;)V"⟩, 4), (⟨"DrainOffice$Flow", "wetPlace", "(LDrainOffice$Sheet;LDrainOffice$Water;I)V"⟩, 4), (⟨"DrainOffice$Flow", "drainPlace", "(LDrainOffice$Sheet;LDrainOffice$Water;I)V"⟩, 4), (⟨"DrainOffice$Flow", "passOn", "(LDrainOffice$Sheet;LDrainOffice$Water;I)V"⟩, 4), (⟨"DrainOffice$Flow", "mostInto", "(LDrainOffice$Sheet;LDrainOffice$Water;LDrainOffice$Pipe;)I"⟩, 4), (⟨"DrainOffice$Trenches", "findLeast", "(LDrainOffice$Ground;LDrainOffice$Group;)V"⟩, 7), (⟨"DrainOffice$Trenches", "offer", "(III)V"⟩, 7), (⟨"DrainOffice$Trenches", "take", "()V"⟩, 7), (⟨"DrainOffice", "fits", "(III)Z"⟩, 6), (⟨"DrainOffice", "fitsAlone", "(II)Z"⟩, 6), (⟨"DrainOffice", "pairWhere", "(II)I"⟩, 6), (⟨"DrainOffice", "fitsTogether", "(III)Z"⟩, 6), (⟨"DrainOfficeModel", "isPlace", "(I)Z"⟩, 7), (⟨"DrainOfficeModel", "places", "()I"⟩, 7)]
theorem lw_r1 : ∀ q ∈ lw_privs_1, lw_okq q := List.forall_mem_cons.mpr ⟨lw_p0, List.forall_mem_cons.mpr ⟨lw_p1, List.forall_mem_cons.mpr ⟨lw_p2, List.forall_mem_cons.mpr ⟨lw_p3, List.forall_mem_cons.mpr ⟨lw_p4, List.forall_mem_cons.mpr ⟨lw_p5, List.forall_mem_cons.mpr ⟨lw_p6, List.forall_mem_cons.mpr ⟨lw_p7, List.forall_mem_cons.mpr ⟨lw_p8, List.forall_mem_cons.mpr ⟨lw_p9, List.forall_mem_cons.mpr ⟨lw_p10, List.forall_mem_cons.mpr ⟨lw_p11, List.forall_mem_cons.mpr ⟨lw_p12, List.forall_mem_cons.mpr ⟨lw_p13, List.forall_mem_cons.mpr ⟨lw_p14, List.forall_mem_cons.mpr ⟨lw_p15, fun _ h => absurd h List.not_mem_nil⟩⟩⟩⟩⟩⟩⟩⟩⟩⟩⟩⟩⟩⟩⟩⟩
theorem lw_p16 : lw_okq (⟨"DrainOfficeModel", "rowOf", "(I)I"⟩, 7) := ⟨⟨by decide +kernel, by decide +kernel⟩, List.mem_of_getElem? (i := 726) (by decide +kernel), List.mem_of_getElem? (i := 789) (by decide +kernel), List.mem_of_getElem? (i := 790) (by decide +kernel)⟩
theorem lw_p17 : lw_okq (⟨"DrainOfficeModel", "columnOf", "(I)I"⟩, 7) := ⟨⟨by decide +kernel, by decide +kernel⟩, List.mem_of_getElem? (i := 726) (by decide +kernel), List.mem_of_getElem? (i := 793) (by decide +kernel), List.mem_of_getElem? (i := 794) (by decide +kernel)⟩
theorem lw_p18 : lw_okq (⟨"DrainOfficeModel", "placeAt", "(III)I"⟩, 7) := ⟨⟨by decide +kernel, by decide +kernel⟩, List.mem_of_getElem? (i := 726) (by decide +kernel), List.mem_of_getElem? (i := 804) (by decide +kernel), List.mem_of_getElem? (i := 805) (by decide +kernel)⟩
theorem lw_p19 : lw_okq (⟨"DrainOfficeModel", "setPipe", "(III)V"⟩, 7) := ⟨⟨by decide +kernel, by decide +kernel⟩, List.mem_of_getElem? (i := 726) (by decide +kernel), List.mem_of_getElem? (i := 808) (by decide +kernel), List.mem_of_getElem? (i := 809) (by decide +kernel)⟩
theorem lw_p20 : lw_okq (⟨"DrainOfficeModel", "isPipe", "(I)Z"⟩, 7) := ⟨⟨by decide +kernel, by decide +kernel⟩, List.mem_of_getElem? (i := 726) (by decide +kernel), List.mem_of_getElem? (i := 816) (by decide +kernel), List.mem_of_getElem? (i := 817) (by decide +kernel)⟩
theorem lw_p21 : lw_okq (⟨"DrainOfficeModel", "pipeOf", "(II)I"⟩, 7) := ⟨⟨by decide +kernel, by decide +kernel⟩, List.mem_of_getElem? (i := 726) (by decide +kernel), List.mem_of_getElem? (i := 820) (by decide +kernel), List.mem_of_getElem? (i := 821) (by decide +kernel)⟩
theorem lw_p22 : lw_okq (⟨"DrainOfficeModel", "stepPlace", "(II)I"⟩, 7) := ⟨⟨by decide +kernel, by decide +kernel⟩, List.mem_of_getElem? (i := 726) (by decide +kernel), List.mem_of_getElem? (i := 824) (by decide +kernel), List.mem_of_getElem? (i := 825) (by decide +kernel)⟩
theorem lw_p23 : lw_okq (⟨"DrainOfficeModel", "stepOf", "(II)I"⟩, 7) := ⟨⟨by decide +kernel, by decide +kernel⟩, List.mem_of_getElem? (i := 726) (by decide +kernel), List.mem_of_getElem? (i := 828) (by decide +kernel), List.mem_of_getElem? (i := 829) (by decide +kernel)⟩
theorem lw_p24 : lw_okq (⟨"DrainOfficeModel", "levelAt", "(II)I"⟩, 7) := ⟨⟨by decide +kernel, by decide +kernel⟩, List.mem_of_getElem? (i := 726) (by decide +kernel), List.mem_of_getElem? (i := 832) (by decide +kernel), List.mem_of_getElem? (i := 833) (by decide +kernel)⟩
theorem lw_p25 : lw_okq (⟨"DrainOfficeModel", "rank", "(I)I"⟩, 7) := ⟨⟨by decide +kernel, by decide +kernel⟩, List.mem_of_getElem? (i := 726) (by decide +kernel), List.mem_of_getElem? (i := 836) (by decide +kernel), List.mem_of_getElem? (i := 837) (by decide +kernel)⟩
theorem lw_p26 : lw_okq (⟨"DrainOfficeModel", "bears", "(I)I"⟩, 7) := ⟨⟨by decide +kernel, by decide +kernel⟩, List.mem_of_getElem? (i := 726) (by decide +kernel), List.mem_of_getElem? (i := 856) (by decide +kernel), List.mem_of_getElem? (i := 857) (by decide +kernel)⟩
theorem lw_p27 : lw_okq (⟨"DrainOfficeModel", "holds", "(I)I"⟩, 7) := ⟨⟨by decide +kernel, by decide +kernel⟩, List.mem_of_getElem? (i := 726) (by decide +kernel), List.mem_of_getElem? (i := 860) (by decide +kernel), List.mem_of_getElem? (i := 861) (by decide +kernel)⟩
theorem lw_p28 : lw_okq (⟨"DrainOfficeModel", "peak", "(I)I"⟩, 7) := ⟨⟨by decide +kernel, by decide +kernel⟩, List.mem_of_getElem? (i := 726) (by decide +kernel), List.mem_of_getElem? (i := 864) (by decide +kernel), List.mem_of_getElem? (i := 865) (by decide +kernel)⟩
theorem lw_p29 : lw_okq (⟨"DrainOfficeModel", "hour", "()I"⟩, 7) := ⟨⟨by decide +kernel, by decide +kernel⟩, List.mem_of_getElem? (i := 726) (by decide +kernel), List.mem_of_getElem? (i := 883) (by decide +kernel), List.mem_of_getElem? (i := 884) (by decide +kernel)⟩
theorem lw_p30 : lw_okq (⟨"DrainOfficeModel", "fall", "()V"⟩, 7) := ⟨⟨by decide +kernel, by decide +kernel⟩, List.mem_of_getElem? (i := 726) (by decide +kernel), List.mem_of_getElem? (i := 887) (by decide +kernel), List.mem_of_getElem? (i := 888) (by decide +kernel)⟩
theorem lw_p31 : lw_okq (⟨"DrainOfficeModel", "soilOf", "(II)I"⟩, 7) := ⟨⟨by decide +kernel, by decide +kernel⟩, List.mem_of_getElem? (i := 726) (by decide +kernel), List.mem_of_getElem? (i := 891) (by decide +kernel), List.mem_of_getElem? (i := 892) (by decide +kernel)⟩
def lw_privs_2 : List (MethodName × Nat) := [(⟨"DrainOfficeModel", "rowOf", "(I)I"⟩, 7), (⟨"DrainOfficeModel", "columnOf", "(I)I"⟩, 7), (⟨"DrainOfficeModel", "placeAt", "(III)I"⟩, 7), (⟨"DrainOfficeModel", "setPipe", "(III)V"⟩, 7), (⟨"DrainOfficeModel", "isPipe", "(I)Z"⟩, 7), (⟨"DrainOfficeModel", "pipeOf", "(II)I"⟩, 7), (⟨"DrainOfficeModel", "stepPlace", "(II)I"⟩, 7), (⟨"DrainOfficeModel", "stepOf", "(II)I"⟩, 7), (⟨"DrainOfficeModel", "levelAt", "(II)I"⟩, 7), (⟨"DrainOfficeModel", "rank", "(I)I"⟩, 7), (⟨"DrainOfficeModel", "bears", "(I)I"⟩, 7), (⟨"DrainOfficeModel", "holds", "(I)I"⟩, 7), (⟨"DrainOfficeModel", "peak", "(I)I"⟩, 7), (⟨"DrainOfficeModel", "hour", "()I"⟩, 7), (⟨"DrainOfficeModel", "fall", "()V"⟩, 7), (⟨"DrainOfficeModel", "soilOf", "(II)I"⟩, 7)]
theorem lw_r2 : ∀ q ∈ lw_privs_2, lw_okq q := List.forall_mem_cons.mpr ⟨lw_p16, List.forall_mem_cons.mpr ⟨lw_p17, List.forall_mem_cons.mpr ⟨lw_p18, List.forall_mem_cons.mpr ⟨lw_p19, List.forall_mem_cons.mpr ⟨lw_p20, List.forall_mem_cons.mpr ⟨lw_p21, List.forall_mem_cons.mpr ⟨lw_p22, List.forall_mem_cons.mpr ⟨lw_p23, List.forall_mem_cons.mpr ⟨lw_p24, List.forall_mem_cons.mpr ⟨lw_p25, List.forall_mem_cons.mpr ⟨lw_p26, List.forall_mem_cons.mpr ⟨lw_p27, List.forall_mem_cons.mpr ⟨lw_p28, List.forall_mem_cons.mpr ⟨lw_p29, List.forall_mem_cons.mpr ⟨lw_p30, List.forall_mem_cons.mpr ⟨lw_p31, fun _ h => absurd h List.not_mem_nil⟩⟩⟩⟩⟩⟩⟩⟩⟩⟩⟩⟩⟩⟩⟩⟩
theorem lw_p32 : lw_okq (⟨"DrainOfficeModel", "seep", "()V"⟩, 7) := ⟨⟨by decide +kernel, by decide +kernel⟩, List.mem_of_getElem? (i := 726) (by decide +kernel), List.mem_of_getElem? (i := 895) (by decide +kernel), List.mem_of_getElem? (i := 896) (by decide +kernel)⟩
theorem lw_p33 : lw_okq (⟨"DrainOfficeModel", "isLateral", "(I)Z"⟩, 7) := ⟨⟨by decide +kernel, by decide +kernel⟩, List.mem_of_getElem? (i := 726) (by decide +kernel), List.mem_of_getElem? (i := 899) (by decide +kernel), List.mem_of_getElem? (i := 900) (by decide +kernel)⟩
theorem lw_p34 : lw_okq (⟨"DrainOfficeModel", "pass", "(I)I"⟩, 7) := ⟨⟨by decide +kernel, by decide +kernel⟩, List.mem_of_getElem? (i := 726) (by decide +kernel), List.mem_of_getElem? (i := 903) (by decide +kernel), List.mem_of_getElem? (i := 904) (by decide +kernel)⟩
theorem lw_p35 : lw_okq (⟨"DrainOfficeModel", "isReached", "(I)Z"⟩, 7) := ⟨⟨by decide +kernel, by decide +kernel⟩, List.mem_of_getElem? (i := 726) (by decide +kernel), List.mem_of_getElem? (i := 911) (by decide +kernel), List.mem_of_getElem? (i := 912) (by decide +kernel)⟩
theorem lw_p36 : lw_okq (⟨"DrainOfficeModel", "sum", "(I)I"⟩, 7) := ⟨⟨by decide +kernel, by decide +kernel⟩, List.mem_of_getElem? (i := 726) (by decide +kernel), List.mem_of_getElem? (i := 919) (by decide +kernel), List.mem_of_getElem? (i := 920) (by decide +kernel)⟩
theorem lw_p37 : lw_okq (⟨"DrainOfficeModel", "sumOfPipes", "(I)I"⟩, 7) := ⟨⟨by decide +kernel, by decide +kernel⟩, List.mem_of_getElem? (i := 726) (by decide +kernel), List.mem_of_getElem? (i := 923) (by decide +kernel), List.mem_of_getElem? (i := 924) (by decide +kernel)⟩
theorem lw_p38 : lw_okq (⟨"DrainOfficeModel", "dryMany", "()I"⟩, 7) := ⟨⟨by decide +kernel, by decide +kernel⟩, List.mem_of_getElem? (i := 726) (by decide +kernel), List.mem_of_getElem? (i := 931) (by decide +kernel), List.mem_of_getElem? (i := 932) (by decide +kernel)⟩
theorem lw_p39 : lw_okq (⟨"DrainOfficeModel", "set", "(IIZ)I"⟩, 7) := ⟨⟨by decide +kernel, by decide +kernel⟩, List.mem_of_getElem? (i := 726) (by decide +kernel), List.mem_of_getElem? (i := 943) (by decide +kernel), List.mem_of_getElem? (i := 944) (by decide +kernel)⟩
theorem lw_p40 : lw_okq (⟨"DrainOfficeModel", "findTree", "()V"⟩, 7) := ⟨⟨by decide +kernel, by decide +kernel⟩, List.mem_of_getElem? (i := 726) (by decide +kernel), List.mem_of_getElem? (i := 951) (by decide +kernel), List.mem_of_getElem? (i := 952) (by decide +kernel)⟩
theorem lw_p41 : lw_okq (⟨"DrainOfficeModel", "takePair", "()Z"⟩, 7) := ⟨⟨by decide +kernel, by decide +kernel⟩, List.mem_of_getElem? (i := 726) (by decide +kernel), List.mem_of_getElem? (i := 955) (by decide +kernel), List.mem_of_getElem? (i := 956) (by decide +kernel)⟩
theorem lw_p42 : lw_okq (⟨"DrainOfficeModel", "cost", "(II)I"⟩, 7) := ⟨⟨by decide +kernel, by decide +kernel⟩, List.mem_of_getElem? (i := 726) (by decide +kernel), List.mem_of_getElem? (i := 959) (by decide +kernel), List.mem_of_getElem? (i := 960) (by decide +kernel)⟩
theorem lw_p43 : lw_okq (⟨"DrainOfficeModel", "fits", "(III)Z"⟩, 7) := ⟨⟨by decide +kernel, by decide +kernel⟩, List.mem_of_getElem? (i := 726) (by decide +kernel), List.mem_of_getElem? (i := 979) (by decide +kernel), List.mem_of_getElem? (i := 980) (by decide +kernel)⟩
def lw_privs_3 : List (MethodName × Nat) := [(⟨"DrainOfficeModel", "seep", "()V"⟩, 7), (⟨"DrainOfficeModel", "isLateral", "(I)Z"⟩, 7), (⟨"DrainOfficeModel", "pass", "(I)I"⟩, 7), (⟨"DrainOfficeModel", "isReached", "(I)Z"⟩, 7), (⟨"DrainOfficeModel", "sum", "(I)I"⟩, 7), (⟨"DrainOfficeModel", "sumOfPipes", "(I)I"⟩, 7), (⟨"DrainOfficeModel", "dryMany", "()I"⟩, 7), (⟨"DrainOfficeModel", "set", "(IIZ)I"⟩, 7), (⟨"DrainOfficeModel", "findTree", "()V"⟩, 7), (⟨"DrainOfficeModel", "takePair", "()Z"⟩, 7), (⟨"DrainOfficeModel", "cost", "(II)I"⟩, 7), (⟨"DrainOfficeModel", "fits", "(III)Z"⟩, 7)]
theorem lw_r3 : ∀ q ∈ lw_privs_3, lw_okq q := List.forall_mem_cons.mpr ⟨lw_p32, List.forall_mem_cons.mpr ⟨lw_p33, List.forall_mem_cons.mpr ⟨lw_p34, List.forall_mem_cons.mpr ⟨lw_p35, List.forall_mem_cons.mpr ⟨lw_p36, List.forall_mem_cons.mpr ⟨lw_p37, List.forall_mem_cons.mpr ⟨lw_p38, List.forall_mem_cons.mpr ⟨lw_p39, List.forall_mem_cons.mpr ⟨lw_p40, List.forall_mem_cons.mpr ⟨lw_p41, List.forall_mem_cons.mpr ⟨lw_p42, List.forall_mem_cons.mpr ⟨lw_p43, fun _ h => absurd h List.not_mem_nil⟩⟩⟩⟩⟩⟩⟩⟩⟩⟩⟩⟩
def lw_privs : List (MethodName × Nat) := lw_privs_1 ++ (lw_privs_2 ++ (lw_privs_3))
def lw_tbl : List Cond := k2_sels lw_privs ++ tables_1
theorem lw_privs_ok : ∀ q ∈ lw_privs, lw_okq q := by
  show ∀ q ∈ lw_privs_1 ++ (lw_privs_2 ++ (lw_privs_3)), lw_okq q
  exact List.forall_mem_append.mpr ⟨lw_r1, List.forall_mem_append.mpr ⟨lw_r2, lw_r3⟩⟩
end
section
/-! ===== BEGIN printed: names, fields, word lists, decode rows ===== -/
def RX0 : String := "DrainOffice$Flow"
def TX0 : u_T := fun k => match k with
  | 0 => ("DrainOffice$Flow", "order", "[I", true)
  | 1 => ("DrainOffice$Flow", "ranks", "[I", true)
  | 2 => ("DrainOffice$Flow", "drainCount", "[I", true)
  | _ => ("DrainOffice$Flow", "drains", "[I", true)
def tyX0 : Nat → FieldType := fun k => match k with
  | 0 => .array .int
  | 1 => .array .int
  | 2 => .array .int
  | _ => .array .int
abbrev wsX00 : List Cond := u_ws RX0 TX0 4
theorem nmX0 : ∀ a, a < 4 → ∀ b, b < 4 → a ≠ b → (TX0 a).2.1 ≠ (TX0 b).2.1 := by decide +kernel
theorem tyX0_ok : ∀ k, k < 4 → parseFieldDescriptor (TX0 k).2.2.1 = some (tyX0 k) := by decide +kernel
abbrev cX0_init : ByteArray := prog_2_method_1_code
def yX0_init : MethodName := ⟨RX0, "<init>", "()V"⟩
abbrev cX0_plan : ByteArray := prog_2_method_2_code
def yX0_plan : MethodName := ⟨RX0, "plan", "(LDrainOffice$Net;)V"⟩
abbrev cX0_planDrains : ByteArray := prog_2_method_3_code
def yX0_planDrains : MethodName := ⟨RX0, "planDrains", "(LDrainOffice$Net;)V"⟩
abbrev cX0_addDrain : ByteArray := prog_2_method_4_code
def yX0_addDrain : MethodName := ⟨RX0, "addDrain", "(LDrainOffice$Line;I)V"⟩
abbrev cX0_planOrder : ByteArray := prog_2_method_5_code
def yX0_planOrder : MethodName := ⟨RX0, "planOrder", "(LDrainOffice$Net;)V"⟩
abbrev cX0_passHour : ByteArray := prog_2_method_6_code
def yX0_passHour : MethodName := ⟨RX0, "passHour", "(LDrainOffice$Sheet;LDrainOffice$Water;)V"⟩
abbrev cX0_wetPlace : ByteArray := prog_2_method_7_code
def yX0_wetPlace : MethodName := ⟨RX0, "wetPlace", "(LDrainOffice$Sheet;LDrainOffice$Water;I)V"⟩
abbrev cX0_drainPlace : ByteArray := prog_2_method_8_code
def yX0_drainPlace : MethodName := ⟨RX0, "drainPlace", "(LDrainOffice$Sheet;LDrainOffice$Water;I)V"⟩
abbrev cX0_passOn : ByteArray := prog_2_method_9_code
def yX0_passOn : MethodName := ⟨RX0, "passOn", "(LDrainOffice$Sheet;LDrainOffice$Water;I)V"⟩
abbrev cX0_mostInto : ByteArray := prog_2_method_10_code
def yX0_mostInto : MethodName := ⟨RX0, "mostInto", "(LDrainOffice$Sheet;LDrainOffice$Water;LDrainOffice$Pipe;)I"⟩
def RX1 : String := "DrainOffice$Ground"
def TX1 : u_T := fun k => match k with
  | 0 => ("DrainOffice$Ground", "columns", "I", false)
  | 1 => ("DrainOffice$Ground", "places", "I", false)
  | 2 => ("DrainOffice$Ground", "heights", "[I", true)
  | 3 => ("DrainOffice$Ground", "soilOf", "[I", true)
  | 4 => ("DrainOffice$Ground", "takes", "[I", true)
  | 5 => ("DrainOffice$Ground", "gives", "[I", true)
  | 6 => ("DrainOffice$Ground", "keeps", "[I", true)
  | 7 => ("DrainOffice$Ground", "reaches", "[I", true)
  | _ => ("DrainOffice$Ground", "ditchLevels", "[I", true)
def tyX1 : Nat → FieldType := fun k => match k with
  | 0 => .int
  | 1 => .int
  | 2 => .array .int
  | 3 => .array .int
  | 4 => .array .int
  | 5 => .array .int
  | 6 => .array .int
  | 7 => .array .int
  | _ => .array .int
abbrev wsX10 : List Cond := u_ws RX1 TX1 9
theorem nmX1 : ∀ a, a < 9 → ∀ b, b < 9 → a ≠ b → (TX1 a).2.1 ≠ (TX1 b).2.1 := by decide +kernel
theorem tyX1_ok : ∀ k, k < 9 → parseFieldDescriptor (TX1 k).2.2.1 = some (tyX1 k) := by decide +kernel
abbrev cX1_init : ByteArray := prog_3_method_1_code
def yX1_init : MethodName := ⟨RX1, "<init>", "()V"⟩
abbrev cX1_renew : ByteArray := prog_3_method_2_code
def yX1_renew : MethodName := ⟨RX1, "renew", "(II)V"⟩
abbrev cX1_copyFrom : ByteArray := prog_3_method_3_code
def yX1_copyFrom : MethodName := ⟨RX1, "copyFrom", "(LDrainOffice$Ground;)V"⟩
abbrev cX1_hasPlace : ByteArray := prog_3_method_4_code
def yX1_hasPlace : MethodName := ⟨RX1, "hasPlace", "(I)Z"⟩
abbrev cX1_rowOf : ByteArray := prog_3_method_5_code
def yX1_rowOf : MethodName := ⟨RX1, "rowOf", "(I)I"⟩
abbrev cX1_rowsApart : ByteArray := prog_3_method_6_code
def yX1_rowsApart : MethodName := ⟨RX1, "rowsApart", "(II)I"⟩
abbrev cX1_columnsApart : ByteArray := prog_3_method_7_code
def yX1_columnsApart : MethodName := ⟨RX1, "columnsApart", "(II)I"⟩
abbrev cX1_areInLine : ByteArray := prog_3_method_8_code
def yX1_areInLine : MethodName := ⟨RX1, "areInLine", "(II)Z"⟩
abbrev cX1_coverAt : ByteArray := prog_3_method_9_code
def yX1_coverAt : MethodName := ⟨RX1, "coverAt", "(LDrainOffice$Line;I)I"⟩
abbrev cX1_firstBareStep : ByteArray := prog_3_method_10_code
def yX1_firstBareStep : MethodName := ⟨RX1, "firstBareStep", "(LDrainOffice$Line;)I"⟩
abbrev cX1_isReachedBy : ByteArray := prog_3_method_11_code
def yX1_isReachedBy : MethodName := ⟨RX1, "isReachedBy", "(ILDrainOffice$Line;)Z"⟩
abbrev cX1_costBetween : ByteArray := prog_3_method_12_code
def yX1_costBetween : MethodName := ⟨RX1, "costBetween", "(II)I"⟩
def RX2 : String := "DrainOffice$Group"
def TX2 : u_T := fun k => match k with
  | _ => ("DrainOffice$Group", "bits", "J", false)
def tyX2 : Nat → FieldType := fun k => match k with
  | _ => .long
abbrev wsX20 : List Cond := u_ws RX2 TX2 1
theorem nmX2 : ∀ a, a < 1 → ∀ b, b < 1 → a ≠ b → (TX2 a).2.1 ≠ (TX2 b).2.1 := by decide +kernel
theorem tyX2_ok : ∀ k, k < 1 → parseFieldDescriptor (TX2 k).2.2.1 = some (tyX2 k) := by decide +kernel
abbrev cX2_init : ByteArray := prog_4_method_1_code
def yX2_init : MethodName := ⟨RX2, "<init>", "()V"⟩
abbrev cX2_has : ByteArray := prog_4_method_2_code
def yX2_has : MethodName := ⟨RX2, "has", "(I)Z"⟩
abbrev cX2_put : ByteArray := prog_4_method_3_code
def yX2_put : MethodName := ⟨RX2, "put", "(IZ)I"⟩
abbrev cX2_size : ByteArray := prog_4_method_4_code
def yX2_size : MethodName := ⟨RX2, "size", "()I"⟩
abbrev cX2_clear : ByteArray := prog_4_method_5_code
def yX2_clear : MethodName := ⟨RX2, "clear", "()V"⟩
abbrev cX2_copyFrom : ByteArray := prog_4_method_6_code
def yX2_copyFrom : MethodName := ⟨RX2, "copyFrom", "(LDrainOffice$Group;)V"⟩
def RX3 : String := "DrainOffice$Line"
def TX3 : u_T := fun k => match k with
  | 0 => ("DrainOffice$Line", "first", "I", false)
  | 1 => ("DrainOffice$Line", "stride", "I", false)
  | 2 => ("DrainOffice$Line", "steps", "I", false)
  | 3 => ("DrainOffice$Line", "level", "I", false)
  | _ => ("DrainOffice$Line", "fall", "I", false)
def tyX3 : Nat → FieldType := fun k => match k with
  | 0 => .int
  | 1 => .int
  | 2 => .int
  | 3 => .int
  | _ => .int
abbrev wsX30 : List Cond := u_ws RX3 TX3 5
theorem nmX3 : ∀ a, a < 5 → ∀ b, b < 5 → a ≠ b → (TX3 a).2.1 ≠ (TX3 b).2.1 := by decide +kernel
theorem tyX3_ok : ∀ k, k < 5 → parseFieldDescriptor (TX3 k).2.2.1 = some (tyX3 k) := by decide +kernel
abbrev cX3_init : ByteArray := prog_5_method_1_code
def yX3_init : MethodName := ⟨RX3, "<init>", "()V"⟩
abbrev cX3_set : ByteArray := prog_5_method_2_code
def yX3_set : MethodName := ⟨RX3, "set", "(IIIII)V"⟩
abbrev cX3_clear : ByteArray := prog_5_method_3_code
def yX3_clear : MethodName := ⟨RX3, "clear", "()V"⟩
abbrev cX3_copyFrom : ByteArray := prog_5_method_4_code
def yX3_copyFrom : MethodName := ⟨RX3, "copyFrom", "(LDrainOffice$Line;)V"⟩
abbrev cX3_placeAt : ByteArray := prog_5_method_5_code
def yX3_placeAt : MethodName := ⟨RX3, "placeAt", "(I)I"⟩
abbrev cX3_levelAt : ByteArray := prog_5_method_6_code
def yX3_levelAt : MethodName := ⟨RX3, "levelAt", "(I)I"⟩
abbrev cX3_stepOn : ByteArray := prog_5_method_7_code
def yX3_stepOn : MethodName := ⟨RX3, "stepOn", "(I)I"⟩
def RX4 : String := "DrainOffice$Net"
def TX4 : u_T := fun k => match k with
  | 0 => ("DrainOffice$Net", "pipes", "[LDrainOffice$Pipe;", true)
  | _ => ("DrainOffice$Net", "count", "I", false)
def tyX4 : Nat → FieldType := fun k => match k with
  | 0 => .array (.object "DrainOffice$Pipe")
  | _ => .int
abbrev wsX40 : List Cond := u_ws RX4 TX4 2
theorem nmX4 : ∀ a, a < 2 → ∀ b, b < 2 → a ≠ b → (TX4 a).2.1 ≠ (TX4 b).2.1 := by decide +kernel
theorem tyX4_ok : ∀ k, k < 2 → parseFieldDescriptor (TX4 k).2.2.1 = some (tyX4 k) := by decide +kernel
abbrev cX4_init : ByteArray := prog_6_method_1_code
def yX4_init : MethodName := ⟨RX4, "<init>", "()V"⟩
abbrev cX4_hasPipe : ByteArray := prog_6_method_2_code
def yX4_hasPipe : MethodName := ⟨RX4, "hasPipe", "(I)Z"⟩
abbrev cX4_copyFrom : ByteArray := prog_6_method_3_code
def yX4_copyFrom : MethodName := ⟨RX4, "copyFrom", "(LDrainOffice$Net;)V"⟩
abbrev cX4_rankOf : ByteArray := prog_6_method_4_code
def yX4_rankOf : MethodName := ⟨RX4, "rankOf", "(I)I"⟩
abbrev cX4_leadsTo : ByteArray := prog_6_method_5_code
def yX4_leadsTo : MethodName := ⟨RX4, "leadsTo", "(II)Z"⟩
abbrev cX4_peakOf : ByteArray := prog_6_method_6_code
def yX4_peakOf : MethodName := ⟨RX4, "peakOf", "(I)I"⟩
def RX5 : String := "DrainOffice$Pipe"
def TX5 : u_T := fun k => match k with
  | 0 => ("DrainOffice$Pipe", "line", "LDrainOffice$Line;", true)
  | 1 => ("DrainOffice$Pipe", "kind", "I", false)
  | 2 => ("DrainOffice$Pipe", "width", "I", false)
  | 3 => ("DrainOffice$Pipe", "bears", "I", false)
  | 4 => ("DrainOffice$Pipe", "holds", "I", false)
  | _ => ("DrainOffice$Pipe", "into", "I", false)
def tyX5 : Nat → FieldType := fun k => match k with
  | 0 => .object "DrainOffice$Line"
  | 1 => .int
  | 2 => .int
  | 3 => .int
  | 4 => .int
  | _ => .int
abbrev wsX50 : List Cond := u_ws RX5 TX5 6
theorem nmX5 : ∀ a, a < 6 → ∀ b, b < 6 → a ≠ b → (TX5 a).2.1 ≠ (TX5 b).2.1 := by decide +kernel
theorem tyX5_ok : ∀ k, k < 6 → parseFieldDescriptor (TX5 k).2.2.1 = some (tyX5 k) := by decide +kernel
abbrev cX5_init : ByteArray := prog_7_method_1_code
def yX5_init : MethodName := ⟨RX5, "<init>", "()V"⟩
abbrev cX5_lay : ByteArray := prog_7_method_2_code
def yX5_lay : MethodName := ⟨RX5, "lay", "(LDrainOffice$Line;II)V"⟩
abbrev cX5_copyFrom : ByteArray := prog_7_method_3_code
def yX5_copyFrom : MethodName := ⟨RX5, "copyFrom", "(LDrainOffice$Pipe;)V"⟩
abbrev cX5_isLateral : ByteArray := prog_7_method_4_code
def yX5_isLateral : MethodName := ⟨RX5, "isLateral", "()Z"⟩
abbrev cX5_isMain : ByteArray := prog_7_method_5_code
def yX5_isMain : MethodName := ⟨RX5, "isMain", "()Z"⟩
abbrev cX5_leadsIntoPipe : ByteArray := prog_7_method_6_code
def yX5_leadsIntoPipe : MethodName := ⟨RX5, "leadsIntoPipe", "()Z"⟩
def RX6 : String := "DrainOffice$Sheet"
def TX6 : u_T := fun k => match k with
  | 0 => ("DrainOffice$Sheet", "ground", "LDrainOffice$Ground;", true)
  | 1 => ("DrainOffice$Sheet", "hand", "LDrainOffice$Line;", true)
  | 2 => ("DrainOffice$Sheet", "net", "LDrainOffice$Net;", true)
  | 3 => ("DrainOffice$Sheet", "water", "LDrainOffice$Water;", true)
  | 4 => ("DrainOffice$Sheet", "rain", "[I", true)
  | 5 => ("DrainOffice$Sheet", "marked", "LDrainOffice$Group;", true)
  | _ => ("DrainOffice$Sheet", "sight", "LDrainOffice$Group;", true)
def tyX6 : Nat → FieldType := fun k => match k with
  | 0 => .object "DrainOffice$Ground"
  | 1 => .object "DrainOffice$Line"
  | 2 => .object "DrainOffice$Net"
  | 3 => .object "DrainOffice$Water"
  | 4 => .array .int
  | 5 => .object "DrainOffice$Group"
  | _ => .object "DrainOffice$Group"
abbrev wsX60 : List Cond := u_ws RX6 TX6 7
theorem nmX6 : ∀ a, a < 7 → ∀ b, b < 7 → a ≠ b → (TX6 a).2.1 ≠ (TX6 b).2.1 := by decide +kernel
theorem tyX6_ok : ∀ k, k < 7 → parseFieldDescriptor (TX6 k).2.2.1 = some (tyX6 k) := by decide +kernel
abbrev cX6_init : ByteArray := prog_8_method_1_code
def yX6_init : MethodName := ⟨RX6, "<init>", "()V"⟩
abbrev cX6_copyFrom : ByteArray := prog_8_method_2_code
def yX6_copyFrom : MethodName := ⟨RX6, "copyFrom", "(LDrainOffice$Sheet;)V"⟩
abbrev cX6_isReached : ByteArray := prog_8_method_3_code
def yX6_isReached : MethodName := ⟨RX6, "isReached", "(I)Z"⟩
abbrev cX6_countUnreached : ByteArray := prog_8_method_4_code
def yX6_countUnreached : MethodName := ⟨RX6, "countUnreached", "()I"⟩
def RX7 : String := "DrainOffice$Trenches"
def TX7 : u_T := fun k => match k with
  | 0 => ("DrainOffice$Trenches", "piece", "[I", true)
  | 1 => ("DrainOffice$Trenches", "taken", "[I", true)
  | 2 => ("DrainOffice$Trenches", "count", "I", false)
  | 3 => ("DrainOffice$Trenches", "cost", "I", false)
  | 4 => ("DrainOffice$Trenches", "lesser", "I", false)
  | 5 => ("DrainOffice$Trenches", "greater", "I", false)
  | _ => ("DrainOffice$Trenches", "leastCost", "I", false)
def tyX7 : Nat → FieldType := fun k => match k with
  | 0 => .array .int
  | 1 => .array .int
  | 2 => .int
  | 3 => .int
  | 4 => .int
  | 5 => .int
  | _ => .int
abbrev wsX70 : List Cond := u_ws RX7 TX7 7
theorem nmX7 : ∀ a, a < 7 → ∀ b, b < 7 → a ≠ b → (TX7 a).2.1 ≠ (TX7 b).2.1 := by decide +kernel
theorem tyX7_ok : ∀ k, k < 7 → parseFieldDescriptor (TX7 k).2.2.1 = some (tyX7 k) := by decide +kernel
abbrev cX7_init : ByteArray := prog_9_method_1_code
def yX7_init : MethodName := ⟨RX7, "<init>", "()V"⟩
abbrev cX7_grow : ByteArray := prog_9_method_2_code
def yX7_grow : MethodName := ⟨RX7, "grow", "(LDrainOffice$Ground;LDrainOffice$Group;)V"⟩
abbrev cX7_findLeast : ByteArray := prog_9_method_3_code
def yX7_findLeast : MethodName := ⟨RX7, "findLeast", "(LDrainOffice$Ground;LDrainOffice$Group;)V"⟩
abbrev cX7_offer : ByteArray := prog_9_method_4_code
def yX7_offer : MethodName := ⟨RX7, "offer", "(III)V"⟩
abbrev cX7_take : ByteArray := prog_9_method_5_code
def yX7_take : MethodName := ⟨RX7, "take", "()V"⟩
def RX8 : String := "DrainOffice$Water"
def TX8 : u_T := fun k => match k with
  | 0 => ("DrainOffice$Water", "stands", "[I", true)
  | 1 => ("DrainOffice$Water", "wet", "[I", true)
  | 2 => ("DrainOffice$Water", "inside", "[I", true)
  | 3 => ("DrainOffice$Water", "life", "[I", true)
  | 4 => ("DrainOffice$Water", "passed", "[I", true)
  | 5 => ("DrainOffice$Water", "gone", "[I", true)
  | 6 => ("DrainOffice$Water", "blocked", "LDrainOffice$Group;", true)
  | 7 => ("DrainOffice$Water", "fell", "I", false)
  | _ => ("DrainOffice$Water", "hours", "I", false)
def tyX8 : Nat → FieldType := fun k => match k with
  | 0 => .array .int
  | 1 => .array .int
  | 2 => .array .int
  | 3 => .array .int
  | 4 => .array .int
  | 5 => .array .int
  | 6 => .object "DrainOffice$Group"
  | 7 => .int
  | _ => .int
abbrev wsX80 : List Cond := u_ws RX8 TX8 9
theorem nmX8 : ∀ a, a < 9 → ∀ b, b < 9 → a ≠ b → (TX8 a).2.1 ≠ (TX8 b).2.1 := by decide +kernel
theorem tyX8_ok : ∀ k, k < 9 → parseFieldDescriptor (TX8 k).2.2.1 = some (tyX8 k) := by decide +kernel
abbrev cX8_init : ByteArray := prog_10_method_1_code
def yX8_init : MethodName := ⟨RX8, "<init>", "()V"⟩
abbrev cX8_clear : ByteArray := prog_10_method_2_code
def yX8_clear : MethodName := ⟨RX8, "clear", "()V"⟩
abbrev cX8_copyFrom : ByteArray := prog_10_method_3_code
def yX8_copyFrom : MethodName := ⟨RX8, "copyFrom", "(LDrainOffice$Water;)V"⟩
abbrev cX8_putStanding : ByteArray := prog_10_method_4_code
def yX8_putStanding : MethodName := ⟨RX8, "putStanding", "(LDrainOffice$Group;)V"⟩
abbrev cX8_isStandingJustOn : ByteArray := prog_10_method_5_code
def yX8_isStandingJustOn : MethodName := ⟨RX8, "isStandingJustOn", "(LDrainOffice$Group;)Z"⟩
def RX9 : String := "DrainOffice"
def TX9 : u_T := fun k => match k with
  | 0 => ("DrainOffice", "now", "LDrainOffice$Sheet;", true)
  | 1 => ("DrainOffice", "kept", "LDrainOffice$Sheet;", true)
  | 2 => ("DrainOffice", "isKept", "Z", false)
  | 3 => ("DrainOffice", "tried", "LDrainOffice$Water;", true)
  | 4 => ("DrainOffice", "flow", "LDrainOffice$Flow;", true)
  | _ => ("DrainOffice", "trenches", "LDrainOffice$Trenches;", true)
def tyX9 : Nat → FieldType := fun k => match k with
  | 0 => .object "DrainOffice$Sheet"
  | 1 => .object "DrainOffice$Sheet"
  | 2 => .boolean
  | 3 => .object "DrainOffice$Water"
  | 4 => .object "DrainOffice$Flow"
  | _ => .object "DrainOffice$Trenches"
abbrev wsX90 : List Cond := u_ws RX9 TX9 6
theorem nmX9 : ∀ a, a < 6 → ∀ b, b < 6 → a ≠ b → (TX9 a).2.1 ≠ (TX9 b).2.1 := by decide +kernel
theorem tyX9_ok : ∀ k, k < 6 → parseFieldDescriptor (TX9 k).2.2.1 = some (tyX9 k) := by decide +kernel
abbrev cX9_init : ByteArray := prog_1_method_1_code
def yX9_init : MethodName := ⟨RX9, "<init>", "()V"⟩
abbrev cX9_land : ByteArray := prog_1_method_2_code
def yX9_land : MethodName := ⟨RX9, "land", "(II)I"⟩
abbrev cX9_height : ByteArray := prog_1_method_3_code
def yX9_height : MethodName := ⟨RX9, "height", "(II)I"⟩
abbrev cX9_soil : ByteArray := prog_1_method_4_code
def yX9_soil : MethodName := ⟨RX9, "soil", "(II)I"⟩
abbrev cX9_soils : ByteArray := prog_1_method_5_code
def yX9_soils : MethodName := ⟨RX9, "soils", "(IIIII)I"⟩
abbrev cX9_ditch : ByteArray := prog_1_method_6_code
def yX9_ditch : MethodName := ⟨RX9, "ditch", "(II)I"⟩
abbrev cX9_trench : ByteArray := prog_1_method_7_code
def yX9_trench : MethodName := ⟨RX9, "trench", "(IIII)I"⟩
abbrev cX9_pipe : ByteArray := prog_1_method_8_code
def yX9_pipe : MethodName := ⟨RX9, "pipe", "(III)I"⟩
abbrev cX9_join : ByteArray := prog_1_method_9_code
def yX9_join : MethodName := ⟨RX9, "join", "(II)I"⟩
abbrev cX9_open : ByteArray := prog_1_method_10_code
def yX9_open : MethodName := ⟨RX9, "open", "(II)I"⟩
abbrev cX9_part : ByteArray := prog_1_method_11_code
def yX9_part : MethodName := ⟨RX9, "part", "(I)I"⟩
abbrev cX9_block : ByteArray := prog_1_method_12_code
def yX9_block : MethodName := ⟨RX9, "block", "(IZ)I"⟩
abbrev cX9_of : ByteArray := prog_1_method_13_code
def yX9_of : MethodName := ⟨RX9, "of", "(II)I"⟩
abbrev cX9_step : ByteArray := prog_1_method_14_code
def yX9_step : MethodName := ⟨RX9, "step", "(III)I"⟩
abbrev cX9_rain : ByteArray := prog_1_method_15_code
def yX9_rain : MethodName := ⟨RX9, "rain", "(II)I"⟩
abbrev cX9_hours : ByteArray := prog_1_method_16_code
def yX9_hours : MethodName := ⟨RX9, "hours", "(I)I"⟩
abbrev cX9_at : ByteArray := prog_1_method_17_code
def yX9_at : MethodName := ⟨RX9, "at", "(II)I"⟩
abbrev cX9_all : ByteArray := prog_1_method_18_code
def yX9_all : MethodName := ⟨RX9, "all", "(I)I"⟩
abbrev cX9_many : ByteArray := prog_1_method_19_code
def yX9_many : MethodName := ⟨RX9, "many", "(I)I"⟩
abbrev cX9_dry : ByteArray := prog_1_method_20_code
def yX9_dry : MethodName := ⟨RX9, "dry", "(I)I"⟩
abbrev cX9_mark : ByteArray := prog_1_method_21_code
def yX9_mark : MethodName := ⟨RX9, "mark", "(IZ)I"⟩
abbrev cX9_tree : ByteArray := prog_1_method_22_code
def yX9_tree : MethodName := ⟨RX9, "tree", "()I"⟩
abbrev cX9_pair : ByteArray := prog_1_method_23_code
def yX9_pair : MethodName := ⟨RX9, "pair", "(I)I"⟩
abbrev cX9_sight : ByteArray := prog_1_method_24_code
def yX9_sight : MethodName := ⟨RX9, "sight", "(IZ)I"⟩
abbrev cX9_see : ByteArray := prog_1_method_25_code
def yX9_see : MethodName := ⟨RX9, "see", "()I"⟩
abbrev cX9_where : ByteArray := prog_1_method_26_code
def yX9_where : MethodName := ⟨RX9, "where", "(II)I"⟩
abbrev cX9_pairWhere : ByteArray := prog_1_method_27_code
def yX9_pairWhere : MethodName := ⟨RX9, "pairWhere", "(II)I"⟩
abbrev cX9_fitsAlone : ByteArray := prog_1_method_28_code
def yX9_fitsAlone : MethodName := ⟨RX9, "fitsAlone", "(II)Z"⟩
abbrev cX9_fitsTogether : ByteArray := prog_1_method_29_code
def yX9_fitsTogether : MethodName := ⟨RX9, "fitsTogether", "(III)Z"⟩
abbrev cX9_fits : ByteArray := prog_1_method_30_code
def yX9_fits : MethodName := ⟨RX9, "fits", "(III)Z"⟩
abbrev cX9_keep : ByteArray := prog_1_method_31_code
def yX9_keep : MethodName := ⟨RX9, "keep", "()I"⟩
abbrev cX9_back : ByteArray := prog_1_method_32_code
def yX9_back : MethodName := ⟨RX9, "back", "()I"⟩
abbrev cX9_isWithin : ByteArray := prog_1_method_33_code
def yX9_isWithin : MethodName := ⟨RX9, "isWithin", "(III)Z"⟩
abbrev cX9_sum : ByteArray := prog_1_method_34_code
def yX9_sum : MethodName := ⟨RX9, "sum", "([I)I"⟩
abbrev cX9_fill : ByteArray := prog_1_method_35_code
def yX9_fill : MethodName := ⟨RX9, "fill", "([II)V"⟩
abbrev cX9_copy : ByteArray := prog_1_method_36_code
def yX9_copy : MethodName := ⟨RX9, "copy", "([I[I)V"⟩
def RX10 : String := "DrainOfficeModel"
def TX10 : u_T := fun k => match k with
  | 0 => ("DrainOfficeModel", "now", "[I", true)
  | 1 => ("DrainOfficeModel", "kept", "[I", true)
  | 2 => ("DrainOfficeModel", "tried", "[I", true)
  | 3 => ("DrainOfficeModel", "isKept", "Z", false)
  | 4 => ("DrainOfficeModel", "heaps", "[I", true)
  | 5 => ("DrainOfficeModel", "pairs", "[I", true)
  | _ => ("DrainOfficeModel", "pairMany", "I", false)
def tyX10 : Nat → FieldType := fun k => match k with
  | 0 => .array .int
  | 1 => .array .int
  | 2 => .array .int
  | 3 => .boolean
  | 4 => .array .int
  | 5 => .array .int
  | _ => .int
abbrev wsX100 : List Cond := u_ws RX10 TX10 7
theorem nmX10 : ∀ a, a < 7 → ∀ b, b < 7 → a ≠ b → (TX10 a).2.1 ≠ (TX10 b).2.1 := by decide +kernel
theorem tyX10_ok : ∀ k, k < 7 → parseFieldDescriptor (TX10 k).2.2.1 = some (tyX10 k) := by decide +kernel
abbrev cX10_init : ByteArray := prog_12_method_1_code
def yX10_init : MethodName := ⟨RX10, "<init>", "()V"⟩
abbrev cX10_in : ByteArray := prog_12_method_2_code
def yX10_in : MethodName := ⟨RX10, "in", "(III)Z"⟩
abbrev cX10_places : ByteArray := prog_12_method_3_code
def yX10_places : MethodName := ⟨RX10, "places", "()I"⟩
abbrev cX10_isPlace : ByteArray := prog_12_method_4_code
def yX10_isPlace : MethodName := ⟨RX10, "isPlace", "(I)Z"⟩
abbrev cX10_isPipe : ByteArray := prog_12_method_5_code
def yX10_isPipe : MethodName := ⟨RX10, "isPipe", "(I)Z"⟩
abbrev cX10_pipeOf : ByteArray := prog_12_method_6_code
def yX10_pipeOf : MethodName := ⟨RX10, "pipeOf", "(II)I"⟩
abbrev cX10_setPipe : ByteArray := prog_12_method_7_code
def yX10_setPipe : MethodName := ⟨RX10, "setPipe", "(III)V"⟩
abbrev cX10_rowOf : ByteArray := prog_12_method_8_code
def yX10_rowOf : MethodName := ⟨RX10, "rowOf", "(I)I"⟩
abbrev cX10_columnOf : ByteArray := prog_12_method_9_code
def yX10_columnOf : MethodName := ⟨RX10, "columnOf", "(I)I"⟩
abbrev cX10_size : ByteArray := prog_12_method_10_code
def yX10_size : MethodName := ⟨RX10, "size", "(I)I"⟩
abbrev cX10_lesser : ByteArray := prog_12_method_11_code
def yX10_lesser : MethodName := ⟨RX10, "lesser", "(II)I"⟩
abbrev cX10_land : ByteArray := prog_12_method_12_code
def yX10_land : MethodName := ⟨RX10, "land", "(II)I"⟩
abbrev cX10_height : ByteArray := prog_12_method_13_code
def yX10_height : MethodName := ⟨RX10, "height", "(II)I"⟩
abbrev cX10_soil : ByteArray := prog_12_method_14_code
def yX10_soil : MethodName := ⟨RX10, "soil", "(II)I"⟩
abbrev cX10_soils : ByteArray := prog_12_method_15_code
def yX10_soils : MethodName := ⟨RX10, "soils", "(IIIII)I"⟩
abbrev cX10_soilOf : ByteArray := prog_12_method_16_code
def yX10_soilOf : MethodName := ⟨RX10, "soilOf", "(II)I"⟩
abbrev cX10_ditch : ByteArray := prog_12_method_17_code
def yX10_ditch : MethodName := ⟨RX10, "ditch", "(II)I"⟩
abbrev cX10_trench : ByteArray := prog_12_method_18_code
def yX10_trench : MethodName := ⟨RX10, "trench", "(IIII)I"⟩
abbrev cX10_placeAt : ByteArray := prog_12_method_19_code
def yX10_placeAt : MethodName := ⟨RX10, "placeAt", "(III)I"⟩
abbrev cX10_pipe : ByteArray := prog_12_method_20_code
def yX10_pipe : MethodName := ⟨RX10, "pipe", "(III)I"⟩
abbrev cX10_stepPlace : ByteArray := prog_12_method_21_code
def yX10_stepPlace : MethodName := ⟨RX10, "stepPlace", "(II)I"⟩
abbrev cX10_levelAt : ByteArray := prog_12_method_22_code
def yX10_levelAt : MethodName := ⟨RX10, "levelAt", "(II)I"⟩
abbrev cX10_stepOf : ByteArray := prog_12_method_23_code
def yX10_stepOf : MethodName := ⟨RX10, "stepOf", "(II)I"⟩
abbrev cX10_rank : ByteArray := prog_12_method_24_code
def yX10_rank : MethodName := ⟨RX10, "rank", "(I)I"⟩
abbrev cX10_join : ByteArray := prog_12_method_25_code
def yX10_join : MethodName := ⟨RX10, "join", "(II)I"⟩
abbrev cX10_open : ByteArray := prog_12_method_26_code
def yX10_open : MethodName := ⟨RX10, "open", "(II)I"⟩
abbrev cX10_part : ByteArray := prog_12_method_27_code
def yX10_part : MethodName := ⟨RX10, "part", "(I)I"⟩
abbrev cX10_block : ByteArray := prog_12_method_28_code
def yX10_block : MethodName := ⟨RX10, "block", "(IZ)I"⟩
abbrev cX10_bears : ByteArray := prog_12_method_29_code
def yX10_bears : MethodName := ⟨RX10, "bears", "(I)I"⟩
abbrev cX10_holds : ByteArray := prog_12_method_30_code
def yX10_holds : MethodName := ⟨RX10, "holds", "(I)I"⟩
abbrev cX10_peak : ByteArray := prog_12_method_31_code
def yX10_peak : MethodName := ⟨RX10, "peak", "(I)I"⟩
abbrev cX10_of : ByteArray := prog_12_method_32_code
def yX10_of : MethodName := ⟨RX10, "of", "(II)I"⟩
abbrev cX10_step : ByteArray := prog_12_method_33_code
def yX10_step : MethodName := ⟨RX10, "step", "(III)I"⟩
abbrev cX10_rain : ByteArray := prog_12_method_34_code
def yX10_rain : MethodName := ⟨RX10, "rain", "(II)I"⟩
abbrev cX10_fall : ByteArray := prog_12_method_35_code
def yX10_fall : MethodName := ⟨RX10, "fall", "()V"⟩
abbrev cX10_isLateral : ByteArray := prog_12_method_36_code
def yX10_isLateral : MethodName := ⟨RX10, "isLateral", "(I)Z"⟩
abbrev cX10_seep : ByteArray := prog_12_method_37_code
def yX10_seep : MethodName := ⟨RX10, "seep", "()V"⟩
abbrev cX10_pass : ByteArray := prog_12_method_38_code
def yX10_pass : MethodName := ⟨RX10, "pass", "(I)I"⟩
abbrev cX10_hour : ByteArray := prog_12_method_39_code
def yX10_hour : MethodName := ⟨RX10, "hour", "()I"⟩
abbrev cX10_hours : ByteArray := prog_12_method_40_code
def yX10_hours : MethodName := ⟨RX10, "hours", "(I)I"⟩
abbrev cX10_isReached : ByteArray := prog_12_method_41_code
def yX10_isReached : MethodName := ⟨RX10, "isReached", "(I)Z"⟩
abbrev cX10_at : ByteArray := prog_12_method_42_code
def yX10_at : MethodName := ⟨RX10, "at", "(II)I"⟩
abbrev cX10_sum : ByteArray := prog_12_method_43_code
def yX10_sum : MethodName := ⟨RX10, "sum", "(I)I"⟩
abbrev cX10_sumOfPipes : ByteArray := prog_12_method_44_code
def yX10_sumOfPipes : MethodName := ⟨RX10, "sumOfPipes", "(I)I"⟩
abbrev cX10_all : ByteArray := prog_12_method_45_code
def yX10_all : MethodName := ⟨RX10, "all", "(I)I"⟩
abbrev cX10_dryMany : ByteArray := prog_12_method_46_code
def yX10_dryMany : MethodName := ⟨RX10, "dryMany", "()I"⟩
abbrev cX10_many : ByteArray := prog_12_method_47_code
def yX10_many : MethodName := ⟨RX10, "many", "(I)I"⟩
abbrev cX10_dry : ByteArray := prog_12_method_48_code
def yX10_dry : MethodName := ⟨RX10, "dry", "(I)I"⟩
abbrev cX10_set : ByteArray := prog_12_method_49_code
def yX10_set : MethodName := ⟨RX10, "set", "(IIZ)I"⟩
abbrev cX10_mark : ByteArray := prog_12_method_50_code
def yX10_mark : MethodName := ⟨RX10, "mark", "(IZ)I"⟩
abbrev cX10_cost : ByteArray := prog_12_method_51_code
def yX10_cost : MethodName := ⟨RX10, "cost", "(II)I"⟩
abbrev cX10_takePair : ByteArray := prog_12_method_52_code
def yX10_takePair : MethodName := ⟨RX10, "takePair", "()Z"⟩
abbrev cX10_findTree : ByteArray := prog_12_method_53_code
def yX10_findTree : MethodName := ⟨RX10, "findTree", "()V"⟩
abbrev cX10_tree : ByteArray := prog_12_method_54_code
def yX10_tree : MethodName := ⟨RX10, "tree", "()I"⟩
abbrev cX10_pair : ByteArray := prog_12_method_55_code
def yX10_pair : MethodName := ⟨RX10, "pair", "(I)I"⟩
abbrev cX10_sight : ByteArray := prog_12_method_56_code
def yX10_sight : MethodName := ⟨RX10, "sight", "(IZ)I"⟩
abbrev cX10_see : ByteArray := prog_12_method_57_code
def yX10_see : MethodName := ⟨RX10, "see", "()I"⟩
abbrev cX10_copy : ByteArray := prog_12_method_58_code
def yX10_copy : MethodName := ⟨RX10, "copy", "([I[I)V"⟩
abbrev cX10_fits : ByteArray := prog_12_method_59_code
def yX10_fits : MethodName := ⟨RX10, "fits", "(III)Z"⟩
abbrev cX10_where : ByteArray := prog_12_method_60_code
def yX10_where : MethodName := ⟨RX10, "where", "(II)I"⟩
abbrev cX10_keep : ByteArray := prog_12_method_61_code
def yX10_keep : MethodName := ⟨RX10, "keep", "()I"⟩
abbrev cX10_back : ByteArray := prog_12_method_62_code
def yX10_back : MethodName := ⟨RX10, "back", "()I"⟩
def RJ13 : String := "java/lang/Long"
def TJ13 : u_T := fun k => match k with
  | _ => ("", "", "", false)
def tyJ13 : Nat → FieldType := fun k => match k with
  | _ => .int
abbrev wsJ130 : List Cond := u_ws RJ13 TJ13 0
theorem nmJ13 : ∀ a, a < 0 → ∀ b, b < 0 → a ≠ b → (TJ13 a).2.1 ≠ (TJ13 b).2.1 := by decide +kernel
theorem tyJ13_ok : ∀ k, k < 0 → parseFieldDescriptor (TJ13 k).2.2.1 = some (tyJ13 k) := by decide +kernel
abbrev cJ13_bitCount_95d88 : ByteArray := prog_13_method_50_code
def yJ13_bitCount_95d88 : MethodName := ⟨RJ13, "bitCount", "(J)I"⟩
def RJ9 : String := "java/lang/Math"
def TJ9 : u_T := fun k => match k with
  | _ => ("", "", "", false)
def tyJ9 : Nat → FieldType := fun k => match k with
  | _ => .int
abbrev wsJ90 : List Cond := u_ws RJ9 TJ9 0
theorem nmJ9 : ∀ a, a < 0 → ∀ b, b < 0 → a ≠ b → (TJ9 a).2.1 ≠ (TJ9 b).2.1 := by decide +kernel
theorem tyJ9_ok : ∀ k, k < 0 → parseFieldDescriptor (TJ9 k).2.2.1 = some (tyJ9 k) := by decide +kernel
abbrev cJ9_abs_0f7a4 : ByteArray := prog_14_method_59_code
def yJ9_abs_0f7a4 : MethodName := ⟨RJ9, "abs", "(I)I"⟩
abbrev cJ9_max_7cf53 : ByteArray := prog_14_method_65_code
def yJ9_max_7cf53 : MethodName := ⟨RJ9, "max", "(II)I"⟩
abbrev cJ9_min_7cf53 : ByteArray := prog_14_method_69_code
def yJ9_min_7cf53 : MethodName := ⟨RJ9, "min", "(II)I"⟩
def RL : String := "DrainOfficeLaw"
abbrev cL_law : ByteArray := code
def yL_law : MethodName := ⟨RL, "law", "([I)Z"⟩
abbrev vwCl : List vw_C := [(RX0, TX0, 4), (RX1, TX1, 9), (RX2, TX2, 1), (RX3, TX3, 5), (RX4, TX4, 2), (RX5, TX5, 6), (RX6, TX6, 7), (RX7, TX7, 7), (RX8, TX8, 9), (RX9, TX9, 6), (RX10, TX10, 7)]
end
section
theorem dX0_init_0 : decode cX0_init 0 = .ok (.aload_n 0, 1) := by decide +kernel
theorem dX0_init_1 : decode cX0_init 1 = .ok (.invokespecial 3, 3) := by decide +kernel
theorem dX0_init_4 : decode cX0_init 4 = .ok (.aload_n 0, 1) := by decide +kernel
theorem dX0_init_5 : decode cX0_init 5 = .ok (.bipush 20, 2) := by decide +kernel
theorem dX0_init_7 : decode cX0_init 7 = .ok (.newarray .int, 2) := by decide +kernel
theorem dX0_init_9 : decode cX0_init 9 = .ok (.putfield 9, 3) := by decide +kernel
theorem dX0_init_12 : decode cX0_init 12 = .ok (.aload_n 0, 1) := by decide +kernel
theorem dX0_init_13 : decode cX0_init 13 = .ok (.bipush 20, 2) := by decide +kernel
theorem dX0_init_15 : decode cX0_init 15 = .ok (.newarray .int, 2) := by decide +kernel
theorem dX0_init_17 : decode cX0_init 17 = .ok (.putfield 15, 3) := by decide +kernel
theorem dX0_init_20 : decode cX0_init 20 = .ok (.aload_n 0, 1) := by decide +kernel
theorem dX0_init_21 : decode cX0_init 21 = .ok (.bipush 36, 2) := by decide +kernel
theorem dX0_init_23 : decode cX0_init 23 = .ok (.newarray .int, 2) := by decide +kernel
theorem dX0_init_25 : decode cX0_init 25 = .ok (.putfield 18, 3) := by decide +kernel
theorem dX0_init_28 : decode cX0_init 28 = .ok (.aload_n 0, 1) := by decide +kernel
theorem dX0_init_29 : decode cX0_init 29 = .ok (.sipush 720, 3) := by decide +kernel
theorem dX0_init_32 : decode cX0_init 32 = .ok (.newarray .int, 2) := by decide +kernel
theorem dX0_init_34 : decode cX0_init 34 = .ok (.putfield 21, 3) := by decide +kernel
theorem dX0_init_37 : decode cX0_init 37 = .ok (.return_, 1) := by decide +kernel
theorem dX0_plan_0 : decode cX0_plan 0 = .ok (.aload_n 0, 1) := by decide +kernel
theorem dX0_plan_1 : decode cX0_plan 1 = .ok (.aload_n 1, 1) := by decide +kernel
theorem dX0_plan_2 : decode cX0_plan 2 = .ok (.invokevirtual 24, 3) := by decide +kernel
theorem dX0_plan_5 : decode cX0_plan 5 = .ok (.aload_n 0, 1) := by decide +kernel
theorem dX0_plan_6 : decode cX0_plan 6 = .ok (.aload_n 1, 1) := by decide +kernel
theorem dX0_plan_7 : decode cX0_plan 7 = .ok (.invokevirtual 28, 3) := by decide +kernel
theorem dX0_plan_10 : decode cX0_plan 10 = .ok (.return_, 1) := by decide +kernel
theorem dX0_planDrains_0 : decode cX0_planDrains 0 = .ok (.aload_n 0, 1) := by decide +kernel
theorem dX0_planDrains_1 : decode cX0_planDrains 1 = .ok (.getfield 18, 3) := by decide +kernel
theorem dX0_planDrains_4 : decode cX0_planDrains 4 = .ok (.iconst 0, 1) := by decide +kernel
theorem dX0_planDrains_5 : decode cX0_planDrains 5 = .ok (.invokestatic 31, 3) := by decide +kernel
theorem dX0_planDrains_8 : decode cX0_planDrains 8 = .ok (.iconst 0, 1) := by decide +kernel
theorem dX0_planDrains_9 : decode cX0_planDrains 9 = .ok (.istore_n 2, 1) := by decide +kernel
theorem dX0_planDrains_10 : decode cX0_planDrains 10 = .ok (.iload_n 2, 1) := by decide +kernel
theorem dX0_planDrains_11 : decode cX0_planDrains 11 = .ok (.aload_n 1, 1) := by decide +kernel
theorem dX0_planDrains_12 : decode cX0_planDrains 12 = .ok (.getfield 35, 3) := by decide +kernel
theorem dX0_planDrains_15 : decode cX0_planDrains 15 = .ok (.if_icmp .ge 35, 3) := by decide +kernel
theorem dX0_planDrains_18 : decode cX0_planDrains 18 = .ok (.aload_n 1, 1) := by decide +kernel
theorem dX0_planDrains_19 : decode cX0_planDrains 19 = .ok (.getfield 41, 3) := by decide +kernel
theorem dX0_planDrains_22 : decode cX0_planDrains 22 = .ok (.iload_n 2, 1) := by decide +kernel
theorem dX0_planDrains_23 : decode cX0_planDrains 23 = .ok (.aaload, 1) := by decide +kernel
theorem dX0_planDrains_24 : decode cX0_planDrains 24 = .ok (.invokevirtual 45, 3) := by decide +kernel
theorem dX0_planDrains_27 : decode cX0_planDrains 27 = .ok (.ifCond .eq 17, 3) := by decide +kernel
theorem dX0_planDrains_30 : decode cX0_planDrains 30 = .ok (.aload_n 0, 1) := by decide +kernel
theorem dX0_planDrains_31 : decode cX0_planDrains 31 = .ok (.aload_n 1, 1) := by decide +kernel
theorem dX0_planDrains_32 : decode cX0_planDrains 32 = .ok (.getfield 41, 3) := by decide +kernel
theorem dX0_planDrains_35 : decode cX0_planDrains 35 = .ok (.iload_n 2, 1) := by decide +kernel
theorem dX0_planDrains_36 : decode cX0_planDrains 36 = .ok (.aaload, 1) := by decide +kernel
theorem dX0_planDrains_37 : decode cX0_planDrains 37 = .ok (.getfield 51, 3) := by decide +kernel
theorem dX0_planDrains_40 : decode cX0_planDrains 40 = .ok (.iload_n 2, 1) := by decide +kernel
theorem dX0_planDrains_41 : decode cX0_planDrains 41 = .ok (.invokevirtual 55, 3) := by decide +kernel
theorem dX0_planDrains_44 : decode cX0_planDrains 44 = .ok (.iinc 2 1, 3) := by decide +kernel
theorem dX0_planDrains_47 : decode cX0_planDrains 47 = .ok (.goto (-37), 3) := by decide +kernel
theorem dX0_planDrains_50 : decode cX0_planDrains 50 = .ok (.return_, 1) := by decide +kernel
theorem dX0_addDrain_0 : decode cX0_addDrain 0 = .ok (.iconst 0, 1) := by decide +kernel
theorem dX0_addDrain_1 : decode cX0_addDrain 1 = .ok (.istore_n 3, 1) := by decide +kernel
theorem dX0_addDrain_2 : decode cX0_addDrain 2 = .ok (.iload_n 3, 1) := by decide +kernel
theorem dX0_addDrain_3 : decode cX0_addDrain 3 = .ok (.aload_n 1, 1) := by decide +kernel
theorem dX0_addDrain_4 : decode cX0_addDrain 4 = .ok (.getfield 59, 3) := by decide +kernel
theorem dX0_addDrain_7 : decode cX0_addDrain 7 = .ok (.if_icmp .ge 46, 3) := by decide +kernel
theorem dX0_addDrain_10 : decode cX0_addDrain 10 = .ok (.aload_n 1, 1) := by decide +kernel
theorem dX0_addDrain_11 : decode cX0_addDrain 11 = .ok (.iload_n 3, 1) := by decide +kernel
theorem dX0_addDrain_12 : decode cX0_addDrain 12 = .ok (.invokevirtual 64, 3) := by decide +kernel
theorem dX0_addDrain_15 : decode cX0_addDrain 15 = .ok (.istore 4, 2) := by decide +kernel
theorem dX0_addDrain_17 : decode cX0_addDrain 17 = .ok (.aload_n 0, 1) := by decide +kernel
theorem dX0_addDrain_18 : decode cX0_addDrain 18 = .ok (.getfield 21, 3) := by decide +kernel
theorem dX0_addDrain_21 : decode cX0_addDrain 21 = .ok (.iload 4, 2) := by decide +kernel
theorem dX0_addDrain_23 : decode cX0_addDrain 23 = .ok (.bipush 20, 2) := by decide +kernel
theorem dX0_addDrain_25 : decode cX0_addDrain 25 = .ok (.imul, 1) := by decide +kernel
theorem dX0_addDrain_26 : decode cX0_addDrain 26 = .ok (.aload_n 0, 1) := by decide +kernel
theorem dX0_addDrain_27 : decode cX0_addDrain 27 = .ok (.getfield 18, 3) := by decide +kernel
theorem dX0_addDrain_30 : decode cX0_addDrain 30 = .ok (.iload 4, 2) := by decide +kernel
theorem dX0_addDrain_32 : decode cX0_addDrain 32 = .ok (.iaload, 1) := by decide +kernel
theorem dX0_addDrain_33 : decode cX0_addDrain 33 = .ok (.iadd, 1) := by decide +kernel
theorem dX0_addDrain_34 : decode cX0_addDrain 34 = .ok (.iload_n 2, 1) := by decide +kernel
theorem dX0_addDrain_35 : decode cX0_addDrain 35 = .ok (.iastore, 1) := by decide +kernel
theorem dX0_addDrain_36 : decode cX0_addDrain 36 = .ok (.aload_n 0, 1) := by decide +kernel
theorem dX0_addDrain_37 : decode cX0_addDrain 37 = .ok (.getfield 18, 3) := by decide +kernel
theorem dX0_addDrain_40 : decode cX0_addDrain 40 = .ok (.iload 4, 2) := by decide +kernel
theorem dX0_addDrain_42 : decode cX0_addDrain 42 = .ok (.dup2, 1) := by decide +kernel
theorem dX0_addDrain_43 : decode cX0_addDrain 43 = .ok (.iaload, 1) := by decide +kernel
theorem dX0_addDrain_44 : decode cX0_addDrain 44 = .ok (.iconst 1, 1) := by decide +kernel
theorem dX0_addDrain_45 : decode cX0_addDrain 45 = .ok (.iadd, 1) := by decide +kernel
theorem dX0_addDrain_46 : decode cX0_addDrain 46 = .ok (.iastore, 1) := by decide +kernel
theorem dX0_addDrain_47 : decode cX0_addDrain 47 = .ok (.iinc 3 1, 3) := by decide +kernel
theorem dX0_addDrain_50 : decode cX0_addDrain 50 = .ok (.goto (-48), 3) := by decide +kernel
theorem dX0_addDrain_53 : decode cX0_addDrain 53 = .ok (.return_, 1) := by decide +kernel
theorem dX0_planOrder_0 : decode cX0_planOrder 0 = .ok (.iconst 0, 1) := by decide +kernel
theorem dX0_planOrder_1 : decode cX0_planOrder 1 = .ok (.istore_n 2, 1) := by decide +kernel
theorem dX0_planOrder_2 : decode cX0_planOrder 2 = .ok (.iload_n 2, 1) := by decide +kernel
theorem dX0_planOrder_3 : decode cX0_planOrder 3 = .ok (.aload_n 1, 1) := by decide +kernel
theorem dX0_planOrder_4 : decode cX0_planOrder 4 = .ok (.getfield 35, 3) := by decide +kernel
theorem dX0_planOrder_7 : decode cX0_planOrder 7 = .ok (.if_icmp .ge 20, 3) := by decide +kernel
theorem dX0_planOrder_10 : decode cX0_planOrder 10 = .ok (.aload_n 0, 1) := by decide +kernel
theorem dX0_planOrder_11 : decode cX0_planOrder 11 = .ok (.getfield 15, 3) := by decide +kernel
theorem dX0_planOrder_14 : decode cX0_planOrder 14 = .ok (.iload_n 2, 1) := by decide +kernel
theorem dX0_planOrder_15 : decode cX0_planOrder 15 = .ok (.aload_n 1, 1) := by decide +kernel
theorem dX0_planOrder_16 : decode cX0_planOrder 16 = .ok (.iload_n 2, 1) := by decide +kernel
theorem dX0_planOrder_17 : decode cX0_planOrder 17 = .ok (.invokevirtual 68, 3) := by decide +kernel
theorem dX0_planOrder_20 : decode cX0_planOrder 20 = .ok (.iastore, 1) := by decide +kernel
theorem dX0_planOrder_21 : decode cX0_planOrder 21 = .ok (.iinc 2 1, 3) := by decide +kernel
theorem dX0_planOrder_24 : decode cX0_planOrder 24 = .ok (.goto (-22), 3) := by decide +kernel
theorem dX0_planOrder_27 : decode cX0_planOrder 27 = .ok (.iconst 0, 1) := by decide +kernel
theorem dX0_planOrder_28 : decode cX0_planOrder 28 = .ok (.istore_n 2, 1) := by decide +kernel
theorem dX0_planOrder_29 : decode cX0_planOrder 29 = .ok (.iconst 0, 1) := by decide +kernel
theorem dX0_planOrder_30 : decode cX0_planOrder 30 = .ok (.istore_n 3, 1) := by decide +kernel
theorem dX0_planOrder_31 : decode cX0_planOrder 31 = .ok (.iload_n 3, 1) := by decide +kernel
theorem dX0_planOrder_32 : decode cX0_planOrder 32 = .ok (.aload_n 1, 1) := by decide +kernel
theorem dX0_planOrder_33 : decode cX0_planOrder 33 = .ok (.getfield 35, 3) := by decide +kernel
theorem dX0_planOrder_36 : decode cX0_planOrder 36 = .ok (.if_icmp .ge 49, 3) := by decide +kernel
theorem dX0_planOrder_39 : decode cX0_planOrder 39 = .ok (.iconst 0, 1) := by decide +kernel
theorem dX0_planOrder_40 : decode cX0_planOrder 40 = .ok (.istore 4, 2) := by decide +kernel
theorem dX0_planOrder_42 : decode cX0_planOrder 42 = .ok (.iload 4, 2) := by decide +kernel
theorem dX0_planOrder_44 : decode cX0_planOrder 44 = .ok (.aload_n 1, 1) := by decide +kernel
theorem dX0_planOrder_45 : decode cX0_planOrder 45 = .ok (.getfield 35, 3) := by decide +kernel
theorem dX0_planOrder_48 : decode cX0_planOrder 48 = .ok (.if_icmp .ge 31, 3) := by decide +kernel
theorem dX0_planOrder_51 : decode cX0_planOrder 51 = .ok (.aload_n 0, 1) := by decide +kernel
theorem dX0_planOrder_52 : decode cX0_planOrder 52 = .ok (.getfield 15, 3) := by decide +kernel
theorem dX0_planOrder_55 : decode cX0_planOrder 55 = .ok (.iload 4, 2) := by decide +kernel
theorem dX0_planOrder_57 : decode cX0_planOrder 57 = .ok (.iaload, 1) := by decide +kernel
theorem dX0_planOrder_58 : decode cX0_planOrder 58 = .ok (.iload_n 3, 1) := by decide +kernel
theorem dX0_planOrder_59 : decode cX0_planOrder 59 = .ok (.if_icmp .ne 14, 3) := by decide +kernel
theorem dX0_planOrder_62 : decode cX0_planOrder 62 = .ok (.aload_n 0, 1) := by decide +kernel
theorem dX0_planOrder_63 : decode cX0_planOrder 63 = .ok (.getfield 9, 3) := by decide +kernel
theorem dX0_planOrder_66 : decode cX0_planOrder 66 = .ok (.iload_n 2, 1) := by decide +kernel
theorem dX0_planOrder_67 : decode cX0_planOrder 67 = .ok (.iload 4, 2) := by decide +kernel
theorem dX0_planOrder_69 : decode cX0_planOrder 69 = .ok (.iastore, 1) := by decide +kernel
theorem dX0_planOrder_70 : decode cX0_planOrder 70 = .ok (.iinc 2 1, 3) := by decide +kernel
theorem dX0_planOrder_73 : decode cX0_planOrder 73 = .ok (.iinc 4 1, 3) := by decide +kernel
theorem dX0_planOrder_76 : decode cX0_planOrder 76 = .ok (.goto (-34), 3) := by decide +kernel
theorem dX0_planOrder_79 : decode cX0_planOrder 79 = .ok (.iinc 3 1, 3) := by decide +kernel
theorem dX0_planOrder_82 : decode cX0_planOrder 82 = .ok (.goto (-51), 3) := by decide +kernel
theorem dX0_planOrder_85 : decode cX0_planOrder 85 = .ok (.return_, 1) := by decide +kernel
theorem dX0_passHour_0 : decode cX0_passHour 0 = .ok (.iconst 0, 1) := by decide +kernel
theorem dX0_passHour_1 : decode cX0_passHour 1 = .ok (.istore_n 3, 1) := by decide +kernel
theorem dX0_passHour_2 : decode cX0_passHour 2 = .ok (.iload_n 3, 1) := by decide +kernel
theorem dX0_passHour_3 : decode cX0_passHour 3 = .ok (.aload_n 1, 1) := by decide +kernel
theorem dX0_passHour_4 : decode cX0_passHour 4 = .ok (.getfield 71, 3) := by decide +kernel
theorem dX0_passHour_7 : decode cX0_passHour 7 = .ok (.getfield 77, 3) := by decide +kernel
theorem dX0_passHour_10 : decode cX0_passHour 10 = .ok (.if_icmp .ge 23, 3) := by decide +kernel
theorem dX0_passHour_13 : decode cX0_passHour 13 = .ok (.aload_n 0, 1) := by decide +kernel
theorem dX0_passHour_14 : decode cX0_passHour 14 = .ok (.aload_n 1, 1) := by decide +kernel
theorem dX0_passHour_15 : decode cX0_passHour 15 = .ok (.aload_n 2, 1) := by decide +kernel
theorem dX0_passHour_16 : decode cX0_passHour 16 = .ok (.iload_n 3, 1) := by decide +kernel
theorem dX0_passHour_17 : decode cX0_passHour 17 = .ok (.invokevirtual 82, 3) := by decide +kernel
theorem dX0_passHour_20 : decode cX0_passHour 20 = .ok (.aload_n 0, 1) := by decide +kernel
theorem dX0_passHour_21 : decode cX0_passHour 21 = .ok (.aload_n 1, 1) := by decide +kernel
theorem dX0_passHour_22 : decode cX0_passHour 22 = .ok (.aload_n 2, 1) := by decide +kernel
theorem dX0_passHour_23 : decode cX0_passHour 23 = .ok (.iload_n 3, 1) := by decide +kernel
theorem dX0_passHour_24 : decode cX0_passHour 24 = .ok (.invokevirtual 86, 3) := by decide +kernel
theorem dX0_passHour_27 : decode cX0_passHour 27 = .ok (.iinc 3 1, 3) := by decide +kernel
theorem dX0_passHour_30 : decode cX0_passHour 30 = .ok (.goto (-28), 3) := by decide +kernel
theorem dX0_passHour_33 : decode cX0_passHour 33 = .ok (.iconst 0, 1) := by decide +kernel
theorem dX0_passHour_34 : decode cX0_passHour 34 = .ok (.istore_n 3, 1) := by decide +kernel
theorem dX0_passHour_35 : decode cX0_passHour 35 = .ok (.iload_n 3, 1) := by decide +kernel
theorem dX0_passHour_36 : decode cX0_passHour 36 = .ok (.aload_n 1, 1) := by decide +kernel
theorem dX0_passHour_37 : decode cX0_passHour 37 = .ok (.getfield 89, 3) := by decide +kernel
theorem dX0_passHour_40 : decode cX0_passHour 40 = .ok (.getfield 35, 3) := by decide +kernel
theorem dX0_passHour_43 : decode cX0_passHour 43 = .ok (.if_icmp .ge 21, 3) := by decide +kernel
theorem dX0_passHour_46 : decode cX0_passHour 46 = .ok (.aload_n 0, 1) := by decide +kernel
theorem dX0_passHour_47 : decode cX0_passHour 47 = .ok (.aload_n 1, 1) := by decide +kernel
theorem dX0_passHour_48 : decode cX0_passHour 48 = .ok (.aload_n 2, 1) := by decide +kernel
theorem dX0_passHour_49 : decode cX0_passHour 49 = .ok (.aload_n 0, 1) := by decide +kernel
theorem dX0_passHour_50 : decode cX0_passHour 50 = .ok (.getfield 9, 3) := by decide +kernel
theorem dX0_passHour_53 : decode cX0_passHour 53 = .ok (.iload_n 3, 1) := by decide +kernel
theorem dX0_passHour_54 : decode cX0_passHour 54 = .ok (.iaload, 1) := by decide +kernel
theorem dX0_passHour_55 : decode cX0_passHour 55 = .ok (.invokevirtual 93, 3) := by decide +kernel
theorem dX0_passHour_58 : decode cX0_passHour 58 = .ok (.iinc 3 1, 3) := by decide +kernel
theorem dX0_passHour_61 : decode cX0_passHour 61 = .ok (.goto (-26), 3) := by decide +kernel
theorem dX0_passHour_64 : decode cX0_passHour 64 = .ok (.iconst 0, 1) := by decide +kernel
theorem dX0_passHour_65 : decode cX0_passHour 65 = .ok (.istore_n 3, 1) := by decide +kernel
theorem dX0_passHour_66 : decode cX0_passHour 66 = .ok (.iload_n 3, 1) := by decide +kernel
theorem dX0_passHour_67 : decode cX0_passHour 67 = .ok (.aload_n 1, 1) := by decide +kernel
theorem dX0_passHour_68 : decode cX0_passHour 68 = .ok (.getfield 89, 3) := by decide +kernel
theorem dX0_passHour_71 : decode cX0_passHour 71 = .ok (.getfield 35, 3) := by decide +kernel
theorem dX0_passHour_74 : decode cX0_passHour 74 = .ok (.if_icmp .ge 28, 3) := by decide +kernel
theorem dX0_passHour_77 : decode cX0_passHour 77 = .ok (.aload_n 2, 1) := by decide +kernel
theorem dX0_passHour_78 : decode cX0_passHour 78 = .ok (.getfield 96, 3) := by decide +kernel
theorem dX0_passHour_81 : decode cX0_passHour 81 = .ok (.iload_n 3, 1) := by decide +kernel
theorem dX0_passHour_82 : decode cX0_passHour 82 = .ok (.iaload, 1) := by decide +kernel
theorem dX0_passHour_83 : decode cX0_passHour 83 = .ok (.ifCond .le 13, 3) := by decide +kernel
theorem dX0_passHour_86 : decode cX0_passHour 86 = .ok (.aload_n 2, 1) := by decide +kernel
theorem dX0_passHour_87 : decode cX0_passHour 87 = .ok (.getfield 96, 3) := by decide +kernel
theorem dX0_passHour_90 : decode cX0_passHour 90 = .ok (.iload_n 3, 1) := by decide +kernel
theorem dX0_passHour_91 : decode cX0_passHour 91 = .ok (.dup2, 1) := by decide +kernel
theorem dX0_passHour_92 : decode cX0_passHour 92 = .ok (.iaload, 1) := by decide +kernel
theorem dX0_passHour_93 : decode cX0_passHour 93 = .ok (.iconst 1, 1) := by decide +kernel
theorem dX0_passHour_94 : decode cX0_passHour 94 = .ok (.isub, 1) := by decide +kernel
theorem dX0_passHour_95 : decode cX0_passHour 95 = .ok (.iastore, 1) := by decide +kernel
theorem dX0_passHour_96 : decode cX0_passHour 96 = .ok (.iinc 3 1, 3) := by decide +kernel
theorem dX0_passHour_99 : decode cX0_passHour 99 = .ok (.goto (-33), 3) := by decide +kernel
theorem dX0_passHour_102 : decode cX0_passHour 102 = .ok (.aload_n 2, 1) := by decide +kernel
theorem dX0_passHour_103 : decode cX0_passHour 103 = .ok (.dup, 1) := by decide +kernel
theorem dX0_passHour_104 : decode cX0_passHour 104 = .ok (.getfield 101, 3) := by decide +kernel
theorem dX0_passHour_107 : decode cX0_passHour 107 = .ok (.iconst 1, 1) := by decide +kernel
theorem dX0_passHour_108 : decode cX0_passHour 108 = .ok (.iadd, 1) := by decide +kernel
theorem dX0_passHour_109 : decode cX0_passHour 109 = .ok (.putfield 101, 3) := by decide +kernel
theorem dX0_passHour_112 : decode cX0_passHour 112 = .ok (.return_, 1) := by decide +kernel
theorem dX0_wetPlace_0 : decode cX0_wetPlace 0 = .ok (.aload_n 1, 1) := by decide +kernel
theorem dX0_wetPlace_1 : decode cX0_wetPlace 1 = .ok (.getfield 71, 3) := by decide +kernel
theorem dX0_wetPlace_4 : decode cX0_wetPlace 4 = .ok (.astore 4, 2) := by decide +kernel
theorem dX0_wetPlace_6 : decode cX0_wetPlace 6 = .ok (.aload 4, 2) := by decide +kernel
theorem dX0_wetPlace_8 : decode cX0_wetPlace 8 = .ok (.getfield 104, 3) := by decide +kernel
theorem dX0_wetPlace_11 : decode cX0_wetPlace 11 = .ok (.iload_n 3, 1) := by decide +kernel
theorem dX0_wetPlace_12 : decode cX0_wetPlace 12 = .ok (.iaload, 1) := by decide +kernel
theorem dX0_wetPlace_13 : decode cX0_wetPlace 13 = .ok (.istore 5, 2) := by decide +kernel
theorem dX0_wetPlace_15 : decode cX0_wetPlace 15 = .ok (.aload_n 2, 1) := by decide +kernel
theorem dX0_wetPlace_16 : decode cX0_wetPlace 16 = .ok (.dup, 1) := by decide +kernel
theorem dX0_wetPlace_17 : decode cX0_wetPlace 17 = .ok (.getfield 107, 3) := by decide +kernel
theorem dX0_wetPlace_20 : decode cX0_wetPlace 20 = .ok (.aload_n 1, 1) := by decide +kernel
theorem dX0_wetPlace_21 : decode cX0_wetPlace 21 = .ok (.getfield 110, 3) := by decide +kernel
theorem dX0_wetPlace_24 : decode cX0_wetPlace 24 = .ok (.iload_n 3, 1) := by decide +kernel
theorem dX0_wetPlace_25 : decode cX0_wetPlace 25 = .ok (.iaload, 1) := by decide +kernel
theorem dX0_wetPlace_26 : decode cX0_wetPlace 26 = .ok (.iadd, 1) := by decide +kernel
theorem dX0_wetPlace_27 : decode cX0_wetPlace 27 = .ok (.putfield 107, 3) := by decide +kernel
theorem dX0_wetPlace_30 : decode cX0_wetPlace 30 = .ok (.aload_n 2, 1) := by decide +kernel
theorem dX0_wetPlace_31 : decode cX0_wetPlace 31 = .ok (.getfield 113, 3) := by decide +kernel
theorem dX0_wetPlace_34 : decode cX0_wetPlace 34 = .ok (.iload_n 3, 1) := by decide +kernel
theorem dX0_wetPlace_35 : decode cX0_wetPlace 35 = .ok (.dup2, 1) := by decide +kernel
theorem dX0_wetPlace_36 : decode cX0_wetPlace 36 = .ok (.iaload, 1) := by decide +kernel
theorem dX0_wetPlace_37 : decode cX0_wetPlace 37 = .ok (.aload_n 1, 1) := by decide +kernel
theorem dX0_wetPlace_38 : decode cX0_wetPlace 38 = .ok (.getfield 110, 3) := by decide +kernel
theorem dX0_wetPlace_41 : decode cX0_wetPlace 41 = .ok (.iload_n 3, 1) := by decide +kernel
theorem dX0_wetPlace_42 : decode cX0_wetPlace 42 = .ok (.iaload, 1) := by decide +kernel
theorem dX0_wetPlace_43 : decode cX0_wetPlace 43 = .ok (.iadd, 1) := by decide +kernel
theorem dX0_wetPlace_44 : decode cX0_wetPlace 44 = .ok (.iastore, 1) := by decide +kernel
theorem dX0_wetPlace_45 : decode cX0_wetPlace 45 = .ok (.iconst 0, 1) := by decide +kernel
theorem dX0_wetPlace_46 : decode cX0_wetPlace 46 = .ok (.aload 4, 2) := by decide +kernel
theorem dX0_wetPlace_48 : decode cX0_wetPlace 48 = .ok (.getfield 116, 3) := by decide +kernel
theorem dX0_wetPlace_51 : decode cX0_wetPlace 51 = .ok (.iload 5, 2) := by decide +kernel
theorem dX0_wetPlace_53 : decode cX0_wetPlace 53 = .ok (.iaload, 1) := by decide +kernel
theorem dX0_wetPlace_54 : decode cX0_wetPlace 54 = .ok (.aload_n 2, 1) := by decide +kernel
theorem dX0_wetPlace_55 : decode cX0_wetPlace 55 = .ok (.getfield 119, 3) := by decide +kernel
theorem dX0_wetPlace_58 : decode cX0_wetPlace 58 = .ok (.iload_n 3, 1) := by decide +kernel
theorem dX0_wetPlace_59 : decode cX0_wetPlace 59 = .ok (.iaload, 1) := by decide +kernel
theorem dX0_wetPlace_60 : decode cX0_wetPlace 60 = .ok (.isub, 1) := by decide +kernel
theorem dX0_wetPlace_61 : decode cX0_wetPlace 61 = .ok (.invokestatic 122, 3) := by decide +kernel
theorem dX0_wetPlace_64 : decode cX0_wetPlace 64 = .ok (.istore 6, 2) := by decide +kernel
theorem dX0_wetPlace_66 : decode cX0_wetPlace 66 = .ok (.iload 6, 2) := by decide +kernel
theorem dX0_wetPlace_68 : decode cX0_wetPlace 68 = .ok (.aload 4, 2) := by decide +kernel
theorem dX0_wetPlace_70 : decode cX0_wetPlace 70 = .ok (.getfield 128, 3) := by decide +kernel
theorem dX0_wetPlace_73 : decode cX0_wetPlace 73 = .ok (.iload 5, 2) := by decide +kernel
theorem dX0_wetPlace_75 : decode cX0_wetPlace 75 = .ok (.iaload, 1) := by decide +kernel
theorem dX0_wetPlace_76 : decode cX0_wetPlace 76 = .ok (.aload_n 2, 1) := by decide +kernel
theorem dX0_wetPlace_77 : decode cX0_wetPlace 77 = .ok (.getfield 113, 3) := by decide +kernel
theorem dX0_wetPlace_80 : decode cX0_wetPlace 80 = .ok (.iload_n 3, 1) := by decide +kernel
theorem dX0_wetPlace_81 : decode cX0_wetPlace 81 = .ok (.iaload, 1) := by decide +kernel
theorem dX0_wetPlace_82 : decode cX0_wetPlace 82 = .ok (.invokestatic 131, 3) := by decide +kernel
theorem dX0_wetPlace_85 : decode cX0_wetPlace 85 = .ok (.invokestatic 131, 3) := by decide +kernel
theorem dX0_wetPlace_88 : decode cX0_wetPlace 88 = .ok (.istore 7, 2) := by decide +kernel
theorem dX0_wetPlace_90 : decode cX0_wetPlace 90 = .ok (.aload_n 2, 1) := by decide +kernel
theorem dX0_wetPlace_91 : decode cX0_wetPlace 91 = .ok (.getfield 113, 3) := by decide +kernel
theorem dX0_wetPlace_94 : decode cX0_wetPlace 94 = .ok (.iload_n 3, 1) := by decide +kernel
theorem dX0_wetPlace_95 : decode cX0_wetPlace 95 = .ok (.dup2, 1) := by decide +kernel
theorem dX0_wetPlace_96 : decode cX0_wetPlace 96 = .ok (.iaload, 1) := by decide +kernel
theorem dX0_wetPlace_97 : decode cX0_wetPlace 97 = .ok (.iload 7, 2) := by decide +kernel
theorem dX0_wetPlace_99 : decode cX0_wetPlace 99 = .ok (.isub, 1) := by decide +kernel
theorem dX0_wetPlace_100 : decode cX0_wetPlace 100 = .ok (.iastore, 1) := by decide +kernel
theorem dX0_wetPlace_101 : decode cX0_wetPlace 101 = .ok (.aload_n 2, 1) := by decide +kernel
theorem dX0_wetPlace_102 : decode cX0_wetPlace 102 = .ok (.getfield 119, 3) := by decide +kernel
theorem dX0_wetPlace_105 : decode cX0_wetPlace 105 = .ok (.iload_n 3, 1) := by decide +kernel
theorem dX0_wetPlace_106 : decode cX0_wetPlace 106 = .ok (.dup2, 1) := by decide +kernel
theorem dX0_wetPlace_107 : decode cX0_wetPlace 107 = .ok (.iaload, 1) := by decide +kernel
theorem dX0_wetPlace_108 : decode cX0_wetPlace 108 = .ok (.iload 7, 2) := by decide +kernel
theorem dX0_wetPlace_110 : decode cX0_wetPlace 110 = .ok (.iadd, 1) := by decide +kernel
theorem dX0_wetPlace_111 : decode cX0_wetPlace 111 = .ok (.iastore, 1) := by decide +kernel
theorem dX0_wetPlace_112 : decode cX0_wetPlace 112 = .ok (.return_, 1) := by decide +kernel
theorem dX0_drainPlace_0 : decode cX0_drainPlace 0 = .ok (.aload_n 1, 1) := by decide +kernel
theorem dX0_drainPlace_1 : decode cX0_drainPlace 1 = .ok (.getfield 71, 3) := by decide +kernel
theorem dX0_drainPlace_4 : decode cX0_drainPlace 4 = .ok (.getfield 134, 3) := by decide +kernel
theorem dX0_drainPlace_7 : decode cX0_drainPlace 7 = .ok (.aload_n 1, 1) := by decide +kernel
theorem dX0_drainPlace_8 : decode cX0_drainPlace 8 = .ok (.getfield 71, 3) := by decide +kernel
theorem dX0_drainPlace_11 : decode cX0_drainPlace 11 = .ok (.getfield 104, 3) := by decide +kernel
theorem dX0_drainPlace_14 : decode cX0_drainPlace 14 = .ok (.iload_n 3, 1) := by decide +kernel
theorem dX0_drainPlace_15 : decode cX0_drainPlace 15 = .ok (.iaload, 1) := by decide +kernel
theorem dX0_drainPlace_16 : decode cX0_drainPlace 16 = .ok (.iaload, 1) := by decide +kernel
theorem dX0_drainPlace_17 : decode cX0_drainPlace 17 = .ok (.istore 4, 2) := by decide +kernel
theorem dX0_drainPlace_19 : decode cX0_drainPlace 19 = .ok (.iconst 0, 1) := by decide +kernel
theorem dX0_drainPlace_20 : decode cX0_drainPlace 20 = .ok (.istore 5, 2) := by decide +kernel
theorem dX0_drainPlace_22 : decode cX0_drainPlace 22 = .ok (.iload 5, 2) := by decide +kernel
theorem dX0_drainPlace_24 : decode cX0_drainPlace 24 = .ok (.aload_n 0, 1) := by decide +kernel
theorem dX0_drainPlace_25 : decode cX0_drainPlace 25 = .ok (.getfield 18, 3) := by decide +kernel
theorem dX0_drainPlace_28 : decode cX0_drainPlace 28 = .ok (.iload_n 3, 1) := by decide +kernel
theorem dX0_drainPlace_29 : decode cX0_drainPlace 29 = .ok (.iaload, 1) := by decide +kernel
theorem dX0_drainPlace_30 : decode cX0_drainPlace 30 = .ok (.if_icmp .ge 135, 3) := by decide +kernel
theorem dX0_drainPlace_33 : decode cX0_drainPlace 33 = .ok (.aload_n 0, 1) := by decide +kernel
theorem dX0_drainPlace_34 : decode cX0_drainPlace 34 = .ok (.getfield 21, 3) := by decide +kernel
theorem dX0_drainPlace_37 : decode cX0_drainPlace 37 = .ok (.iload_n 3, 1) := by decide +kernel
theorem dX0_drainPlace_38 : decode cX0_drainPlace 38 = .ok (.bipush 20, 2) := by decide +kernel
theorem dX0_drainPlace_40 : decode cX0_drainPlace 40 = .ok (.imul, 1) := by decide +kernel
theorem dX0_drainPlace_41 : decode cX0_drainPlace 41 = .ok (.iload 5, 2) := by decide +kernel
theorem dX0_drainPlace_43 : decode cX0_drainPlace 43 = .ok (.iadd, 1) := by decide +kernel
theorem dX0_drainPlace_44 : decode cX0_drainPlace 44 = .ok (.iaload, 1) := by decide +kernel
theorem dX0_drainPlace_45 : decode cX0_drainPlace 45 = .ok (.istore 6, 2) := by decide +kernel
theorem dX0_drainPlace_47 : decode cX0_drainPlace 47 = .ok (.aload_n 1, 1) := by decide +kernel
theorem dX0_drainPlace_48 : decode cX0_drainPlace 48 = .ok (.getfield 89, 3) := by decide +kernel
theorem dX0_drainPlace_51 : decode cX0_drainPlace 51 = .ok (.getfield 41, 3) := by decide +kernel
theorem dX0_drainPlace_54 : decode cX0_drainPlace 54 = .ok (.iload 6, 2) := by decide +kernel
theorem dX0_drainPlace_56 : decode cX0_drainPlace 56 = .ok (.aaload, 1) := by decide +kernel
theorem dX0_drainPlace_57 : decode cX0_drainPlace 57 = .ok (.astore 7, 2) := by decide +kernel
theorem dX0_drainPlace_59 : decode cX0_drainPlace 59 = .ok (.aload 7, 2) := by decide +kernel
theorem dX0_drainPlace_61 : decode cX0_drainPlace 61 = .ok (.getfield 137, 3) := by decide +kernel
theorem dX0_drainPlace_64 : decode cX0_drainPlace 64 = .ok (.iconst 2, 1) := by decide +kernel
theorem dX0_drainPlace_65 : decode cX0_drainPlace 65 = .ok (.if_icmp .ne 17, 3) := by decide +kernel
theorem dX0_drainPlace_68 : decode cX0_drainPlace 68 = .ok (.aload_n 2, 1) := by decide +kernel
theorem dX0_drainPlace_69 : decode cX0_drainPlace 69 = .ok (.getfield 96, 3) := by decide +kernel
theorem dX0_drainPlace_72 : decode cX0_drainPlace 72 = .ok (.iload 6, 2) := by decide +kernel
theorem dX0_drainPlace_74 : decode cX0_drainPlace 74 = .ok (.iaload, 1) := by decide +kernel
theorem dX0_drainPlace_75 : decode cX0_drainPlace 75 = .ok (.ifCond .ne 7, 3) := by decide +kernel
theorem dX0_drainPlace_78 : decode cX0_drainPlace 78 = .ok (.iconst 1, 1) := by decide +kernel
theorem dX0_drainPlace_79 : decode cX0_drainPlace 79 = .ok (.goto 4, 3) := by decide +kernel
theorem dX0_drainPlace_82 : decode cX0_drainPlace 82 = .ok (.iconst 0, 1) := by decide +kernel
theorem dX0_drainPlace_83 : decode cX0_drainPlace 83 = .ok (.istore 8, 2) := by decide +kernel
theorem dX0_drainPlace_85 : decode cX0_drainPlace 85 = .ok (.iload 8, 2) := by decide +kernel
theorem dX0_drainPlace_87 : decode cX0_drainPlace 87 = .ok (.ifCond .ne 72, 3) := by decide +kernel
theorem dX0_drainPlace_90 : decode cX0_drainPlace 90 = .ok (.aload_n 2, 1) := by decide +kernel
theorem dX0_drainPlace_91 : decode cX0_drainPlace 91 = .ok (.getfield 140, 3) := by decide +kernel
theorem dX0_drainPlace_94 : decode cX0_drainPlace 94 = .ok (.iload 6, 2) := by decide +kernel
theorem dX0_drainPlace_96 : decode cX0_drainPlace 96 = .ok (.invokevirtual 144, 3) := by decide +kernel
theorem dX0_drainPlace_99 : decode cX0_drainPlace 99 = .ok (.ifCond .ne 60, 3) := by decide +kernel
theorem dX0_drainPlace_102 : decode cX0_drainPlace 102 = .ok (.aload 7, 2) := by decide +kernel
theorem dX0_drainPlace_104 : decode cX0_drainPlace 104 = .ok (.getfield 150, 3) := by decide +kernel
theorem dX0_drainPlace_107 : decode cX0_drainPlace 107 = .ok (.aload_n 2, 1) := by decide +kernel
theorem dX0_drainPlace_108 : decode cX0_drainPlace 108 = .ok (.getfield 153, 3) := by decide +kernel
theorem dX0_drainPlace_111 : decode cX0_drainPlace 111 = .ok (.iload 6, 2) := by decide +kernel
theorem dX0_drainPlace_113 : decode cX0_drainPlace 113 = .ok (.iaload, 1) := by decide +kernel
theorem dX0_drainPlace_114 : decode cX0_drainPlace 114 = .ok (.isub, 1) := by decide +kernel
theorem dX0_drainPlace_115 : decode cX0_drainPlace 115 = .ok (.istore 9, 2) := by decide +kernel
theorem dX0_drainPlace_117 : decode cX0_drainPlace 117 = .ok (.iload 9, 2) := by decide +kernel
theorem dX0_drainPlace_119 : decode cX0_drainPlace 119 = .ok (.aload_n 2, 1) := by decide +kernel
theorem dX0_drainPlace_120 : decode cX0_drainPlace 120 = .ok (.getfield 119, 3) := by decide +kernel
theorem dX0_drainPlace_123 : decode cX0_drainPlace 123 = .ok (.iload_n 3, 1) := by decide +kernel
theorem dX0_drainPlace_124 : decode cX0_drainPlace 124 = .ok (.iaload, 1) := by decide +kernel
theorem dX0_drainPlace_125 : decode cX0_drainPlace 125 = .ok (.iload 4, 2) := by decide +kernel
theorem dX0_drainPlace_127 : decode cX0_drainPlace 127 = .ok (.imul, 1) := by decide +kernel
theorem dX0_drainPlace_128 : decode cX0_drainPlace 128 = .ok (.bipush 100, 2) := by decide +kernel
theorem dX0_drainPlace_130 : decode cX0_drainPlace 130 = .ok (.idiv, 1) := by decide +kernel
theorem dX0_drainPlace_131 : decode cX0_drainPlace 131 = .ok (.invokestatic 131, 3) := by decide +kernel
theorem dX0_drainPlace_134 : decode cX0_drainPlace 134 = .ok (.istore 10, 2) := by decide +kernel
theorem dX0_drainPlace_136 : decode cX0_drainPlace 136 = .ok (.aload_n 2, 1) := by decide +kernel
theorem dX0_drainPlace_137 : decode cX0_drainPlace 137 = .ok (.getfield 119, 3) := by decide +kernel
theorem dX0_drainPlace_140 : decode cX0_drainPlace 140 = .ok (.iload_n 3, 1) := by decide +kernel
theorem dX0_drainPlace_141 : decode cX0_drainPlace 141 = .ok (.dup2, 1) := by decide +kernel
theorem dX0_drainPlace_142 : decode cX0_drainPlace 142 = .ok (.iaload, 1) := by decide +kernel
theorem dX0_drainPlace_143 : decode cX0_drainPlace 143 = .ok (.iload 10, 2) := by decide +kernel
theorem dX0_drainPlace_145 : decode cX0_drainPlace 145 = .ok (.isub, 1) := by decide +kernel
theorem dX0_drainPlace_146 : decode cX0_drainPlace 146 = .ok (.iastore, 1) := by decide +kernel
theorem dX0_drainPlace_147 : decode cX0_drainPlace 147 = .ok (.aload_n 2, 1) := by decide +kernel
theorem dX0_drainPlace_148 : decode cX0_drainPlace 148 = .ok (.getfield 153, 3) := by decide +kernel
theorem dX0_drainPlace_151 : decode cX0_drainPlace 151 = .ok (.iload 6, 2) := by decide +kernel
theorem dX0_drainPlace_153 : decode cX0_drainPlace 153 = .ok (.dup2, 1) := by decide +kernel
theorem dX0_drainPlace_154 : decode cX0_drainPlace 154 = .ok (.iaload, 1) := by decide +kernel
theorem dX0_drainPlace_155 : decode cX0_drainPlace 155 = .ok (.iload 10, 2) := by decide +kernel
theorem dX0_drainPlace_157 : decode cX0_drainPlace 157 = .ok (.iadd, 1) := by decide +kernel
theorem dX0_drainPlace_158 : decode cX0_drainPlace 158 = .ok (.iastore, 1) := by decide +kernel
theorem dX0_drainPlace_159 : decode cX0_drainPlace 159 = .ok (.iinc 5 1, 3) := by decide +kernel
theorem dX0_drainPlace_162 : decode cX0_drainPlace 162 = .ok (.goto (-140), 3) := by decide +kernel
theorem dX0_drainPlace_165 : decode cX0_drainPlace 165 = .ok (.return_, 1) := by decide +kernel
theorem dX0_passOn_0 : decode cX0_passOn 0 = .ok (.aload_n 1, 1) := by decide +kernel
theorem dX0_passOn_1 : decode cX0_passOn 1 = .ok (.getfield 89, 3) := by decide +kernel
theorem dX0_passOn_4 : decode cX0_passOn 4 = .ok (.getfield 41, 3) := by decide +kernel
theorem dX0_passOn_7 : decode cX0_passOn 7 = .ok (.iload_n 3, 1) := by decide +kernel
theorem dX0_passOn_8 : decode cX0_passOn 8 = .ok (.aaload, 1) := by decide +kernel
theorem dX0_passOn_9 : decode cX0_passOn 9 = .ok (.astore 4, 2) := by decide +kernel
theorem dX0_passOn_11 : decode cX0_passOn 11 = .ok (.aload_n 2, 1) := by decide +kernel
theorem dX0_passOn_12 : decode cX0_passOn 12 = .ok (.getfield 140, 3) := by decide +kernel
theorem dX0_passOn_15 : decode cX0_passOn 15 = .ok (.iload_n 3, 1) := by decide +kernel
theorem dX0_passOn_16 : decode cX0_passOn 16 = .ok (.invokevirtual 144, 3) := by decide +kernel
theorem dX0_passOn_19 : decode cX0_passOn 19 = .ok (.ifCond .eq 7, 3) := by decide +kernel
theorem dX0_passOn_22 : decode cX0_passOn 22 = .ok (.iconst 0, 1) := by decide +kernel
theorem dX0_passOn_23 : decode cX0_passOn 23 = .ok (.goto 11, 3) := by decide +kernel
theorem dX0_passOn_26 : decode cX0_passOn 26 = .ok (.aload_n 0, 1) := by decide +kernel
theorem dX0_passOn_27 : decode cX0_passOn 27 = .ok (.aload_n 1, 1) := by decide +kernel
theorem dX0_passOn_28 : decode cX0_passOn 28 = .ok (.aload_n 2, 1) := by decide +kernel
theorem dX0_passOn_29 : decode cX0_passOn 29 = .ok (.aload 4, 2) := by decide +kernel
theorem dX0_passOn_31 : decode cX0_passOn 31 = .ok (.invokevirtual 156, 3) := by decide +kernel
theorem dX0_passOn_34 : decode cX0_passOn 34 = .ok (.istore 5, 2) := by decide +kernel
theorem dX0_passOn_36 : decode cX0_passOn 36 = .ok (.iload 5, 2) := by decide +kernel
theorem dX0_passOn_38 : decode cX0_passOn 38 = .ok (.aload 4, 2) := by decide +kernel
theorem dX0_passOn_40 : decode cX0_passOn 40 = .ok (.getfield 160, 3) := by decide +kernel
theorem dX0_passOn_43 : decode cX0_passOn 43 = .ok (.aload_n 2, 1) := by decide +kernel
theorem dX0_passOn_44 : decode cX0_passOn 44 = .ok (.getfield 153, 3) := by decide +kernel
theorem dX0_passOn_47 : decode cX0_passOn 47 = .ok (.iload_n 3, 1) := by decide +kernel
theorem dX0_passOn_48 : decode cX0_passOn 48 = .ok (.iaload, 1) := by decide +kernel
theorem dX0_passOn_49 : decode cX0_passOn 49 = .ok (.invokestatic 131, 3) := by decide +kernel
theorem dX0_passOn_52 : decode cX0_passOn 52 = .ok (.invokestatic 131, 3) := by decide +kernel
theorem dX0_passOn_55 : decode cX0_passOn 55 = .ok (.istore 6, 2) := by decide +kernel
theorem dX0_passOn_57 : decode cX0_passOn 57 = .ok (.aload_n 2, 1) := by decide +kernel
theorem dX0_passOn_58 : decode cX0_passOn 58 = .ok (.getfield 163, 3) := by decide +kernel
theorem dX0_passOn_61 : decode cX0_passOn 61 = .ok (.iload_n 3, 1) := by decide +kernel
theorem dX0_passOn_62 : decode cX0_passOn 62 = .ok (.iload 6, 2) := by decide +kernel
theorem dX0_passOn_64 : decode cX0_passOn 64 = .ok (.iastore, 1) := by decide +kernel
theorem dX0_passOn_65 : decode cX0_passOn 65 = .ok (.aload_n 2, 1) := by decide +kernel
theorem dX0_passOn_66 : decode cX0_passOn 66 = .ok (.getfield 153, 3) := by decide +kernel
theorem dX0_passOn_69 : decode cX0_passOn 69 = .ok (.iload_n 3, 1) := by decide +kernel
theorem dX0_passOn_70 : decode cX0_passOn 70 = .ok (.dup2, 1) := by decide +kernel
theorem dX0_passOn_71 : decode cX0_passOn 71 = .ok (.iaload, 1) := by decide +kernel
theorem dX0_passOn_72 : decode cX0_passOn 72 = .ok (.iload 6, 2) := by decide +kernel
theorem dX0_passOn_74 : decode cX0_passOn 74 = .ok (.isub, 1) := by decide +kernel
theorem dX0_passOn_75 : decode cX0_passOn 75 = .ok (.iastore, 1) := by decide +kernel
theorem dX0_passOn_76 : decode cX0_passOn 76 = .ok (.aload 4, 2) := by decide +kernel
theorem dX0_passOn_78 : decode cX0_passOn 78 = .ok (.invokevirtual 166, 3) := by decide +kernel
theorem dX0_passOn_81 : decode cX0_passOn 81 = .ok (.ifCond .eq 21, 3) := by decide +kernel
theorem dX0_passOn_84 : decode cX0_passOn 84 = .ok (.aload_n 2, 1) := by decide +kernel
theorem dX0_passOn_85 : decode cX0_passOn 85 = .ok (.getfield 153, 3) := by decide +kernel
theorem dX0_passOn_88 : decode cX0_passOn 88 = .ok (.aload 4, 2) := by decide +kernel
theorem dX0_passOn_90 : decode cX0_passOn 90 = .ok (.getfield 169, 3) := by decide +kernel
theorem dX0_passOn_93 : decode cX0_passOn 93 = .ok (.dup2, 1) := by decide +kernel
theorem dX0_passOn_94 : decode cX0_passOn 94 = .ok (.iaload, 1) := by decide +kernel
theorem dX0_passOn_95 : decode cX0_passOn 95 = .ok (.iload 6, 2) := by decide +kernel
theorem dX0_passOn_97 : decode cX0_passOn 97 = .ok (.iadd, 1) := by decide +kernel
theorem dX0_passOn_98 : decode cX0_passOn 98 = .ok (.iastore, 1) := by decide +kernel
theorem dX0_passOn_99 : decode cX0_passOn 99 = .ok (.goto 31, 3) := by decide +kernel
theorem dX0_passOn_102 : decode cX0_passOn 102 = .ok (.aload 4, 2) := by decide +kernel
theorem dX0_passOn_104 : decode cX0_passOn 104 = .ok (.getfield 169, 3) := by decide +kernel
theorem dX0_passOn_107 : decode cX0_passOn 107 = .ok (.bipush 100, 2) := by decide +kernel
theorem dX0_passOn_109 : decode cX0_passOn 109 = .ok (.if_icmp .lt 21, 3) := by decide +kernel
theorem dX0_passOn_112 : decode cX0_passOn 112 = .ok (.aload_n 2, 1) := by decide +kernel
theorem dX0_passOn_113 : decode cX0_passOn 113 = .ok (.getfield 172, 3) := by decide +kernel
theorem dX0_passOn_116 : decode cX0_passOn 116 = .ok (.aload 4, 2) := by decide +kernel
theorem dX0_passOn_118 : decode cX0_passOn 118 = .ok (.getfield 169, 3) := by decide +kernel
theorem dX0_passOn_121 : decode cX0_passOn 121 = .ok (.bipush 100, 2) := by decide +kernel
theorem dX0_passOn_123 : decode cX0_passOn 123 = .ok (.isub, 1) := by decide +kernel
theorem dX0_passOn_124 : decode cX0_passOn 124 = .ok (.dup2, 1) := by decide +kernel
theorem dX0_passOn_125 : decode cX0_passOn 125 = .ok (.iaload, 1) := by decide +kernel
theorem dX0_passOn_126 : decode cX0_passOn 126 = .ok (.iload 6, 2) := by decide +kernel
theorem dX0_passOn_128 : decode cX0_passOn 128 = .ok (.iadd, 1) := by decide +kernel
theorem dX0_passOn_129 : decode cX0_passOn 129 = .ok (.iastore, 1) := by decide +kernel
theorem dX0_passOn_130 : decode cX0_passOn 130 = .ok (.return_, 1) := by decide +kernel
theorem dX0_mostInto_0 : decode cX0_mostInto 0 = .ok (.aload_n 3, 1) := by decide +kernel
theorem dX0_mostInto_1 : decode cX0_mostInto 1 = .ok (.invokevirtual 166, 3) := by decide +kernel
theorem dX0_mostInto_4 : decode cX0_mostInto 4 = .ok (.ifCond .eq 29, 3) := by decide +kernel
theorem dX0_mostInto_7 : decode cX0_mostInto 7 = .ok (.aload_n 1, 1) := by decide +kernel
theorem dX0_mostInto_8 : decode cX0_mostInto 8 = .ok (.getfield 89, 3) := by decide +kernel
theorem dX0_mostInto_11 : decode cX0_mostInto 11 = .ok (.getfield 41, 3) := by decide +kernel
theorem dX0_mostInto_14 : decode cX0_mostInto 14 = .ok (.aload_n 3, 1) := by decide +kernel
theorem dX0_mostInto_15 : decode cX0_mostInto 15 = .ok (.getfield 169, 3) := by decide +kernel
theorem dX0_mostInto_18 : decode cX0_mostInto 18 = .ok (.aaload, 1) := by decide +kernel
theorem dX0_mostInto_19 : decode cX0_mostInto 19 = .ok (.getfield 150, 3) := by decide +kernel
theorem dX0_mostInto_22 : decode cX0_mostInto 22 = .ok (.aload_n 2, 1) := by decide +kernel
theorem dX0_mostInto_23 : decode cX0_mostInto 23 = .ok (.getfield 153, 3) := by decide +kernel
theorem dX0_mostInto_26 : decode cX0_mostInto 26 = .ok (.aload_n 3, 1) := by decide +kernel
theorem dX0_mostInto_27 : decode cX0_mostInto 27 = .ok (.getfield 169, 3) := by decide +kernel
theorem dX0_mostInto_30 : decode cX0_mostInto 30 = .ok (.iaload, 1) := by decide +kernel
theorem dX0_mostInto_31 : decode cX0_mostInto 31 = .ok (.isub, 1) := by decide +kernel
theorem dX0_mostInto_32 : decode cX0_mostInto 32 = .ok (.ireturn, 1) := by decide +kernel
theorem dX0_mostInto_33 : decode cX0_mostInto 33 = .ok (.aload_n 3, 1) := by decide +kernel
theorem dX0_mostInto_34 : decode cX0_mostInto 34 = .ok (.getfield 169, 3) := by decide +kernel
theorem dX0_mostInto_37 : decode cX0_mostInto 37 = .ok (.bipush 100, 2) := by decide +kernel
theorem dX0_mostInto_39 : decode cX0_mostInto 39 = .ok (.if_icmp .ge 5, 3) := by decide +kernel
theorem dX0_mostInto_42 : decode cX0_mostInto 42 = .ok (.iconst 0, 1) := by decide +kernel
theorem dX0_mostInto_43 : decode cX0_mostInto 43 = .ok (.ireturn, 1) := by decide +kernel
theorem dX0_mostInto_44 : decode cX0_mostInto 44 = .ok (.aload_n 3, 1) := by decide +kernel
theorem dX0_mostInto_45 : decode cX0_mostInto 45 = .ok (.getfield 51, 3) := by decide +kernel
theorem dX0_mostInto_48 : decode cX0_mostInto 48 = .ok (.aload_n 3, 1) := by decide +kernel
theorem dX0_mostInto_49 : decode cX0_mostInto 49 = .ok (.getfield 51, 3) := by decide +kernel
theorem dX0_mostInto_52 : decode cX0_mostInto 52 = .ok (.getfield 59, 3) := by decide +kernel
theorem dX0_mostInto_55 : decode cX0_mostInto 55 = .ok (.iconst 1, 1) := by decide +kernel
theorem dX0_mostInto_56 : decode cX0_mostInto 56 = .ok (.isub, 1) := by decide +kernel
theorem dX0_mostInto_57 : decode cX0_mostInto 57 = .ok (.invokevirtual 175, 3) := by decide +kernel
theorem dX0_mostInto_60 : decode cX0_mostInto 60 = .ok (.istore 4, 2) := by decide +kernel
theorem dX0_mostInto_62 : decode cX0_mostInto 62 = .ok (.aload_n 1, 1) := by decide +kernel
theorem dX0_mostInto_63 : decode cX0_mostInto 63 = .ok (.getfield 71, 3) := by decide +kernel
theorem dX0_mostInto_66 : decode cX0_mostInto 66 = .ok (.getfield 178, 3) := by decide +kernel
theorem dX0_mostInto_69 : decode cX0_mostInto 69 = .ok (.aload_n 3, 1) := by decide +kernel
theorem dX0_mostInto_70 : decode cX0_mostInto 70 = .ok (.getfield 169, 3) := by decide +kernel
theorem dX0_mostInto_73 : decode cX0_mostInto 73 = .ok (.bipush 100, 2) := by decide +kernel
theorem dX0_mostInto_75 : decode cX0_mostInto 75 = .ok (.isub, 1) := by decide +kernel
theorem dX0_mostInto_76 : decode cX0_mostInto 76 = .ok (.iaload, 1) := by decide +kernel
theorem dX0_mostInto_77 : decode cX0_mostInto 77 = .ok (.iload 4, 2) := by decide +kernel
theorem dX0_mostInto_79 : decode cX0_mostInto 79 = .ok (.if_icmp .le 7, 3) := by decide +kernel
theorem dX0_mostInto_82 : decode cX0_mostInto 82 = .ok (.iconst 1, 1) := by decide +kernel
theorem dX0_mostInto_83 : decode cX0_mostInto 83 = .ok (.goto 4, 3) := by decide +kernel
theorem dX0_mostInto_86 : decode cX0_mostInto 86 = .ok (.iconst 0, 1) := by decide +kernel
theorem dX0_mostInto_87 : decode cX0_mostInto 87 = .ok (.istore 5, 2) := by decide +kernel
theorem dX0_mostInto_89 : decode cX0_mostInto 89 = .ok (.iload 5, 2) := by decide +kernel
theorem dX0_mostInto_91 : decode cX0_mostInto 91 = .ok (.ifCond .eq 7, 3) := by decide +kernel
theorem dX0_mostInto_94 : decode cX0_mostInto 94 = .ok (.iconst 0, 1) := by decide +kernel
theorem dX0_mostInto_95 : decode cX0_mostInto 95 = .ok (.goto 7, 3) := by decide +kernel
theorem dX0_mostInto_98 : decode cX0_mostInto 98 = .ok (.aload_n 3, 1) := by decide +kernel
theorem dX0_mostInto_99 : decode cX0_mostInto 99 = .ok (.getfield 160, 3) := by decide +kernel
theorem dX0_mostInto_102 : decode cX0_mostInto 102 = .ok (.ireturn, 1) := by decide +kernel
theorem dX1_init_0 : decode cX1_init 0 = .ok (.aload_n 0, 1) := by decide +kernel
theorem dX1_init_1 : decode cX1_init 1 = .ok (.invokespecial 3, 3) := by decide +kernel
theorem dX1_init_4 : decode cX1_init 4 = .ok (.aload_n 0, 1) := by decide +kernel
theorem dX1_init_5 : decode cX1_init 5 = .ok (.bipush 36, 2) := by decide +kernel
theorem dX1_init_7 : decode cX1_init 7 = .ok (.newarray .int, 2) := by decide +kernel
theorem dX1_init_9 : decode cX1_init 9 = .ok (.putfield 9, 3) := by decide +kernel
theorem dX1_init_12 : decode cX1_init 12 = .ok (.aload_n 0, 1) := by decide +kernel
theorem dX1_init_13 : decode cX1_init 13 = .ok (.bipush 36, 2) := by decide +kernel
theorem dX1_init_15 : decode cX1_init 15 = .ok (.newarray .int, 2) := by decide +kernel
theorem dX1_init_17 : decode cX1_init 17 = .ok (.putfield 15, 3) := by decide +kernel
theorem dX1_init_20 : decode cX1_init 20 = .ok (.aload_n 0, 1) := by decide +kernel
theorem dX1_init_21 : decode cX1_init 21 = .ok (.iconst 4, 1) := by decide +kernel
theorem dX1_init_22 : decode cX1_init 22 = .ok (.newarray .int, 2) := by decide +kernel
theorem dX1_init_24 : decode cX1_init 24 = .ok (.putfield 18, 3) := by decide +kernel
theorem dX1_init_27 : decode cX1_init 27 = .ok (.aload_n 0, 1) := by decide +kernel
theorem dX1_init_28 : decode cX1_init 28 = .ok (.iconst 4, 1) := by decide +kernel
theorem dX1_init_29 : decode cX1_init 29 = .ok (.newarray .int, 2) := by decide +kernel
theorem dX1_init_31 : decode cX1_init 31 = .ok (.putfield 21, 3) := by decide +kernel
theorem dX1_init_34 : decode cX1_init 34 = .ok (.aload_n 0, 1) := by decide +kernel
theorem dX1_init_35 : decode cX1_init 35 = .ok (.iconst 4, 1) := by decide +kernel
theorem dX1_init_36 : decode cX1_init 36 = .ok (.newarray .int, 2) := by decide +kernel
theorem dX1_init_38 : decode cX1_init 38 = .ok (.putfield 24, 3) := by decide +kernel
theorem dX1_init_41 : decode cX1_init 41 = .ok (.aload_n 0, 1) := by decide +kernel
theorem dX1_init_42 : decode cX1_init 42 = .ok (.iconst 4, 1) := by decide +kernel
theorem dX1_init_43 : decode cX1_init 43 = .ok (.newarray .int, 2) := by decide +kernel
theorem dX1_init_45 : decode cX1_init 45 = .ok (.putfield 27, 3) := by decide +kernel
theorem dX1_init_48 : decode cX1_init 48 = .ok (.aload_n 0, 1) := by decide +kernel
theorem dX1_init_49 : decode cX1_init 49 = .ok (.iconst 4, 1) := by decide +kernel
theorem dX1_init_50 : decode cX1_init 50 = .ok (.newarray .int, 2) := by decide +kernel
theorem dX1_init_52 : decode cX1_init 52 = .ok (.putfield 30, 3) := by decide +kernel
theorem dX1_init_55 : decode cX1_init 55 = .ok (.aload_n 0, 1) := by decide +kernel
theorem dX1_init_56 : decode cX1_init 56 = .ok (.iconst 1, 1) := by decide +kernel
theorem dX1_init_57 : decode cX1_init 57 = .ok (.putfield 33, 3) := by decide +kernel
theorem dX1_init_60 : decode cX1_init 60 = .ok (.aload_n 0, 1) := by decide +kernel
theorem dX1_init_61 : decode cX1_init 61 = .ok (.iconst 1, 1) := by decide +kernel
theorem dX1_init_62 : decode cX1_init 62 = .ok (.putfield 37, 3) := by decide +kernel
theorem dX1_init_65 : decode cX1_init 65 = .ok (.return_, 1) := by decide +kernel
theorem dX1_renew_0 : decode cX1_renew 0 = .ok (.aload_n 0, 1) := by decide +kernel
theorem dX1_renew_1 : decode cX1_renew 1 = .ok (.iload_n 2, 1) := by decide +kernel
theorem dX1_renew_2 : decode cX1_renew 2 = .ok (.putfield 33, 3) := by decide +kernel
theorem dX1_renew_5 : decode cX1_renew 5 = .ok (.aload_n 0, 1) := by decide +kernel
theorem dX1_renew_6 : decode cX1_renew 6 = .ok (.iload_n 1, 1) := by decide +kernel
theorem dX1_renew_7 : decode cX1_renew 7 = .ok (.iload_n 2, 1) := by decide +kernel
theorem dX1_renew_8 : decode cX1_renew 8 = .ok (.imul, 1) := by decide +kernel
theorem dX1_renew_9 : decode cX1_renew 9 = .ok (.putfield 37, 3) := by decide +kernel
theorem dX1_renew_12 : decode cX1_renew 12 = .ok (.aload_n 0, 1) := by decide +kernel
theorem dX1_renew_13 : decode cX1_renew 13 = .ok (.getfield 9, 3) := by decide +kernel
theorem dX1_renew_16 : decode cX1_renew 16 = .ok (.sipush 1000, 3) := by decide +kernel
theorem dX1_renew_19 : decode cX1_renew 19 = .ok (.invokestatic 40, 3) := by decide +kernel
theorem dX1_renew_22 : decode cX1_renew 22 = .ok (.aload_n 0, 1) := by decide +kernel
theorem dX1_renew_23 : decode cX1_renew 23 = .ok (.getfield 15, 3) := by decide +kernel
theorem dX1_renew_26 : decode cX1_renew 26 = .ok (.iconst 0, 1) := by decide +kernel
theorem dX1_renew_27 : decode cX1_renew 27 = .ok (.invokestatic 40, 3) := by decide +kernel
theorem dX1_renew_30 : decode cX1_renew 30 = .ok (.return_, 1) := by decide +kernel
theorem dX1_copyFrom_0 : decode cX1_copyFrom 0 = .ok (.aload_n 0, 1) := by decide +kernel
theorem dX1_copyFrom_1 : decode cX1_copyFrom 1 = .ok (.aload_n 1, 1) := by decide +kernel
theorem dX1_copyFrom_2 : decode cX1_copyFrom 2 = .ok (.getfield 33, 3) := by decide +kernel
theorem dX1_copyFrom_5 : decode cX1_copyFrom 5 = .ok (.putfield 33, 3) := by decide +kernel
theorem dX1_copyFrom_8 : decode cX1_copyFrom 8 = .ok (.aload_n 0, 1) := by decide +kernel
theorem dX1_copyFrom_9 : decode cX1_copyFrom 9 = .ok (.aload_n 1, 1) := by decide +kernel
theorem dX1_copyFrom_10 : decode cX1_copyFrom 10 = .ok (.getfield 37, 3) := by decide +kernel
theorem dX1_copyFrom_13 : decode cX1_copyFrom 13 = .ok (.putfield 37, 3) := by decide +kernel
theorem dX1_copyFrom_16 : decode cX1_copyFrom 16 = .ok (.aload_n 1, 1) := by decide +kernel
theorem dX1_copyFrom_17 : decode cX1_copyFrom 17 = .ok (.getfield 9, 3) := by decide +kernel
theorem dX1_copyFrom_20 : decode cX1_copyFrom 20 = .ok (.aload_n 0, 1) := by decide +kernel
theorem dX1_copyFrom_21 : decode cX1_copyFrom 21 = .ok (.getfield 9, 3) := by decide +kernel
theorem dX1_copyFrom_24 : decode cX1_copyFrom 24 = .ok (.invokestatic 44, 3) := by decide +kernel
theorem dX1_copyFrom_27 : decode cX1_copyFrom 27 = .ok (.aload_n 1, 1) := by decide +kernel
theorem dX1_copyFrom_28 : decode cX1_copyFrom 28 = .ok (.getfield 15, 3) := by decide +kernel
theorem dX1_copyFrom_31 : decode cX1_copyFrom 31 = .ok (.aload_n 0, 1) := by decide +kernel
theorem dX1_copyFrom_32 : decode cX1_copyFrom 32 = .ok (.getfield 15, 3) := by decide +kernel
theorem dX1_copyFrom_35 : decode cX1_copyFrom 35 = .ok (.invokestatic 44, 3) := by decide +kernel
theorem dX1_copyFrom_38 : decode cX1_copyFrom 38 = .ok (.aload_n 1, 1) := by decide +kernel
theorem dX1_copyFrom_39 : decode cX1_copyFrom 39 = .ok (.getfield 18, 3) := by decide +kernel
theorem dX1_copyFrom_42 : decode cX1_copyFrom 42 = .ok (.aload_n 0, 1) := by decide +kernel
theorem dX1_copyFrom_43 : decode cX1_copyFrom 43 = .ok (.getfield 18, 3) := by decide +kernel
theorem dX1_copyFrom_46 : decode cX1_copyFrom 46 = .ok (.invokestatic 44, 3) := by decide +kernel
theorem dX1_copyFrom_49 : decode cX1_copyFrom 49 = .ok (.aload_n 1, 1) := by decide +kernel
theorem dX1_copyFrom_50 : decode cX1_copyFrom 50 = .ok (.getfield 21, 3) := by decide +kernel
theorem dX1_copyFrom_53 : decode cX1_copyFrom 53 = .ok (.aload_n 0, 1) := by decide +kernel
theorem dX1_copyFrom_54 : decode cX1_copyFrom 54 = .ok (.getfield 21, 3) := by decide +kernel
theorem dX1_copyFrom_57 : decode cX1_copyFrom 57 = .ok (.invokestatic 44, 3) := by decide +kernel
theorem dX1_copyFrom_60 : decode cX1_copyFrom 60 = .ok (.aload_n 1, 1) := by decide +kernel
theorem dX1_copyFrom_61 : decode cX1_copyFrom 61 = .ok (.getfield 24, 3) := by decide +kernel
theorem dX1_copyFrom_64 : decode cX1_copyFrom 64 = .ok (.aload_n 0, 1) := by decide +kernel
theorem dX1_copyFrom_65 : decode cX1_copyFrom 65 = .ok (.getfield 24, 3) := by decide +kernel
theorem dX1_copyFrom_68 : decode cX1_copyFrom 68 = .ok (.invokestatic 44, 3) := by decide +kernel
theorem dX1_copyFrom_71 : decode cX1_copyFrom 71 = .ok (.aload_n 1, 1) := by decide +kernel
theorem dX1_copyFrom_72 : decode cX1_copyFrom 72 = .ok (.getfield 27, 3) := by decide +kernel
theorem dX1_copyFrom_75 : decode cX1_copyFrom 75 = .ok (.aload_n 0, 1) := by decide +kernel
theorem dX1_copyFrom_76 : decode cX1_copyFrom 76 = .ok (.getfield 27, 3) := by decide +kernel
theorem dX1_copyFrom_79 : decode cX1_copyFrom 79 = .ok (.invokestatic 44, 3) := by decide +kernel
theorem dX1_copyFrom_82 : decode cX1_copyFrom 82 = .ok (.aload_n 1, 1) := by decide +kernel
theorem dX1_copyFrom_83 : decode cX1_copyFrom 83 = .ok (.getfield 30, 3) := by decide +kernel
theorem dX1_copyFrom_86 : decode cX1_copyFrom 86 = .ok (.aload_n 0, 1) := by decide +kernel
theorem dX1_copyFrom_87 : decode cX1_copyFrom 87 = .ok (.getfield 30, 3) := by decide +kernel
theorem dX1_copyFrom_90 : decode cX1_copyFrom 90 = .ok (.invokestatic 44, 3) := by decide +kernel
theorem dX1_copyFrom_93 : decode cX1_copyFrom 93 = .ok (.return_, 1) := by decide +kernel
theorem dX1_hasPlace_0 : decode cX1_hasPlace 0 = .ok (.iload_n 1, 1) := by decide +kernel
theorem dX1_hasPlace_1 : decode cX1_hasPlace 1 = .ok (.ifCond .lt 15, 3) := by decide +kernel
theorem dX1_hasPlace_4 : decode cX1_hasPlace 4 = .ok (.iload_n 1, 1) := by decide +kernel
theorem dX1_hasPlace_5 : decode cX1_hasPlace 5 = .ok (.aload_n 0, 1) := by decide +kernel
theorem dX1_hasPlace_6 : decode cX1_hasPlace 6 = .ok (.getfield 37, 3) := by decide +kernel
theorem dX1_hasPlace_9 : decode cX1_hasPlace 9 = .ok (.if_icmp .ge 7, 3) := by decide +kernel
theorem dX1_hasPlace_12 : decode cX1_hasPlace 12 = .ok (.iconst 1, 1) := by decide +kernel
theorem dX1_hasPlace_13 : decode cX1_hasPlace 13 = .ok (.goto 4, 3) := by decide +kernel
theorem dX1_hasPlace_16 : decode cX1_hasPlace 16 = .ok (.iconst 0, 1) := by decide +kernel
theorem dX1_hasPlace_17 : decode cX1_hasPlace 17 = .ok (.ireturn, 1) := by decide +kernel
theorem dX1_rowOf_0 : decode cX1_rowOf 0 = .ok (.aload_n 0, 1) := by decide +kernel
theorem dX1_rowOf_1 : decode cX1_rowOf 1 = .ok (.getfield 33, 3) := by decide +kernel
theorem dX1_rowOf_4 : decode cX1_rowOf 4 = .ok (.ifCond .le 12, 3) := by decide +kernel
theorem dX1_rowOf_7 : decode cX1_rowOf 7 = .ok (.iload_n 1, 1) := by decide +kernel
theorem dX1_rowOf_8 : decode cX1_rowOf 8 = .ok (.aload_n 0, 1) := by decide +kernel
theorem dX1_rowOf_9 : decode cX1_rowOf 9 = .ok (.getfield 33, 3) := by decide +kernel
theorem dX1_rowOf_12 : decode cX1_rowOf 12 = .ok (.idiv, 1) := by decide +kernel
theorem dX1_rowOf_13 : decode cX1_rowOf 13 = .ok (.goto 4, 3) := by decide +kernel
theorem dX1_rowOf_16 : decode cX1_rowOf 16 = .ok (.iconst 0, 1) := by decide +kernel
theorem dX1_rowOf_17 : decode cX1_rowOf 17 = .ok (.ireturn, 1) := by decide +kernel
theorem dX1_rowsApart_0 : decode cX1_rowsApart 0 = .ok (.aload_n 0, 1) := by decide +kernel
theorem dX1_rowsApart_1 : decode cX1_rowsApart 1 = .ok (.iload_n 1, 1) := by decide +kernel
theorem dX1_rowsApart_2 : decode cX1_rowsApart 2 = .ok (.invokevirtual 48, 3) := by decide +kernel
theorem dX1_rowsApart_5 : decode cX1_rowsApart 5 = .ok (.aload_n 0, 1) := by decide +kernel
theorem dX1_rowsApart_6 : decode cX1_rowsApart 6 = .ok (.iload_n 2, 1) := by decide +kernel
theorem dX1_rowsApart_7 : decode cX1_rowsApart 7 = .ok (.invokevirtual 48, 3) := by decide +kernel
theorem dX1_rowsApart_10 : decode cX1_rowsApart 10 = .ok (.isub, 1) := by decide +kernel
theorem dX1_rowsApart_11 : decode cX1_rowsApart 11 = .ok (.invokestatic 52, 3) := by decide +kernel
theorem dX1_rowsApart_14 : decode cX1_rowsApart 14 = .ok (.ireturn, 1) := by decide +kernel
theorem dX1_columnsApart_0 : decode cX1_columnsApart 0 = .ok (.iload_n 1, 1) := by decide +kernel
theorem dX1_columnsApart_1 : decode cX1_columnsApart 1 = .ok (.aload_n 0, 1) := by decide +kernel
theorem dX1_columnsApart_2 : decode cX1_columnsApart 2 = .ok (.iload_n 1, 1) := by decide +kernel
theorem dX1_columnsApart_3 : decode cX1_columnsApart 3 = .ok (.invokevirtual 48, 3) := by decide +kernel
theorem dX1_columnsApart_6 : decode cX1_columnsApart 6 = .ok (.aload_n 0, 1) := by decide +kernel
theorem dX1_columnsApart_7 : decode cX1_columnsApart 7 = .ok (.getfield 33, 3) := by decide +kernel
theorem dX1_columnsApart_10 : decode cX1_columnsApart 10 = .ok (.imul, 1) := by decide +kernel
theorem dX1_columnsApart_11 : decode cX1_columnsApart 11 = .ok (.isub, 1) := by decide +kernel
theorem dX1_columnsApart_12 : decode cX1_columnsApart 12 = .ok (.iload_n 2, 1) := by decide +kernel
theorem dX1_columnsApart_13 : decode cX1_columnsApart 13 = .ok (.aload_n 0, 1) := by decide +kernel
theorem dX1_columnsApart_14 : decode cX1_columnsApart 14 = .ok (.iload_n 2, 1) := by decide +kernel
theorem dX1_columnsApart_15 : decode cX1_columnsApart 15 = .ok (.invokevirtual 48, 3) := by decide +kernel
theorem dX1_columnsApart_18 : decode cX1_columnsApart 18 = .ok (.aload_n 0, 1) := by decide +kernel
theorem dX1_columnsApart_19 : decode cX1_columnsApart 19 = .ok (.getfield 33, 3) := by decide +kernel
theorem dX1_columnsApart_22 : decode cX1_columnsApart 22 = .ok (.imul, 1) := by decide +kernel
theorem dX1_columnsApart_23 : decode cX1_columnsApart 23 = .ok (.isub, 1) := by decide +kernel
theorem dX1_columnsApart_24 : decode cX1_columnsApart 24 = .ok (.isub, 1) := by decide +kernel
theorem dX1_columnsApart_25 : decode cX1_columnsApart 25 = .ok (.invokestatic 52, 3) := by decide +kernel
theorem dX1_columnsApart_28 : decode cX1_columnsApart 28 = .ok (.ireturn, 1) := by decide +kernel
theorem dX1_areInLine_0 : decode cX1_areInLine 0 = .ok (.aload_n 0, 1) := by decide +kernel
theorem dX1_areInLine_1 : decode cX1_areInLine 1 = .ok (.iload_n 1, 1) := by decide +kernel
theorem dX1_areInLine_2 : decode cX1_areInLine 2 = .ok (.iload_n 2, 1) := by decide +kernel
theorem dX1_areInLine_3 : decode cX1_areInLine 3 = .ok (.invokevirtual 57, 3) := by decide +kernel
theorem dX1_areInLine_6 : decode cX1_areInLine 6 = .ok (.ifCond .eq 12, 3) := by decide +kernel
theorem dX1_areInLine_9 : decode cX1_areInLine 9 = .ok (.aload_n 0, 1) := by decide +kernel
theorem dX1_areInLine_10 : decode cX1_areInLine 10 = .ok (.iload_n 1, 1) := by decide +kernel
theorem dX1_areInLine_11 : decode cX1_areInLine 11 = .ok (.iload_n 2, 1) := by decide +kernel
theorem dX1_areInLine_12 : decode cX1_areInLine 12 = .ok (.invokevirtual 61, 3) := by decide +kernel
theorem dX1_areInLine_15 : decode cX1_areInLine 15 = .ok (.ifCond .ne 7, 3) := by decide +kernel
theorem dX1_areInLine_18 : decode cX1_areInLine 18 = .ok (.iconst 1, 1) := by decide +kernel
theorem dX1_areInLine_19 : decode cX1_areInLine 19 = .ok (.goto 4, 3) := by decide +kernel
theorem dX1_areInLine_22 : decode cX1_areInLine 22 = .ok (.iconst 0, 1) := by decide +kernel
theorem dX1_areInLine_23 : decode cX1_areInLine 23 = .ok (.ireturn, 1) := by decide +kernel
theorem dX1_coverAt_0 : decode cX1_coverAt 0 = .ok (.aload_n 0, 1) := by decide +kernel
theorem dX1_coverAt_1 : decode cX1_coverAt 1 = .ok (.getfield 9, 3) := by decide +kernel
theorem dX1_coverAt_4 : decode cX1_coverAt 4 = .ok (.aload_n 1, 1) := by decide +kernel
theorem dX1_coverAt_5 : decode cX1_coverAt 5 = .ok (.iload_n 2, 1) := by decide +kernel
theorem dX1_coverAt_6 : decode cX1_coverAt 6 = .ok (.invokevirtual 64, 3) := by decide +kernel
theorem dX1_coverAt_9 : decode cX1_coverAt 9 = .ok (.iaload, 1) := by decide +kernel
theorem dX1_coverAt_10 : decode cX1_coverAt 10 = .ok (.aload_n 1, 1) := by decide +kernel
theorem dX1_coverAt_11 : decode cX1_coverAt 11 = .ok (.iload_n 2, 1) := by decide +kernel
theorem dX1_coverAt_12 : decode cX1_coverAt 12 = .ok (.invokevirtual 69, 3) := by decide +kernel
theorem dX1_coverAt_15 : decode cX1_coverAt 15 = .ok (.isub, 1) := by decide +kernel
theorem dX1_coverAt_16 : decode cX1_coverAt 16 = .ok (.ireturn, 1) := by decide +kernel
theorem dX1_firstBareStep_0 : decode cX1_firstBareStep 0 = .ok (.iconst 0, 1) := by decide +kernel
theorem dX1_firstBareStep_1 : decode cX1_firstBareStep 1 = .ok (.istore_n 2, 1) := by decide +kernel
theorem dX1_firstBareStep_2 : decode cX1_firstBareStep 2 = .ok (.iload_n 2, 1) := by decide +kernel
theorem dX1_firstBareStep_3 : decode cX1_firstBareStep 3 = .ok (.aload_n 1, 1) := by decide +kernel
theorem dX1_firstBareStep_4 : decode cX1_firstBareStep 4 = .ok (.getfield 72, 3) := by decide +kernel
theorem dX1_firstBareStep_7 : decode cX1_firstBareStep 7 = .ok (.if_icmp .ge 30, 3) := by decide +kernel
theorem dX1_firstBareStep_10 : decode cX1_firstBareStep 10 = .ok (.aload_n 0, 1) := by decide +kernel
theorem dX1_firstBareStep_11 : decode cX1_firstBareStep 11 = .ok (.aload_n 1, 1) := by decide +kernel
theorem dX1_firstBareStep_12 : decode cX1_firstBareStep 12 = .ok (.iload_n 2, 1) := by decide +kernel
theorem dX1_firstBareStep_13 : decode cX1_firstBareStep 13 = .ok (.invokevirtual 75, 3) := by decide +kernel
theorem dX1_firstBareStep_16 : decode cX1_firstBareStep 16 = .ok (.bipush 60, 2) := by decide +kernel
theorem dX1_firstBareStep_18 : decode cX1_firstBareStep 18 = .ok (.if_icmp .lt 11, 3) := by decide +kernel
theorem dX1_firstBareStep_21 : decode cX1_firstBareStep 21 = .ok (.aload_n 1, 1) := by decide +kernel
theorem dX1_firstBareStep_22 : decode cX1_firstBareStep 22 = .ok (.iload_n 2, 1) := by decide +kernel
theorem dX1_firstBareStep_23 : decode cX1_firstBareStep 23 = .ok (.invokevirtual 69, 3) := by decide +kernel
theorem dX1_firstBareStep_26 : decode cX1_firstBareStep 26 = .ok (.ifCond .ge 5, 3) := by decide +kernel
theorem dX1_firstBareStep_29 : decode cX1_firstBareStep 29 = .ok (.iload_n 2, 1) := by decide +kernel
theorem dX1_firstBareStep_30 : decode cX1_firstBareStep 30 = .ok (.ireturn, 1) := by decide +kernel
theorem dX1_firstBareStep_31 : decode cX1_firstBareStep 31 = .ok (.iinc 2 1, 3) := by decide +kernel
theorem dX1_firstBareStep_34 : decode cX1_firstBareStep 34 = .ok (.goto (-32), 3) := by decide +kernel
theorem dX1_firstBareStep_37 : decode cX1_firstBareStep 37 = .ok (.iconst (-1), 1) := by decide +kernel
theorem dX1_firstBareStep_38 : decode cX1_firstBareStep 38 = .ok (.ireturn, 1) := by decide +kernel
theorem dX1_isReachedBy_0 : decode cX1_isReachedBy 0 = .ok (.iconst 0, 1) := by decide +kernel
theorem dX1_isReachedBy_1 : decode cX1_isReachedBy 1 = .ok (.istore_n 3, 1) := by decide +kernel
theorem dX1_isReachedBy_2 : decode cX1_isReachedBy 2 = .ok (.iload_n 3, 1) := by decide +kernel
theorem dX1_isReachedBy_3 : decode cX1_isReachedBy 3 = .ok (.aload_n 2, 1) := by decide +kernel
theorem dX1_isReachedBy_4 : decode cX1_isReachedBy 4 = .ok (.getfield 72, 3) := by decide +kernel
theorem dX1_isReachedBy_7 : decode cX1_isReachedBy 7 = .ok (.if_icmp .ge 60, 3) := by decide +kernel
theorem dX1_isReachedBy_10 : decode cX1_isReachedBy 10 = .ok (.aload_n 0, 1) := by decide +kernel
theorem dX1_isReachedBy_11 : decode cX1_isReachedBy 11 = .ok (.iload_n 1, 1) := by decide +kernel
theorem dX1_isReachedBy_12 : decode cX1_isReachedBy 12 = .ok (.aload_n 2, 1) := by decide +kernel
theorem dX1_isReachedBy_13 : decode cX1_isReachedBy 13 = .ok (.iload_n 3, 1) := by decide +kernel
theorem dX1_isReachedBy_14 : decode cX1_isReachedBy 14 = .ok (.invokevirtual 64, 3) := by decide +kernel
theorem dX1_isReachedBy_17 : decode cX1_isReachedBy 17 = .ok (.invokevirtual 57, 3) := by decide +kernel
theorem dX1_isReachedBy_20 : decode cX1_isReachedBy 20 = .ok (.istore 4, 2) := by decide +kernel
theorem dX1_isReachedBy_22 : decode cX1_isReachedBy 22 = .ok (.aload_n 0, 1) := by decide +kernel
theorem dX1_isReachedBy_23 : decode cX1_isReachedBy 23 = .ok (.iload_n 1, 1) := by decide +kernel
theorem dX1_isReachedBy_24 : decode cX1_isReachedBy 24 = .ok (.aload_n 2, 1) := by decide +kernel
theorem dX1_isReachedBy_25 : decode cX1_isReachedBy 25 = .ok (.iload_n 3, 1) := by decide +kernel
theorem dX1_isReachedBy_26 : decode cX1_isReachedBy 26 = .ok (.invokevirtual 64, 3) := by decide +kernel
theorem dX1_isReachedBy_29 : decode cX1_isReachedBy 29 = .ok (.invokevirtual 61, 3) := by decide +kernel
theorem dX1_isReachedBy_32 : decode cX1_isReachedBy 32 = .ok (.istore 5, 2) := by decide +kernel
theorem dX1_isReachedBy_34 : decode cX1_isReachedBy 34 = .ok (.iload 4, 2) := by decide +kernel
theorem dX1_isReachedBy_36 : decode cX1_isReachedBy 36 = .ok (.iload 4, 2) := by decide +kernel
theorem dX1_isReachedBy_38 : decode cX1_isReachedBy 38 = .ok (.imul, 1) := by decide +kernel
theorem dX1_isReachedBy_39 : decode cX1_isReachedBy 39 = .ok (.iload 5, 2) := by decide +kernel
theorem dX1_isReachedBy_41 : decode cX1_isReachedBy 41 = .ok (.iload 5, 2) := by decide +kernel
theorem dX1_isReachedBy_43 : decode cX1_isReachedBy 43 = .ok (.imul, 1) := by decide +kernel
theorem dX1_isReachedBy_44 : decode cX1_isReachedBy 44 = .ok (.iadd, 1) := by decide +kernel
theorem dX1_isReachedBy_45 : decode cX1_isReachedBy 45 = .ok (.aload_n 0, 1) := by decide +kernel
theorem dX1_isReachedBy_46 : decode cX1_isReachedBy 46 = .ok (.getfield 27, 3) := by decide +kernel
theorem dX1_isReachedBy_49 : decode cX1_isReachedBy 49 = .ok (.aload_n 0, 1) := by decide +kernel
theorem dX1_isReachedBy_50 : decode cX1_isReachedBy 50 = .ok (.getfield 15, 3) := by decide +kernel
theorem dX1_isReachedBy_53 : decode cX1_isReachedBy 53 = .ok (.iload_n 1, 1) := by decide +kernel
theorem dX1_isReachedBy_54 : decode cX1_isReachedBy 54 = .ok (.iaload, 1) := by decide +kernel
theorem dX1_isReachedBy_55 : decode cX1_isReachedBy 55 = .ok (.iaload, 1) := by decide +kernel
theorem dX1_isReachedBy_56 : decode cX1_isReachedBy 56 = .ok (.if_icmp .gt 5, 3) := by decide +kernel
theorem dX1_isReachedBy_59 : decode cX1_isReachedBy 59 = .ok (.iconst 1, 1) := by decide +kernel
theorem dX1_isReachedBy_60 : decode cX1_isReachedBy 60 = .ok (.ireturn, 1) := by decide +kernel
theorem dX1_isReachedBy_61 : decode cX1_isReachedBy 61 = .ok (.iinc 3 1, 3) := by decide +kernel
theorem dX1_isReachedBy_64 : decode cX1_isReachedBy 64 = .ok (.goto (-62), 3) := by decide +kernel
theorem dX1_isReachedBy_67 : decode cX1_isReachedBy 67 = .ok (.iconst 0, 1) := by decide +kernel
theorem dX1_isReachedBy_68 : decode cX1_isReachedBy 68 = .ok (.ireturn, 1) := by decide +kernel
theorem dX1_costBetween_0 : decode cX1_costBetween 0 = .ok (.bipush 10, 2) := by decide +kernel
theorem dX1_costBetween_2 : decode cX1_costBetween 2 = .ok (.aload_n 0, 1) := by decide +kernel
theorem dX1_costBetween_3 : decode cX1_costBetween 3 = .ok (.iload_n 1, 1) := by decide +kernel
theorem dX1_costBetween_4 : decode cX1_costBetween 4 = .ok (.iload_n 2, 1) := by decide +kernel
theorem dX1_costBetween_5 : decode cX1_costBetween 5 = .ok (.invokevirtual 57, 3) := by decide +kernel
theorem dX1_costBetween_8 : decode cX1_costBetween 8 = .ok (.aload_n 0, 1) := by decide +kernel
theorem dX1_costBetween_9 : decode cX1_costBetween 9 = .ok (.iload_n 1, 1) := by decide +kernel
theorem dX1_costBetween_10 : decode cX1_costBetween 10 = .ok (.iload_n 2, 1) := by decide +kernel
theorem dX1_costBetween_11 : decode cX1_costBetween 11 = .ok (.invokevirtual 61, 3) := by decide +kernel
theorem dX1_costBetween_14 : decode cX1_costBetween 14 = .ok (.iadd, 1) := by decide +kernel
theorem dX1_costBetween_15 : decode cX1_costBetween 15 = .ok (.imul, 1) := by decide +kernel
theorem dX1_costBetween_16 : decode cX1_costBetween 16 = .ok (.aload_n 0, 1) := by decide +kernel
theorem dX1_costBetween_17 : decode cX1_costBetween 17 = .ok (.getfield 9, 3) := by decide +kernel
theorem dX1_costBetween_20 : decode cX1_costBetween 20 = .ok (.iload_n 1, 1) := by decide +kernel
theorem dX1_costBetween_21 : decode cX1_costBetween 21 = .ok (.iaload, 1) := by decide +kernel
theorem dX1_costBetween_22 : decode cX1_costBetween 22 = .ok (.aload_n 0, 1) := by decide +kernel
theorem dX1_costBetween_23 : decode cX1_costBetween 23 = .ok (.getfield 9, 3) := by decide +kernel
theorem dX1_costBetween_26 : decode cX1_costBetween 26 = .ok (.iload_n 2, 1) := by decide +kernel
theorem dX1_costBetween_27 : decode cX1_costBetween 27 = .ok (.iaload, 1) := by decide +kernel
theorem dX1_costBetween_28 : decode cX1_costBetween 28 = .ok (.isub, 1) := by decide +kernel
theorem dX1_costBetween_29 : decode cX1_costBetween 29 = .ok (.invokestatic 52, 3) := by decide +kernel
theorem dX1_costBetween_32 : decode cX1_costBetween 32 = .ok (.iadd, 1) := by decide +kernel
theorem dX1_costBetween_33 : decode cX1_costBetween 33 = .ok (.ireturn, 1) := by decide +kernel
theorem dX2_init_0 : decode cX2_init 0 = .ok (.aload_n 0, 1) := by decide +kernel
theorem dX2_init_1 : decode cX2_init 1 = .ok (.invokespecial 1, 3) := by decide +kernel
theorem dX2_init_4 : decode cX2_init 4 = .ok (.return_, 1) := by decide +kernel
theorem dX2_has_0 : decode cX2_has 0 = .ok (.aload_n 0, 1) := by decide +kernel
theorem dX2_has_1 : decode cX2_has 1 = .ok (.getfield 7, 3) := by decide +kernel
theorem dX2_has_4 : decode cX2_has 4 = .ok (.iload_n 1, 1) := by decide +kernel
theorem dX2_has_5 : decode cX2_has 5 = .ok (.lushr, 1) := by decide +kernel
theorem dX2_has_6 : decode cX2_has 6 = .ok (.lconst 1, 1) := by decide +kernel
theorem dX2_has_7 : decode cX2_has 7 = .ok (.land, 1) := by decide +kernel
theorem dX2_has_8 : decode cX2_has 8 = .ok (.lconst 0, 1) := by decide +kernel
theorem dX2_has_9 : decode cX2_has 9 = .ok (.lcmp, 1) := by decide +kernel
theorem dX2_has_10 : decode cX2_has 10 = .ok (.ifCond .eq 7, 3) := by decide +kernel
theorem dX2_has_13 : decode cX2_has 13 = .ok (.iconst 1, 1) := by decide +kernel
theorem dX2_has_14 : decode cX2_has 14 = .ok (.goto 4, 3) := by decide +kernel
theorem dX2_has_17 : decode cX2_has 17 = .ok (.iconst 0, 1) := by decide +kernel
theorem dX2_has_18 : decode cX2_has 18 = .ok (.ireturn, 1) := by decide +kernel
theorem dX2_put_0 : decode cX2_put 0 = .ok (.aload_n 0, 1) := by decide +kernel
theorem dX2_put_1 : decode cX2_put 1 = .ok (.iload_n 1, 1) := by decide +kernel
theorem dX2_put_2 : decode cX2_put 2 = .ok (.invokevirtual 13, 3) := by decide +kernel
theorem dX2_put_5 : decode cX2_put 5 = .ok (.iload_n 2, 1) := by decide +kernel
theorem dX2_put_6 : decode cX2_put 6 = .ok (.if_icmp .ne 5, 3) := by decide +kernel
theorem dX2_put_9 : decode cX2_put 9 = .ok (.iconst 0, 1) := by decide +kernel
theorem dX2_put_10 : decode cX2_put 10 = .ok (.ireturn, 1) := by decide +kernel
theorem dX2_put_11 : decode cX2_put 11 = .ok (.aload_n 0, 1) := by decide +kernel
theorem dX2_put_12 : decode cX2_put 12 = .ok (.aload_n 0, 1) := by decide +kernel
theorem dX2_put_13 : decode cX2_put 13 = .ok (.getfield 7, 3) := by decide +kernel
theorem dX2_put_16 : decode cX2_put 16 = .ok (.lconst 1, 1) := by decide +kernel
theorem dX2_put_17 : decode cX2_put 17 = .ok (.iload_n 1, 1) := by decide +kernel
theorem dX2_put_18 : decode cX2_put 18 = .ok (.lshl, 1) := by decide +kernel
theorem dX2_put_19 : decode cX2_put 19 = .ok (.lxor, 1) := by decide +kernel
theorem dX2_put_20 : decode cX2_put 20 = .ok (.putfield 7, 3) := by decide +kernel
theorem dX2_put_23 : decode cX2_put 23 = .ok (.iconst 1, 1) := by decide +kernel
theorem dX2_put_24 : decode cX2_put 24 = .ok (.ireturn, 1) := by decide +kernel
theorem dX2_size_0 : decode cX2_size 0 = .ok (.aload_n 0, 1) := by decide +kernel
theorem dX2_size_1 : decode cX2_size 1 = .ok (.getfield 7, 3) := by decide +kernel
theorem dX2_size_4 : decode cX2_size 4 = .ok (.invokestatic 17, 3) := by decide +kernel
theorem dX2_size_7 : decode cX2_size 7 = .ok (.ireturn, 1) := by decide +kernel
theorem dX2_clear_0 : decode cX2_clear 0 = .ok (.aload_n 0, 1) := by decide +kernel
theorem dX2_clear_1 : decode cX2_clear 1 = .ok (.lconst 0, 1) := by decide +kernel
theorem dX2_clear_2 : decode cX2_clear 2 = .ok (.putfield 7, 3) := by decide +kernel
theorem dX2_clear_5 : decode cX2_clear 5 = .ok (.return_, 1) := by decide +kernel
theorem dX2_copyFrom_0 : decode cX2_copyFrom 0 = .ok (.aload_n 0, 1) := by decide +kernel
theorem dX2_copyFrom_1 : decode cX2_copyFrom 1 = .ok (.aload_n 1, 1) := by decide +kernel
theorem dX2_copyFrom_2 : decode cX2_copyFrom 2 = .ok (.getfield 7, 3) := by decide +kernel
theorem dX2_copyFrom_5 : decode cX2_copyFrom 5 = .ok (.putfield 7, 3) := by decide +kernel
theorem dX2_copyFrom_8 : decode cX2_copyFrom 8 = .ok (.return_, 1) := by decide +kernel
theorem dX3_init_0 : decode cX3_init 0 = .ok (.aload_n 0, 1) := by decide +kernel
theorem dX3_init_1 : decode cX3_init 1 = .ok (.invokespecial 1, 3) := by decide +kernel
theorem dX3_init_4 : decode cX3_init 4 = .ok (.return_, 1) := by decide +kernel
theorem dX3_set_0 : decode cX3_set 0 = .ok (.aload_n 0, 1) := by decide +kernel
theorem dX3_set_1 : decode cX3_set 1 = .ok (.iload_n 1, 1) := by decide +kernel
theorem dX3_set_2 : decode cX3_set 2 = .ok (.putfield 7, 3) := by decide +kernel
theorem dX3_set_5 : decode cX3_set 5 = .ok (.aload_n 0, 1) := by decide +kernel
theorem dX3_set_6 : decode cX3_set 6 = .ok (.iload_n 2, 1) := by decide +kernel
theorem dX3_set_7 : decode cX3_set 7 = .ok (.putfield 13, 3) := by decide +kernel
theorem dX3_set_10 : decode cX3_set 10 = .ok (.aload_n 0, 1) := by decide +kernel
theorem dX3_set_11 : decode cX3_set 11 = .ok (.iload_n 3, 1) := by decide +kernel
theorem dX3_set_12 : decode cX3_set 12 = .ok (.putfield 16, 3) := by decide +kernel
theorem dX3_set_15 : decode cX3_set 15 = .ok (.aload_n 0, 1) := by decide +kernel
theorem dX3_set_16 : decode cX3_set 16 = .ok (.iload 4, 2) := by decide +kernel
theorem dX3_set_18 : decode cX3_set 18 = .ok (.putfield 19, 3) := by decide +kernel
theorem dX3_set_21 : decode cX3_set 21 = .ok (.aload_n 0, 1) := by decide +kernel
theorem dX3_set_22 : decode cX3_set 22 = .ok (.iload 5, 2) := by decide +kernel
theorem dX3_set_24 : decode cX3_set 24 = .ok (.putfield 22, 3) := by decide +kernel
theorem dX3_set_27 : decode cX3_set 27 = .ok (.return_, 1) := by decide +kernel
theorem dX3_clear_0 : decode cX3_clear 0 = .ok (.aload_n 0, 1) := by decide +kernel
theorem dX3_clear_1 : decode cX3_clear 1 = .ok (.iconst 0, 1) := by decide +kernel
theorem dX3_clear_2 : decode cX3_clear 2 = .ok (.iconst 0, 1) := by decide +kernel
theorem dX3_clear_3 : decode cX3_clear 3 = .ok (.iconst 0, 1) := by decide +kernel
theorem dX3_clear_4 : decode cX3_clear 4 = .ok (.iconst 0, 1) := by decide +kernel
theorem dX3_clear_5 : decode cX3_clear 5 = .ok (.iconst 0, 1) := by decide +kernel
theorem dX3_clear_6 : decode cX3_clear 6 = .ok (.invokevirtual 25, 3) := by decide +kernel
theorem dX3_clear_9 : decode cX3_clear 9 = .ok (.return_, 1) := by decide +kernel
theorem dX3_copyFrom_0 : decode cX3_copyFrom 0 = .ok (.aload_n 0, 1) := by decide +kernel
theorem dX3_copyFrom_1 : decode cX3_copyFrom 1 = .ok (.aload_n 1, 1) := by decide +kernel
theorem dX3_copyFrom_2 : decode cX3_copyFrom 2 = .ok (.getfield 7, 3) := by decide +kernel
theorem dX3_copyFrom_5 : decode cX3_copyFrom 5 = .ok (.aload_n 1, 1) := by decide +kernel
theorem dX3_copyFrom_6 : decode cX3_copyFrom 6 = .ok (.getfield 13, 3) := by decide +kernel
theorem dX3_copyFrom_9 : decode cX3_copyFrom 9 = .ok (.aload_n 1, 1) := by decide +kernel
theorem dX3_copyFrom_10 : decode cX3_copyFrom 10 = .ok (.getfield 16, 3) := by decide +kernel
theorem dX3_copyFrom_13 : decode cX3_copyFrom 13 = .ok (.aload_n 1, 1) := by decide +kernel
theorem dX3_copyFrom_14 : decode cX3_copyFrom 14 = .ok (.getfield 19, 3) := by decide +kernel
theorem dX3_copyFrom_17 : decode cX3_copyFrom 17 = .ok (.aload_n 1, 1) := by decide +kernel
theorem dX3_copyFrom_18 : decode cX3_copyFrom 18 = .ok (.getfield 22, 3) := by decide +kernel
theorem dX3_copyFrom_21 : decode cX3_copyFrom 21 = .ok (.invokevirtual 25, 3) := by decide +kernel
theorem dX3_copyFrom_24 : decode cX3_copyFrom 24 = .ok (.return_, 1) := by decide +kernel
theorem dX3_placeAt_0 : decode cX3_placeAt 0 = .ok (.aload_n 0, 1) := by decide +kernel
theorem dX3_placeAt_1 : decode cX3_placeAt 1 = .ok (.getfield 7, 3) := by decide +kernel
theorem dX3_placeAt_4 : decode cX3_placeAt 4 = .ok (.iload_n 1, 1) := by decide +kernel
theorem dX3_placeAt_5 : decode cX3_placeAt 5 = .ok (.aload_n 0, 1) := by decide +kernel
theorem dX3_placeAt_6 : decode cX3_placeAt 6 = .ok (.getfield 13, 3) := by decide +kernel
theorem dX3_placeAt_9 : decode cX3_placeAt 9 = .ok (.imul, 1) := by decide +kernel
theorem dX3_placeAt_10 : decode cX3_placeAt 10 = .ok (.iadd, 1) := by decide +kernel
theorem dX3_placeAt_11 : decode cX3_placeAt 11 = .ok (.ireturn, 1) := by decide +kernel
theorem dX3_levelAt_0 : decode cX3_levelAt 0 = .ok (.aload_n 0, 1) := by decide +kernel
theorem dX3_levelAt_1 : decode cX3_levelAt 1 = .ok (.getfield 19, 3) := by decide +kernel
theorem dX3_levelAt_4 : decode cX3_levelAt 4 = .ok (.iload_n 1, 1) := by decide +kernel
theorem dX3_levelAt_5 : decode cX3_levelAt 5 = .ok (.aload_n 0, 1) := by decide +kernel
theorem dX3_levelAt_6 : decode cX3_levelAt 6 = .ok (.getfield 22, 3) := by decide +kernel
theorem dX3_levelAt_9 : decode cX3_levelAt 9 = .ok (.imul, 1) := by decide +kernel
theorem dX3_levelAt_10 : decode cX3_levelAt 10 = .ok (.isub, 1) := by decide +kernel
theorem dX3_levelAt_11 : decode cX3_levelAt 11 = .ok (.ireturn, 1) := by decide +kernel
theorem dX3_stepOn_0 : decode cX3_stepOn 0 = .ok (.iconst 0, 1) := by decide +kernel
theorem dX3_stepOn_1 : decode cX3_stepOn 1 = .ok (.istore_n 2, 1) := by decide +kernel
theorem dX3_stepOn_2 : decode cX3_stepOn 2 = .ok (.iload_n 2, 1) := by decide +kernel
theorem dX3_stepOn_3 : decode cX3_stepOn 3 = .ok (.aload_n 0, 1) := by decide +kernel
theorem dX3_stepOn_4 : decode cX3_stepOn 4 = .ok (.getfield 16, 3) := by decide +kernel
theorem dX3_stepOn_7 : decode cX3_stepOn 7 = .ok (.if_icmp .ge 20, 3) := by decide +kernel
theorem dX3_stepOn_10 : decode cX3_stepOn 10 = .ok (.aload_n 0, 1) := by decide +kernel
theorem dX3_stepOn_11 : decode cX3_stepOn 11 = .ok (.iload_n 2, 1) := by decide +kernel
theorem dX3_stepOn_12 : decode cX3_stepOn 12 = .ok (.invokevirtual 29, 3) := by decide +kernel
theorem dX3_stepOn_15 : decode cX3_stepOn 15 = .ok (.iload_n 1, 1) := by decide +kernel
theorem dX3_stepOn_16 : decode cX3_stepOn 16 = .ok (.if_icmp .ne 5, 3) := by decide +kernel
theorem dX3_stepOn_19 : decode cX3_stepOn 19 = .ok (.iload_n 2, 1) := by decide +kernel
theorem dX3_stepOn_20 : decode cX3_stepOn 20 = .ok (.ireturn, 1) := by decide +kernel
theorem dX3_stepOn_21 : decode cX3_stepOn 21 = .ok (.iinc 2 1, 3) := by decide +kernel
theorem dX3_stepOn_24 : decode cX3_stepOn 24 = .ok (.goto (-22), 3) := by decide +kernel
theorem dX3_stepOn_27 : decode cX3_stepOn 27 = .ok (.iconst (-1), 1) := by decide +kernel
theorem dX3_stepOn_28 : decode cX3_stepOn 28 = .ok (.ireturn, 1) := by decide +kernel
theorem dX4_init_0 : decode cX4_init 0 = .ok (.aload_n 0, 1) := by decide +kernel
theorem dX4_init_1 : decode cX4_init 1 = .ok (.invokespecial 3, 3) := by decide +kernel
theorem dX4_init_4 : decode cX4_init 4 = .ok (.aload_n 0, 1) := by decide +kernel
theorem dX4_init_5 : decode cX4_init 5 = .ok (.bipush 20, 2) := by decide +kernel
theorem dX4_init_7 : decode cX4_init 7 = .ok (.anewarray 9, 3) := by decide +kernel
theorem dX4_init_10 : decode cX4_init 10 = .ok (.putfield 11, 3) := by decide +kernel
theorem dX4_init_13 : decode cX4_init 13 = .ok (.iconst 0, 1) := by decide +kernel
theorem dX4_init_14 : decode cX4_init 14 = .ok (.istore_n 1, 1) := by decide +kernel
theorem dX4_init_15 : decode cX4_init 15 = .ok (.iload_n 1, 1) := by decide +kernel
theorem dX4_init_16 : decode cX4_init 16 = .ok (.bipush 20, 2) := by decide +kernel
theorem dX4_init_18 : decode cX4_init 18 = .ok (.if_icmp .ge 22, 3) := by decide +kernel
theorem dX4_init_21 : decode cX4_init 21 = .ok (.aload_n 0, 1) := by decide +kernel
theorem dX4_init_22 : decode cX4_init 22 = .ok (.getfield 11, 3) := by decide +kernel
theorem dX4_init_25 : decode cX4_init 25 = .ok (.iload_n 1, 1) := by decide +kernel
theorem dX4_init_26 : decode cX4_init 26 = .ok (.new 9, 3) := by decide +kernel
theorem dX4_init_29 : decode cX4_init 29 = .ok (.dup, 1) := by decide +kernel
theorem dX4_init_30 : decode cX4_init 30 = .ok (.invokespecial 17, 3) := by decide +kernel
theorem dX4_init_33 : decode cX4_init 33 = .ok (.aastore, 1) := by decide +kernel
theorem dX4_init_34 : decode cX4_init 34 = .ok (.iinc 1 1, 3) := by decide +kernel
theorem dX4_init_37 : decode cX4_init 37 = .ok (.goto (-22), 3) := by decide +kernel
theorem dX4_init_40 : decode cX4_init 40 = .ok (.return_, 1) := by decide +kernel
theorem dX4_hasPipe_0 : decode cX4_hasPipe 0 = .ok (.iload_n 1, 1) := by decide +kernel
theorem dX4_hasPipe_1 : decode cX4_hasPipe 1 = .ok (.ifCond .lt 15, 3) := by decide +kernel
theorem dX4_hasPipe_4 : decode cX4_hasPipe 4 = .ok (.iload_n 1, 1) := by decide +kernel
theorem dX4_hasPipe_5 : decode cX4_hasPipe 5 = .ok (.aload_n 0, 1) := by decide +kernel
theorem dX4_hasPipe_6 : decode cX4_hasPipe 6 = .ok (.getfield 18, 3) := by decide +kernel
theorem dX4_hasPipe_9 : decode cX4_hasPipe 9 = .ok (.if_icmp .ge 7, 3) := by decide +kernel
theorem dX4_hasPipe_12 : decode cX4_hasPipe 12 = .ok (.iconst 1, 1) := by decide +kernel
theorem dX4_hasPipe_13 : decode cX4_hasPipe 13 = .ok (.goto 4, 3) := by decide +kernel
theorem dX4_hasPipe_16 : decode cX4_hasPipe 16 = .ok (.iconst 0, 1) := by decide +kernel
theorem dX4_hasPipe_17 : decode cX4_hasPipe 17 = .ok (.ireturn, 1) := by decide +kernel
theorem dX4_copyFrom_0 : decode cX4_copyFrom 0 = .ok (.iconst 0, 1) := by decide +kernel
theorem dX4_copyFrom_1 : decode cX4_copyFrom 1 = .ok (.istore_n 2, 1) := by decide +kernel
theorem dX4_copyFrom_2 : decode cX4_copyFrom 2 = .ok (.iload_n 2, 1) := by decide +kernel
theorem dX4_copyFrom_3 : decode cX4_copyFrom 3 = .ok (.aload_n 1, 1) := by decide +kernel
theorem dX4_copyFrom_4 : decode cX4_copyFrom 4 = .ok (.getfield 18, 3) := by decide +kernel
theorem dX4_copyFrom_7 : decode cX4_copyFrom 7 = .ok (.if_icmp .ge 24, 3) := by decide +kernel
theorem dX4_copyFrom_10 : decode cX4_copyFrom 10 = .ok (.aload_n 0, 1) := by decide +kernel
theorem dX4_copyFrom_11 : decode cX4_copyFrom 11 = .ok (.getfield 11, 3) := by decide +kernel
theorem dX4_copyFrom_14 : decode cX4_copyFrom 14 = .ok (.iload_n 2, 1) := by decide +kernel
theorem dX4_copyFrom_15 : decode cX4_copyFrom 15 = .ok (.aaload, 1) := by decide +kernel
theorem dX4_copyFrom_16 : decode cX4_copyFrom 16 = .ok (.aload_n 1, 1) := by decide +kernel
theorem dX4_copyFrom_17 : decode cX4_copyFrom 17 = .ok (.getfield 11, 3) := by decide +kernel
theorem dX4_copyFrom_20 : decode cX4_copyFrom 20 = .ok (.iload_n 2, 1) := by decide +kernel
theorem dX4_copyFrom_21 : decode cX4_copyFrom 21 = .ok (.aaload, 1) := by decide +kernel
theorem dX4_copyFrom_22 : decode cX4_copyFrom 22 = .ok (.invokevirtual 22, 3) := by decide +kernel
theorem dX4_copyFrom_25 : decode cX4_copyFrom 25 = .ok (.iinc 2 1, 3) := by decide +kernel
theorem dX4_copyFrom_28 : decode cX4_copyFrom 28 = .ok (.goto (-26), 3) := by decide +kernel
theorem dX4_copyFrom_31 : decode cX4_copyFrom 31 = .ok (.aload_n 0, 1) := by decide +kernel
theorem dX4_copyFrom_32 : decode cX4_copyFrom 32 = .ok (.aload_n 1, 1) := by decide +kernel
theorem dX4_copyFrom_33 : decode cX4_copyFrom 33 = .ok (.getfield 18, 3) := by decide +kernel
theorem dX4_copyFrom_36 : decode cX4_copyFrom 36 = .ok (.putfield 18, 3) := by decide +kernel
theorem dX4_copyFrom_39 : decode cX4_copyFrom 39 = .ok (.return_, 1) := by decide +kernel
end
section
theorem dX4_rankOf_0 : decode cX4_rankOf 0 = .ok (.iconst 0, 1) := by decide +kernel
theorem dX4_rankOf_1 : decode cX4_rankOf 1 = .ok (.istore_n 2, 1) := by decide +kernel
theorem dX4_rankOf_2 : decode cX4_rankOf 2 = .ok (.iload_n 1, 1) := by decide +kernel
theorem dX4_rankOf_3 : decode cX4_rankOf 3 = .ok (.istore_n 3, 1) := by decide +kernel
theorem dX4_rankOf_4 : decode cX4_rankOf 4 = .ok (.iload_n 2, 1) := by decide +kernel
theorem dX4_rankOf_5 : decode cX4_rankOf 5 = .ok (.bipush 20, 2) := by decide +kernel
theorem dX4_rankOf_7 : decode cX4_rankOf 7 = .ok (.if_icmp .ge 31, 3) := by decide +kernel
theorem dX4_rankOf_10 : decode cX4_rankOf 10 = .ok (.aload_n 0, 1) := by decide +kernel
theorem dX4_rankOf_11 : decode cX4_rankOf 11 = .ok (.getfield 11, 3) := by decide +kernel
theorem dX4_rankOf_14 : decode cX4_rankOf 14 = .ok (.iload_n 3, 1) := by decide +kernel
theorem dX4_rankOf_15 : decode cX4_rankOf 15 = .ok (.aaload, 1) := by decide +kernel
theorem dX4_rankOf_16 : decode cX4_rankOf 16 = .ok (.invokevirtual 26, 3) := by decide +kernel
theorem dX4_rankOf_19 : decode cX4_rankOf 19 = .ok (.ifCond .eq 19, 3) := by decide +kernel
theorem dX4_rankOf_22 : decode cX4_rankOf 22 = .ok (.aload_n 0, 1) := by decide +kernel
theorem dX4_rankOf_23 : decode cX4_rankOf 23 = .ok (.getfield 11, 3) := by decide +kernel
theorem dX4_rankOf_26 : decode cX4_rankOf 26 = .ok (.iload_n 3, 1) := by decide +kernel
theorem dX4_rankOf_27 : decode cX4_rankOf 27 = .ok (.aaload, 1) := by decide +kernel
theorem dX4_rankOf_28 : decode cX4_rankOf 28 = .ok (.getfield 30, 3) := by decide +kernel
theorem dX4_rankOf_31 : decode cX4_rankOf 31 = .ok (.istore_n 3, 1) := by decide +kernel
theorem dX4_rankOf_32 : decode cX4_rankOf 32 = .ok (.iinc 2 1, 3) := by decide +kernel
theorem dX4_rankOf_35 : decode cX4_rankOf 35 = .ok (.goto (-31), 3) := by decide +kernel
theorem dX4_rankOf_38 : decode cX4_rankOf 38 = .ok (.iload_n 2, 1) := by decide +kernel
theorem dX4_rankOf_39 : decode cX4_rankOf 39 = .ok (.ireturn, 1) := by decide +kernel
theorem dX4_leadsTo_0 : decode cX4_leadsTo 0 = .ok (.iload_n 1, 1) := by decide +kernel
theorem dX4_leadsTo_1 : decode cX4_leadsTo 1 = .ok (.istore_n 3, 1) := by decide +kernel
theorem dX4_leadsTo_2 : decode cX4_leadsTo 2 = .ok (.iconst 0, 1) := by decide +kernel
theorem dX4_leadsTo_3 : decode cX4_leadsTo 3 = .ok (.istore 4, 2) := by decide +kernel
theorem dX4_leadsTo_5 : decode cX4_leadsTo 5 = .ok (.iload 4, 2) := by decide +kernel
theorem dX4_leadsTo_7 : decode cX4_leadsTo 7 = .ok (.bipush 20, 2) := by decide +kernel
theorem dX4_leadsTo_9 : decode cX4_leadsTo 9 = .ok (.if_icmp .ge 40, 3) := by decide +kernel
theorem dX4_leadsTo_12 : decode cX4_leadsTo 12 = .ok (.iload_n 3, 1) := by decide +kernel
theorem dX4_leadsTo_13 : decode cX4_leadsTo 13 = .ok (.iload_n 2, 1) := by decide +kernel
theorem dX4_leadsTo_14 : decode cX4_leadsTo 14 = .ok (.if_icmp .ne 5, 3) := by decide +kernel
theorem dX4_leadsTo_17 : decode cX4_leadsTo 17 = .ok (.iconst 1, 1) := by decide +kernel
theorem dX4_leadsTo_18 : decode cX4_leadsTo 18 = .ok (.ireturn, 1) := by decide +kernel
theorem dX4_leadsTo_19 : decode cX4_leadsTo 19 = .ok (.aload_n 0, 1) := by decide +kernel
theorem dX4_leadsTo_20 : decode cX4_leadsTo 20 = .ok (.getfield 11, 3) := by decide +kernel
theorem dX4_leadsTo_23 : decode cX4_leadsTo 23 = .ok (.iload_n 3, 1) := by decide +kernel
theorem dX4_leadsTo_24 : decode cX4_leadsTo 24 = .ok (.aaload, 1) := by decide +kernel
theorem dX4_leadsTo_25 : decode cX4_leadsTo 25 = .ok (.invokevirtual 26, 3) := by decide +kernel
theorem dX4_leadsTo_28 : decode cX4_leadsTo 28 = .ok (.ifCond .ne 5, 3) := by decide +kernel
theorem dX4_leadsTo_31 : decode cX4_leadsTo 31 = .ok (.iconst 0, 1) := by decide +kernel
theorem dX4_leadsTo_32 : decode cX4_leadsTo 32 = .ok (.ireturn, 1) := by decide +kernel
theorem dX4_leadsTo_33 : decode cX4_leadsTo 33 = .ok (.aload_n 0, 1) := by decide +kernel
theorem dX4_leadsTo_34 : decode cX4_leadsTo 34 = .ok (.getfield 11, 3) := by decide +kernel
theorem dX4_leadsTo_37 : decode cX4_leadsTo 37 = .ok (.iload_n 3, 1) := by decide +kernel
theorem dX4_leadsTo_38 : decode cX4_leadsTo 38 = .ok (.aaload, 1) := by decide +kernel
theorem dX4_leadsTo_39 : decode cX4_leadsTo 39 = .ok (.getfield 30, 3) := by decide +kernel
theorem dX4_leadsTo_42 : decode cX4_leadsTo 42 = .ok (.istore_n 3, 1) := by decide +kernel
theorem dX4_leadsTo_43 : decode cX4_leadsTo 43 = .ok (.iinc 4 1, 3) := by decide +kernel
theorem dX4_leadsTo_46 : decode cX4_leadsTo 46 = .ok (.goto (-41), 3) := by decide +kernel
theorem dX4_leadsTo_49 : decode cX4_leadsTo 49 = .ok (.iconst 0, 1) := by decide +kernel
theorem dX4_leadsTo_50 : decode cX4_leadsTo 50 = .ok (.ireturn, 1) := by decide +kernel
theorem dX4_peakOf_0 : decode cX4_peakOf 0 = .ok (.iconst 0, 1) := by decide +kernel
theorem dX4_peakOf_1 : decode cX4_peakOf 1 = .ok (.istore_n 2, 1) := by decide +kernel
theorem dX4_peakOf_2 : decode cX4_peakOf 2 = .ok (.iconst 0, 1) := by decide +kernel
theorem dX4_peakOf_3 : decode cX4_peakOf 3 = .ok (.istore_n 3, 1) := by decide +kernel
theorem dX4_peakOf_4 : decode cX4_peakOf 4 = .ok (.iload_n 3, 1) := by decide +kernel
theorem dX4_peakOf_5 : decode cX4_peakOf 5 = .ok (.aload_n 0, 1) := by decide +kernel
theorem dX4_peakOf_6 : decode cX4_peakOf 6 = .ok (.getfield 18, 3) := by decide +kernel
theorem dX4_peakOf_9 : decode cX4_peakOf 9 = .ok (.if_icmp .ge 34, 3) := by decide +kernel
theorem dX4_peakOf_12 : decode cX4_peakOf 12 = .ok (.aload_n 0, 1) := by decide +kernel
theorem dX4_peakOf_13 : decode cX4_peakOf 13 = .ok (.getfield 11, 3) := by decide +kernel
theorem dX4_peakOf_16 : decode cX4_peakOf 16 = .ok (.iload_n 3, 1) := by decide +kernel
theorem dX4_peakOf_17 : decode cX4_peakOf 17 = .ok (.aaload, 1) := by decide +kernel
theorem dX4_peakOf_18 : decode cX4_peakOf 18 = .ok (.getfield 30, 3) := by decide +kernel
theorem dX4_peakOf_21 : decode cX4_peakOf 21 = .ok (.iload_n 1, 1) := by decide +kernel
theorem dX4_peakOf_22 : decode cX4_peakOf 22 = .ok (.if_icmp .ne 15, 3) := by decide +kernel
theorem dX4_peakOf_25 : decode cX4_peakOf 25 = .ok (.iload_n 2, 1) := by decide +kernel
theorem dX4_peakOf_26 : decode cX4_peakOf 26 = .ok (.aload_n 0, 1) := by decide +kernel
theorem dX4_peakOf_27 : decode cX4_peakOf 27 = .ok (.getfield 11, 3) := by decide +kernel
theorem dX4_peakOf_30 : decode cX4_peakOf 30 = .ok (.iload_n 3, 1) := by decide +kernel
theorem dX4_peakOf_31 : decode cX4_peakOf 31 = .ok (.aaload, 1) := by decide +kernel
theorem dX4_peakOf_32 : decode cX4_peakOf 32 = .ok (.getfield 33, 3) := by decide +kernel
theorem dX4_peakOf_35 : decode cX4_peakOf 35 = .ok (.iadd, 1) := by decide +kernel
theorem dX4_peakOf_36 : decode cX4_peakOf 36 = .ok (.istore_n 2, 1) := by decide +kernel
theorem dX4_peakOf_37 : decode cX4_peakOf 37 = .ok (.iinc 3 1, 3) := by decide +kernel
theorem dX4_peakOf_40 : decode cX4_peakOf 40 = .ok (.goto (-36), 3) := by decide +kernel
theorem dX4_peakOf_43 : decode cX4_peakOf 43 = .ok (.iload_n 2, 1) := by decide +kernel
theorem dX4_peakOf_44 : decode cX4_peakOf 44 = .ok (.aload_n 0, 1) := by decide +kernel
theorem dX4_peakOf_45 : decode cX4_peakOf 45 = .ok (.getfield 11, 3) := by decide +kernel
theorem dX4_peakOf_48 : decode cX4_peakOf 48 = .ok (.iload_n 1, 1) := by decide +kernel
theorem dX4_peakOf_49 : decode cX4_peakOf 49 = .ok (.aaload, 1) := by decide +kernel
theorem dX4_peakOf_50 : decode cX4_peakOf 50 = .ok (.getfield 33, 3) := by decide +kernel
theorem dX4_peakOf_53 : decode cX4_peakOf 53 = .ok (.invokestatic 36, 3) := by decide +kernel
theorem dX4_peakOf_56 : decode cX4_peakOf 56 = .ok (.ireturn, 1) := by decide +kernel
theorem dX5_init_0 : decode cX5_init 0 = .ok (.aload_n 0, 1) := by decide +kernel
theorem dX5_init_1 : decode cX5_init 1 = .ok (.invokespecial 3, 3) := by decide +kernel
theorem dX5_init_4 : decode cX5_init 4 = .ok (.aload_n 0, 1) := by decide +kernel
theorem dX5_init_5 : decode cX5_init 5 = .ok (.new 9, 3) := by decide +kernel
theorem dX5_init_8 : decode cX5_init 8 = .ok (.dup, 1) := by decide +kernel
theorem dX5_init_9 : decode cX5_init 9 = .ok (.invokespecial 11, 3) := by decide +kernel
theorem dX5_init_12 : decode cX5_init 12 = .ok (.putfield 12, 3) := by decide +kernel
theorem dX5_init_15 : decode cX5_init 15 = .ok (.return_, 1) := by decide +kernel
theorem dX5_lay_0 : decode cX5_lay 0 = .ok (.aload_n 0, 1) := by decide +kernel
theorem dX5_lay_1 : decode cX5_lay 1 = .ok (.getfield 12, 3) := by decide +kernel
theorem dX5_lay_4 : decode cX5_lay 4 = .ok (.aload_n 1, 1) := by decide +kernel
theorem dX5_lay_5 : decode cX5_lay 5 = .ok (.invokevirtual 18, 3) := by decide +kernel
theorem dX5_lay_8 : decode cX5_lay 8 = .ok (.aload_n 0, 1) := by decide +kernel
theorem dX5_lay_9 : decode cX5_lay 9 = .ok (.iload_n 2, 1) := by decide +kernel
theorem dX5_lay_10 : decode cX5_lay 10 = .ok (.putfield 22, 3) := by decide +kernel
theorem dX5_lay_13 : decode cX5_lay 13 = .ok (.aload_n 0, 1) := by decide +kernel
theorem dX5_lay_14 : decode cX5_lay 14 = .ok (.iload_n 3, 1) := by decide +kernel
theorem dX5_lay_15 : decode cX5_lay 15 = .ok (.putfield 26, 3) := by decide +kernel
theorem dX5_lay_18 : decode cX5_lay 18 = .ok (.aload_n 0, 1) := by decide +kernel
theorem dX5_lay_19 : decode cX5_lay 19 = .ok (.aload_n 0, 1) := by decide +kernel
theorem dX5_lay_20 : decode cX5_lay 20 = .ok (.getfield 26, 3) := by decide +kernel
theorem dX5_lay_23 : decode cX5_lay 23 = .ok (.aload_n 0, 1) := by decide +kernel
theorem dX5_lay_24 : decode cX5_lay 24 = .ok (.getfield 26, 3) := by decide +kernel
theorem dX5_lay_27 : decode cX5_lay 27 = .ok (.imul, 1) := by decide +kernel
theorem dX5_lay_28 : decode cX5_lay 28 = .ok (.aload_n 0, 1) := by decide +kernel
theorem dX5_lay_29 : decode cX5_lay 29 = .ok (.getfield 12, 3) := by decide +kernel
theorem dX5_lay_32 : decode cX5_lay 32 = .ok (.getfield 29, 3) := by decide +kernel
theorem dX5_lay_35 : decode cX5_lay 35 = .ok (.iconst 5, 1) := by decide +kernel
theorem dX5_lay_36 : decode cX5_lay 36 = .ok (.iadd, 1) := by decide +kernel
theorem dX5_lay_37 : decode cX5_lay 37 = .ok (.imul, 1) := by decide +kernel
theorem dX5_lay_38 : decode cX5_lay 38 = .ok (.putfield 32, 3) := by decide +kernel
theorem dX5_lay_41 : decode cX5_lay 41 = .ok (.aload_n 0, 1) := by decide +kernel
theorem dX5_lay_42 : decode cX5_lay 42 = .ok (.bipush 40, 2) := by decide +kernel
theorem dX5_lay_44 : decode cX5_lay 44 = .ok (.aload_n 0, 1) := by decide +kernel
theorem dX5_lay_45 : decode cX5_lay 45 = .ok (.getfield 26, 3) := by decide +kernel
theorem dX5_lay_48 : decode cX5_lay 48 = .ok (.imul, 1) := by decide +kernel
theorem dX5_lay_49 : decode cX5_lay 49 = .ok (.aload_n 0, 1) := by decide +kernel
theorem dX5_lay_50 : decode cX5_lay 50 = .ok (.getfield 12, 3) := by decide +kernel
theorem dX5_lay_53 : decode cX5_lay 53 = .ok (.getfield 35, 3) := by decide +kernel
theorem dX5_lay_56 : decode cX5_lay 56 = .ok (.imul, 1) := by decide +kernel
theorem dX5_lay_57 : decode cX5_lay 57 = .ok (.putfield 38, 3) := by decide +kernel
theorem dX5_lay_60 : decode cX5_lay 60 = .ok (.aload_n 0, 1) := by decide +kernel
theorem dX5_lay_61 : decode cX5_lay 61 = .ok (.iconst (-1), 1) := by decide +kernel
theorem dX5_lay_62 : decode cX5_lay 62 = .ok (.putfield 41, 3) := by decide +kernel
theorem dX5_lay_65 : decode cX5_lay 65 = .ok (.return_, 1) := by decide +kernel
theorem dX5_copyFrom_0 : decode cX5_copyFrom 0 = .ok (.aload_n 0, 1) := by decide +kernel
theorem dX5_copyFrom_1 : decode cX5_copyFrom 1 = .ok (.getfield 12, 3) := by decide +kernel
theorem dX5_copyFrom_4 : decode cX5_copyFrom 4 = .ok (.aload_n 1, 1) := by decide +kernel
theorem dX5_copyFrom_5 : decode cX5_copyFrom 5 = .ok (.getfield 12, 3) := by decide +kernel
theorem dX5_copyFrom_8 : decode cX5_copyFrom 8 = .ok (.invokevirtual 18, 3) := by decide +kernel
theorem dX5_copyFrom_11 : decode cX5_copyFrom 11 = .ok (.aload_n 0, 1) := by decide +kernel
theorem dX5_copyFrom_12 : decode cX5_copyFrom 12 = .ok (.aload_n 1, 1) := by decide +kernel
theorem dX5_copyFrom_13 : decode cX5_copyFrom 13 = .ok (.getfield 22, 3) := by decide +kernel
theorem dX5_copyFrom_16 : decode cX5_copyFrom 16 = .ok (.putfield 22, 3) := by decide +kernel
theorem dX5_copyFrom_19 : decode cX5_copyFrom 19 = .ok (.aload_n 0, 1) := by decide +kernel
theorem dX5_copyFrom_20 : decode cX5_copyFrom 20 = .ok (.aload_n 1, 1) := by decide +kernel
theorem dX5_copyFrom_21 : decode cX5_copyFrom 21 = .ok (.getfield 26, 3) := by decide +kernel
theorem dX5_copyFrom_24 : decode cX5_copyFrom 24 = .ok (.putfield 26, 3) := by decide +kernel
theorem dX5_copyFrom_27 : decode cX5_copyFrom 27 = .ok (.aload_n 0, 1) := by decide +kernel
theorem dX5_copyFrom_28 : decode cX5_copyFrom 28 = .ok (.aload_n 1, 1) := by decide +kernel
theorem dX5_copyFrom_29 : decode cX5_copyFrom 29 = .ok (.getfield 32, 3) := by decide +kernel
theorem dX5_copyFrom_32 : decode cX5_copyFrom 32 = .ok (.putfield 32, 3) := by decide +kernel
theorem dX5_copyFrom_35 : decode cX5_copyFrom 35 = .ok (.aload_n 0, 1) := by decide +kernel
theorem dX5_copyFrom_36 : decode cX5_copyFrom 36 = .ok (.aload_n 1, 1) := by decide +kernel
theorem dX5_copyFrom_37 : decode cX5_copyFrom 37 = .ok (.getfield 38, 3) := by decide +kernel
theorem dX5_copyFrom_40 : decode cX5_copyFrom 40 = .ok (.putfield 38, 3) := by decide +kernel
theorem dX5_copyFrom_43 : decode cX5_copyFrom 43 = .ok (.aload_n 0, 1) := by decide +kernel
theorem dX5_copyFrom_44 : decode cX5_copyFrom 44 = .ok (.aload_n 1, 1) := by decide +kernel
theorem dX5_copyFrom_45 : decode cX5_copyFrom 45 = .ok (.getfield 41, 3) := by decide +kernel
theorem dX5_copyFrom_48 : decode cX5_copyFrom 48 = .ok (.putfield 41, 3) := by decide +kernel
theorem dX5_copyFrom_51 : decode cX5_copyFrom 51 = .ok (.return_, 1) := by decide +kernel
theorem dX5_isLateral_0 : decode cX5_isLateral 0 = .ok (.aload_n 0, 1) := by decide +kernel
theorem dX5_isLateral_1 : decode cX5_isLateral 1 = .ok (.getfield 22, 3) := by decide +kernel
theorem dX5_isLateral_4 : decode cX5_isLateral 4 = .ok (.ifCond .eq 11, 3) := by decide +kernel
theorem dX5_isLateral_7 : decode cX5_isLateral 7 = .ok (.aload_n 0, 1) := by decide +kernel
theorem dX5_isLateral_8 : decode cX5_isLateral 8 = .ok (.getfield 22, 3) := by decide +kernel
theorem dX5_isLateral_11 : decode cX5_isLateral 11 = .ok (.iconst 2, 1) := by decide +kernel
theorem dX5_isLateral_12 : decode cX5_isLateral 12 = .ok (.if_icmp .ne 7, 3) := by decide +kernel
theorem dX5_isLateral_15 : decode cX5_isLateral 15 = .ok (.iconst 1, 1) := by decide +kernel
theorem dX5_isLateral_16 : decode cX5_isLateral 16 = .ok (.goto 4, 3) := by decide +kernel
theorem dX5_isLateral_19 : decode cX5_isLateral 19 = .ok (.iconst 0, 1) := by decide +kernel
theorem dX5_isLateral_20 : decode cX5_isLateral 20 = .ok (.ireturn, 1) := by decide +kernel
theorem dX5_isMain_0 : decode cX5_isMain 0 = .ok (.aload_n 0, 1) := by decide +kernel
theorem dX5_isMain_1 : decode cX5_isMain 1 = .ok (.getfield 22, 3) := by decide +kernel
theorem dX5_isMain_4 : decode cX5_isMain 4 = .ok (.iconst 1, 1) := by decide +kernel
theorem dX5_isMain_5 : decode cX5_isMain 5 = .ok (.if_icmp .eq 11, 3) := by decide +kernel
theorem dX5_isMain_8 : decode cX5_isMain 8 = .ok (.aload_n 0, 1) := by decide +kernel
theorem dX5_isMain_9 : decode cX5_isMain 9 = .ok (.getfield 22, 3) := by decide +kernel
theorem dX5_isMain_12 : decode cX5_isMain 12 = .ok (.iconst 3, 1) := by decide +kernel
theorem dX5_isMain_13 : decode cX5_isMain 13 = .ok (.if_icmp .ne 7, 3) := by decide +kernel
theorem dX5_isMain_16 : decode cX5_isMain 16 = .ok (.iconst 1, 1) := by decide +kernel
theorem dX5_isMain_17 : decode cX5_isMain 17 = .ok (.goto 4, 3) := by decide +kernel
theorem dX5_isMain_20 : decode cX5_isMain 20 = .ok (.iconst 0, 1) := by decide +kernel
theorem dX5_isMain_21 : decode cX5_isMain 21 = .ok (.ireturn, 1) := by decide +kernel
theorem dX5_leadsIntoPipe_0 : decode cX5_leadsIntoPipe 0 = .ok (.aload_n 0, 1) := by decide +kernel
theorem dX5_leadsIntoPipe_1 : decode cX5_leadsIntoPipe 1 = .ok (.getfield 41, 3) := by decide +kernel
theorem dX5_leadsIntoPipe_4 : decode cX5_leadsIntoPipe 4 = .ok (.ifCond .lt 16, 3) := by decide +kernel
theorem dX5_leadsIntoPipe_7 : decode cX5_leadsIntoPipe 7 = .ok (.aload_n 0, 1) := by decide +kernel
theorem dX5_leadsIntoPipe_8 : decode cX5_leadsIntoPipe 8 = .ok (.getfield 41, 3) := by decide +kernel
theorem dX5_leadsIntoPipe_11 : decode cX5_leadsIntoPipe 11 = .ok (.bipush 100, 2) := by decide +kernel
theorem dX5_leadsIntoPipe_13 : decode cX5_leadsIntoPipe 13 = .ok (.if_icmp .ge 7, 3) := by decide +kernel
theorem dX5_leadsIntoPipe_16 : decode cX5_leadsIntoPipe 16 = .ok (.iconst 1, 1) := by decide +kernel
theorem dX5_leadsIntoPipe_17 : decode cX5_leadsIntoPipe 17 = .ok (.goto 4, 3) := by decide +kernel
theorem dX5_leadsIntoPipe_20 : decode cX5_leadsIntoPipe 20 = .ok (.iconst 0, 1) := by decide +kernel
theorem dX5_leadsIntoPipe_21 : decode cX5_leadsIntoPipe 21 = .ok (.ireturn, 1) := by decide +kernel
theorem dX6_init_0 : decode cX6_init 0 = .ok (.aload_n 0, 1) := by decide +kernel
theorem dX6_init_1 : decode cX6_init 1 = .ok (.invokespecial 3, 3) := by decide +kernel
theorem dX6_init_4 : decode cX6_init 4 = .ok (.aload_n 0, 1) := by decide +kernel
theorem dX6_init_5 : decode cX6_init 5 = .ok (.new 9, 3) := by decide +kernel
theorem dX6_init_8 : decode cX6_init 8 = .ok (.dup, 1) := by decide +kernel
theorem dX6_init_9 : decode cX6_init 9 = .ok (.invokespecial 11, 3) := by decide +kernel
theorem dX6_init_12 : decode cX6_init 12 = .ok (.putfield 12, 3) := by decide +kernel
theorem dX6_init_15 : decode cX6_init 15 = .ok (.aload_n 0, 1) := by decide +kernel
theorem dX6_init_16 : decode cX6_init 16 = .ok (.new 18, 3) := by decide +kernel
theorem dX6_init_19 : decode cX6_init 19 = .ok (.dup, 1) := by decide +kernel
theorem dX6_init_20 : decode cX6_init 20 = .ok (.invokespecial 20, 3) := by decide +kernel
theorem dX6_init_23 : decode cX6_init 23 = .ok (.putfield 21, 3) := by decide +kernel
theorem dX6_init_26 : decode cX6_init 26 = .ok (.aload_n 0, 1) := by decide +kernel
theorem dX6_init_27 : decode cX6_init 27 = .ok (.new 25, 3) := by decide +kernel
theorem dX6_init_30 : decode cX6_init 30 = .ok (.dup, 1) := by decide +kernel
theorem dX6_init_31 : decode cX6_init 31 = .ok (.invokespecial 27, 3) := by decide +kernel
theorem dX6_init_34 : decode cX6_init 34 = .ok (.putfield 28, 3) := by decide +kernel
theorem dX6_init_37 : decode cX6_init 37 = .ok (.aload_n 0, 1) := by decide +kernel
theorem dX6_init_38 : decode cX6_init 38 = .ok (.new 32, 3) := by decide +kernel
theorem dX6_init_41 : decode cX6_init 41 = .ok (.dup, 1) := by decide +kernel
theorem dX6_init_42 : decode cX6_init 42 = .ok (.invokespecial 34, 3) := by decide +kernel
theorem dX6_init_45 : decode cX6_init 45 = .ok (.putfield 35, 3) := by decide +kernel
theorem dX6_init_48 : decode cX6_init 48 = .ok (.aload_n 0, 1) := by decide +kernel
theorem dX6_init_49 : decode cX6_init 49 = .ok (.bipush 36, 2) := by decide +kernel
theorem dX6_init_51 : decode cX6_init 51 = .ok (.newarray .int, 2) := by decide +kernel
theorem dX6_init_53 : decode cX6_init 53 = .ok (.putfield 39, 3) := by decide +kernel
theorem dX6_init_56 : decode cX6_init 56 = .ok (.aload_n 0, 1) := by decide +kernel
theorem dX6_init_57 : decode cX6_init 57 = .ok (.new 43, 3) := by decide +kernel
theorem dX6_init_60 : decode cX6_init 60 = .ok (.dup, 1) := by decide +kernel
theorem dX6_init_61 : decode cX6_init 61 = .ok (.invokespecial 45, 3) := by decide +kernel
theorem dX6_init_64 : decode cX6_init 64 = .ok (.putfield 46, 3) := by decide +kernel
theorem dX6_init_67 : decode cX6_init 67 = .ok (.aload_n 0, 1) := by decide +kernel
theorem dX6_init_68 : decode cX6_init 68 = .ok (.new 43, 3) := by decide +kernel
theorem dX6_init_71 : decode cX6_init 71 = .ok (.dup, 1) := by decide +kernel
theorem dX6_init_72 : decode cX6_init 72 = .ok (.invokespecial 45, 3) := by decide +kernel
theorem dX6_init_75 : decode cX6_init 75 = .ok (.putfield 50, 3) := by decide +kernel
theorem dX6_init_78 : decode cX6_init 78 = .ok (.return_, 1) := by decide +kernel
theorem dX6_copyFrom_0 : decode cX6_copyFrom 0 = .ok (.aload_n 0, 1) := by decide +kernel
theorem dX6_copyFrom_1 : decode cX6_copyFrom 1 = .ok (.getfield 12, 3) := by decide +kernel
theorem dX6_copyFrom_4 : decode cX6_copyFrom 4 = .ok (.aload_n 1, 1) := by decide +kernel
theorem dX6_copyFrom_5 : decode cX6_copyFrom 5 = .ok (.getfield 12, 3) := by decide +kernel
theorem dX6_copyFrom_8 : decode cX6_copyFrom 8 = .ok (.invokevirtual 53, 3) := by decide +kernel
theorem dX6_copyFrom_11 : decode cX6_copyFrom 11 = .ok (.aload_n 0, 1) := by decide +kernel
theorem dX6_copyFrom_12 : decode cX6_copyFrom 12 = .ok (.getfield 21, 3) := by decide +kernel
theorem dX6_copyFrom_15 : decode cX6_copyFrom 15 = .ok (.aload_n 1, 1) := by decide +kernel
theorem dX6_copyFrom_16 : decode cX6_copyFrom 16 = .ok (.getfield 21, 3) := by decide +kernel
theorem dX6_copyFrom_19 : decode cX6_copyFrom 19 = .ok (.invokevirtual 57, 3) := by decide +kernel
theorem dX6_copyFrom_22 : decode cX6_copyFrom 22 = .ok (.aload_n 0, 1) := by decide +kernel
theorem dX6_copyFrom_23 : decode cX6_copyFrom 23 = .ok (.getfield 28, 3) := by decide +kernel
theorem dX6_copyFrom_26 : decode cX6_copyFrom 26 = .ok (.aload_n 1, 1) := by decide +kernel
theorem dX6_copyFrom_27 : decode cX6_copyFrom 27 = .ok (.getfield 28, 3) := by decide +kernel
theorem dX6_copyFrom_30 : decode cX6_copyFrom 30 = .ok (.invokevirtual 60, 3) := by decide +kernel
theorem dX6_copyFrom_33 : decode cX6_copyFrom 33 = .ok (.aload_n 0, 1) := by decide +kernel
theorem dX6_copyFrom_34 : decode cX6_copyFrom 34 = .ok (.getfield 35, 3) := by decide +kernel
theorem dX6_copyFrom_37 : decode cX6_copyFrom 37 = .ok (.aload_n 1, 1) := by decide +kernel
theorem dX6_copyFrom_38 : decode cX6_copyFrom 38 = .ok (.getfield 35, 3) := by decide +kernel
theorem dX6_copyFrom_41 : decode cX6_copyFrom 41 = .ok (.invokevirtual 63, 3) := by decide +kernel
theorem dX6_copyFrom_44 : decode cX6_copyFrom 44 = .ok (.aload_n 1, 1) := by decide +kernel
theorem dX6_copyFrom_45 : decode cX6_copyFrom 45 = .ok (.getfield 39, 3) := by decide +kernel
theorem dX6_copyFrom_48 : decode cX6_copyFrom 48 = .ok (.aload_n 0, 1) := by decide +kernel
theorem dX6_copyFrom_49 : decode cX6_copyFrom 49 = .ok (.getfield 39, 3) := by decide +kernel
theorem dX6_copyFrom_52 : decode cX6_copyFrom 52 = .ok (.invokestatic 66, 3) := by decide +kernel
theorem dX6_copyFrom_55 : decode cX6_copyFrom 55 = .ok (.aload_n 0, 1) := by decide +kernel
theorem dX6_copyFrom_56 : decode cX6_copyFrom 56 = .ok (.getfield 46, 3) := by decide +kernel
theorem dX6_copyFrom_59 : decode cX6_copyFrom 59 = .ok (.aload_n 1, 1) := by decide +kernel
theorem dX6_copyFrom_60 : decode cX6_copyFrom 60 = .ok (.getfield 46, 3) := by decide +kernel
theorem dX6_copyFrom_63 : decode cX6_copyFrom 63 = .ok (.invokevirtual 70, 3) := by decide +kernel
theorem dX6_copyFrom_66 : decode cX6_copyFrom 66 = .ok (.aload_n 0, 1) := by decide +kernel
theorem dX6_copyFrom_67 : decode cX6_copyFrom 67 = .ok (.getfield 50, 3) := by decide +kernel
theorem dX6_copyFrom_70 : decode cX6_copyFrom 70 = .ok (.aload_n 1, 1) := by decide +kernel
theorem dX6_copyFrom_71 : decode cX6_copyFrom 71 = .ok (.getfield 50, 3) := by decide +kernel
theorem dX6_copyFrom_74 : decode cX6_copyFrom 74 = .ok (.invokevirtual 70, 3) := by decide +kernel
theorem dX6_copyFrom_77 : decode cX6_copyFrom 77 = .ok (.return_, 1) := by decide +kernel
theorem dX6_isReached_0 : decode cX6_isReached 0 = .ok (.iconst 0, 1) := by decide +kernel
theorem dX6_isReached_1 : decode cX6_isReached 1 = .ok (.istore_n 2, 1) := by decide +kernel
theorem dX6_isReached_2 : decode cX6_isReached 2 = .ok (.iload_n 2, 1) := by decide +kernel
theorem dX6_isReached_3 : decode cX6_isReached 3 = .ok (.aload_n 0, 1) := by decide +kernel
theorem dX6_isReached_4 : decode cX6_isReached 4 = .ok (.getfield 28, 3) := by decide +kernel
theorem dX6_isReached_7 : decode cX6_isReached 7 = .ok (.getfield 73, 3) := by decide +kernel
theorem dX6_isReached_10 : decode cX6_isReached 10 = .ok (.if_icmp .ge 49, 3) := by decide +kernel
theorem dX6_isReached_13 : decode cX6_isReached 13 = .ok (.aload_n 0, 1) := by decide +kernel
theorem dX6_isReached_14 : decode cX6_isReached 14 = .ok (.getfield 28, 3) := by decide +kernel
theorem dX6_isReached_17 : decode cX6_isReached 17 = .ok (.getfield 77, 3) := by decide +kernel
theorem dX6_isReached_20 : decode cX6_isReached 20 = .ok (.iload_n 2, 1) := by decide +kernel
theorem dX6_isReached_21 : decode cX6_isReached 21 = .ok (.aaload, 1) := by decide +kernel
theorem dX6_isReached_22 : decode cX6_isReached 22 = .ok (.invokevirtual 81, 3) := by decide +kernel
theorem dX6_isReached_25 : decode cX6_isReached 25 = .ok (.ifCond .eq 28, 3) := by decide +kernel
theorem dX6_isReached_28 : decode cX6_isReached 28 = .ok (.aload_n 0, 1) := by decide +kernel
theorem dX6_isReached_29 : decode cX6_isReached 29 = .ok (.getfield 12, 3) := by decide +kernel
theorem dX6_isReached_32 : decode cX6_isReached 32 = .ok (.iload_n 1, 1) := by decide +kernel
theorem dX6_isReached_33 : decode cX6_isReached 33 = .ok (.aload_n 0, 1) := by decide +kernel
theorem dX6_isReached_34 : decode cX6_isReached 34 = .ok (.getfield 28, 3) := by decide +kernel
theorem dX6_isReached_37 : decode cX6_isReached 37 = .ok (.getfield 77, 3) := by decide +kernel
theorem dX6_isReached_40 : decode cX6_isReached 40 = .ok (.iload_n 2, 1) := by decide +kernel
theorem dX6_isReached_41 : decode cX6_isReached 41 = .ok (.aaload, 1) := by decide +kernel
theorem dX6_isReached_42 : decode cX6_isReached 42 = .ok (.getfield 87, 3) := by decide +kernel
theorem dX6_isReached_45 : decode cX6_isReached 45 = .ok (.invokevirtual 90, 3) := by decide +kernel
theorem dX6_isReached_48 : decode cX6_isReached 48 = .ok (.ifCond .eq 5, 3) := by decide +kernel
theorem dX6_isReached_51 : decode cX6_isReached 51 = .ok (.iconst 1, 1) := by decide +kernel
theorem dX6_isReached_52 : decode cX6_isReached 52 = .ok (.ireturn, 1) := by decide +kernel
theorem dX6_isReached_53 : decode cX6_isReached 53 = .ok (.iinc 2 1, 3) := by decide +kernel
theorem dX6_isReached_56 : decode cX6_isReached 56 = .ok (.goto (-54), 3) := by decide +kernel
theorem dX6_isReached_59 : decode cX6_isReached 59 = .ok (.iconst 0, 1) := by decide +kernel
theorem dX6_isReached_60 : decode cX6_isReached 60 = .ok (.ireturn, 1) := by decide +kernel
theorem dX6_countUnreached_0 : decode cX6_countUnreached 0 = .ok (.iconst 0, 1) := by decide +kernel
theorem dX6_countUnreached_1 : decode cX6_countUnreached 1 = .ok (.istore_n 1, 1) := by decide +kernel
theorem dX6_countUnreached_2 : decode cX6_countUnreached 2 = .ok (.iconst 0, 1) := by decide +kernel
theorem dX6_countUnreached_3 : decode cX6_countUnreached 3 = .ok (.istore_n 2, 1) := by decide +kernel
theorem dX6_countUnreached_4 : decode cX6_countUnreached 4 = .ok (.iload_n 2, 1) := by decide +kernel
theorem dX6_countUnreached_5 : decode cX6_countUnreached 5 = .ok (.aload_n 0, 1) := by decide +kernel
theorem dX6_countUnreached_6 : decode cX6_countUnreached 6 = .ok (.getfield 12, 3) := by decide +kernel
theorem dX6_countUnreached_9 : decode cX6_countUnreached 9 = .ok (.getfield 94, 3) := by decide +kernel
theorem dX6_countUnreached_12 : decode cX6_countUnreached 12 = .ok (.if_icmp .ge 20, 3) := by decide +kernel
theorem dX6_countUnreached_15 : decode cX6_countUnreached 15 = .ok (.aload_n 0, 1) := by decide +kernel
theorem dX6_countUnreached_16 : decode cX6_countUnreached 16 = .ok (.iload_n 2, 1) := by decide +kernel
theorem dX6_countUnreached_17 : decode cX6_countUnreached 17 = .ok (.invokevirtual 97, 3) := by decide +kernel
theorem dX6_countUnreached_20 : decode cX6_countUnreached 20 = .ok (.ifCond .ne 6, 3) := by decide +kernel
theorem dX6_countUnreached_23 : decode cX6_countUnreached 23 = .ok (.iinc 1 1, 3) := by decide +kernel
theorem dX6_countUnreached_26 : decode cX6_countUnreached 26 = .ok (.iinc 2 1, 3) := by decide +kernel
theorem dX6_countUnreached_29 : decode cX6_countUnreached 29 = .ok (.goto (-25), 3) := by decide +kernel
theorem dX6_countUnreached_32 : decode cX6_countUnreached 32 = .ok (.iload_n 1, 1) := by decide +kernel
theorem dX6_countUnreached_33 : decode cX6_countUnreached 33 = .ok (.ireturn, 1) := by decide +kernel
theorem dX7_init_0 : decode cX7_init 0 = .ok (.aload_n 0, 1) := by decide +kernel
theorem dX7_init_1 : decode cX7_init 1 = .ok (.invokespecial 3, 3) := by decide +kernel
theorem dX7_init_4 : decode cX7_init 4 = .ok (.aload_n 0, 1) := by decide +kernel
theorem dX7_init_5 : decode cX7_init 5 = .ok (.bipush 36, 2) := by decide +kernel
theorem dX7_init_7 : decode cX7_init 7 = .ok (.newarray .int, 2) := by decide +kernel
theorem dX7_init_9 : decode cX7_init 9 = .ok (.putfield 9, 3) := by decide +kernel
theorem dX7_init_12 : decode cX7_init 12 = .ok (.aload_n 0, 1) := by decide +kernel
theorem dX7_init_13 : decode cX7_init 13 = .ok (.bipush 36, 2) := by decide +kernel
theorem dX7_init_15 : decode cX7_init 15 = .ok (.newarray .int, 2) := by decide +kernel
theorem dX7_init_17 : decode cX7_init 17 = .ok (.putfield 15, 3) := by decide +kernel
theorem dX7_init_20 : decode cX7_init 20 = .ok (.return_, 1) := by decide +kernel
theorem dX7_grow_0 : decode cX7_grow 0 = .ok (.iconst 0, 1) := by decide +kernel
theorem dX7_grow_1 : decode cX7_grow 1 = .ok (.istore_n 3, 1) := by decide +kernel
theorem dX7_grow_2 : decode cX7_grow 2 = .ok (.iload_n 3, 1) := by decide +kernel
theorem dX7_grow_3 : decode cX7_grow 3 = .ok (.bipush 36, 2) := by decide +kernel
theorem dX7_grow_5 : decode cX7_grow 5 = .ok (.if_icmp .ge 16, 3) := by decide +kernel
theorem dX7_grow_8 : decode cX7_grow 8 = .ok (.aload_n 0, 1) := by decide +kernel
theorem dX7_grow_9 : decode cX7_grow 9 = .ok (.getfield 9, 3) := by decide +kernel
theorem dX7_grow_12 : decode cX7_grow 12 = .ok (.iload_n 3, 1) := by decide +kernel
theorem dX7_grow_13 : decode cX7_grow 13 = .ok (.iload_n 3, 1) := by decide +kernel
theorem dX7_grow_14 : decode cX7_grow 14 = .ok (.iastore, 1) := by decide +kernel
theorem dX7_grow_15 : decode cX7_grow 15 = .ok (.iinc 3 1, 3) := by decide +kernel
theorem dX7_grow_18 : decode cX7_grow 18 = .ok (.goto (-16), 3) := by decide +kernel
theorem dX7_grow_21 : decode cX7_grow 21 = .ok (.aload_n 0, 1) := by decide +kernel
theorem dX7_grow_22 : decode cX7_grow 22 = .ok (.iconst 0, 1) := by decide +kernel
theorem dX7_grow_23 : decode cX7_grow 23 = .ok (.putfield 18, 3) := by decide +kernel
theorem dX7_grow_26 : decode cX7_grow 26 = .ok (.aload_n 0, 1) := by decide +kernel
theorem dX7_grow_27 : decode cX7_grow 27 = .ok (.iconst 0, 1) := by decide +kernel
theorem dX7_grow_28 : decode cX7_grow 28 = .ok (.putfield 22, 3) := by decide +kernel
theorem dX7_grow_31 : decode cX7_grow 31 = .ok (.aload_n 2, 1) := by decide +kernel
theorem dX7_grow_32 : decode cX7_grow 32 = .ok (.invokevirtual 25, 3) := by decide +kernel
theorem dX7_grow_35 : decode cX7_grow 35 = .ok (.iconst 1, 1) := by decide +kernel
theorem dX7_grow_36 : decode cX7_grow 36 = .ok (.isub, 1) := by decide +kernel
theorem dX7_grow_37 : decode cX7_grow 37 = .ok (.istore_n 3, 1) := by decide +kernel
theorem dX7_grow_38 : decode cX7_grow 38 = .ok (.iload_n 3, 1) := by decide +kernel
theorem dX7_grow_39 : decode cX7_grow 39 = .ok (.ifCond .le 19, 3) := by decide +kernel
theorem dX7_grow_42 : decode cX7_grow 42 = .ok (.aload_n 0, 1) := by decide +kernel
theorem dX7_grow_43 : decode cX7_grow 43 = .ok (.aload_n 1, 1) := by decide +kernel
theorem dX7_grow_44 : decode cX7_grow 44 = .ok (.aload_n 2, 1) := by decide +kernel
theorem dX7_grow_45 : decode cX7_grow 45 = .ok (.invokevirtual 31, 3) := by decide +kernel
theorem dX7_grow_48 : decode cX7_grow 48 = .ok (.aload_n 0, 1) := by decide +kernel
theorem dX7_grow_49 : decode cX7_grow 49 = .ok (.invokevirtual 35, 3) := by decide +kernel
theorem dX7_grow_52 : decode cX7_grow 52 = .ok (.iinc 3 (-1), 3) := by decide +kernel
theorem dX7_grow_55 : decode cX7_grow 55 = .ok (.goto (-17), 3) := by decide +kernel
theorem dX7_grow_58 : decode cX7_grow 58 = .ok (.return_, 1) := by decide +kernel
theorem dX7_findLeast_0 : decode cX7_findLeast 0 = .ok (.aload_n 0, 1) := by decide +kernel
theorem dX7_findLeast_1 : decode cX7_findLeast 1 = .ok (.ldc 40, 2) := by decide +kernel
theorem dX7_findLeast_3 : decode cX7_findLeast 3 = .ok (.putfield 41, 3) := by decide +kernel
theorem dX7_findLeast_6 : decode cX7_findLeast 6 = .ok (.iconst 0, 1) := by decide +kernel
theorem dX7_findLeast_7 : decode cX7_findLeast 7 = .ok (.istore_n 3, 1) := by decide +kernel
theorem dX7_findLeast_8 : decode cX7_findLeast 8 = .ok (.iload_n 3, 1) := by decide +kernel
theorem dX7_findLeast_9 : decode cX7_findLeast 9 = .ok (.aload_n 1, 1) := by decide +kernel
theorem dX7_findLeast_10 : decode cX7_findLeast 10 = .ok (.getfield 44, 3) := by decide +kernel
theorem dX7_findLeast_13 : decode cX7_findLeast 13 = .ok (.if_icmp .ge 76, 3) := by decide +kernel
theorem dX7_findLeast_16 : decode cX7_findLeast 16 = .ok (.iload_n 3, 1) := by decide +kernel
theorem dX7_findLeast_17 : decode cX7_findLeast 17 = .ok (.iconst 1, 1) := by decide +kernel
theorem dX7_findLeast_18 : decode cX7_findLeast 18 = .ok (.iadd, 1) := by decide +kernel
theorem dX7_findLeast_19 : decode cX7_findLeast 19 = .ok (.istore 4, 2) := by decide +kernel
theorem dX7_findLeast_21 : decode cX7_findLeast 21 = .ok (.iload 4, 2) := by decide +kernel
theorem dX7_findLeast_23 : decode cX7_findLeast 23 = .ok (.aload_n 1, 1) := by decide +kernel
theorem dX7_findLeast_24 : decode cX7_findLeast 24 = .ok (.getfield 44, 3) := by decide +kernel
theorem dX7_findLeast_27 : decode cX7_findLeast 27 = .ok (.if_icmp .ge 56, 3) := by decide +kernel
theorem dX7_findLeast_30 : decode cX7_findLeast 30 = .ok (.aload_n 2, 1) := by decide +kernel
theorem dX7_findLeast_31 : decode cX7_findLeast 31 = .ok (.iload_n 3, 1) := by decide +kernel
theorem dX7_findLeast_32 : decode cX7_findLeast 32 = .ok (.invokevirtual 49, 3) := by decide +kernel
theorem dX7_findLeast_35 : decode cX7_findLeast 35 = .ok (.ifCond .eq 42, 3) := by decide +kernel
theorem dX7_findLeast_38 : decode cX7_findLeast 38 = .ok (.aload_n 2, 1) := by decide +kernel
theorem dX7_findLeast_39 : decode cX7_findLeast 39 = .ok (.iload 4, 2) := by decide +kernel
theorem dX7_findLeast_41 : decode cX7_findLeast 41 = .ok (.invokevirtual 49, 3) := by decide +kernel
theorem dX7_findLeast_44 : decode cX7_findLeast 44 = .ok (.ifCond .eq 33, 3) := by decide +kernel
theorem dX7_findLeast_47 : decode cX7_findLeast 47 = .ok (.aload_n 0, 1) := by decide +kernel
theorem dX7_findLeast_48 : decode cX7_findLeast 48 = .ok (.getfield 9, 3) := by decide +kernel
theorem dX7_findLeast_51 : decode cX7_findLeast 51 = .ok (.iload_n 3, 1) := by decide +kernel
theorem dX7_findLeast_52 : decode cX7_findLeast 52 = .ok (.iaload, 1) := by decide +kernel
theorem dX7_findLeast_53 : decode cX7_findLeast 53 = .ok (.aload_n 0, 1) := by decide +kernel
theorem dX7_findLeast_54 : decode cX7_findLeast 54 = .ok (.getfield 9, 3) := by decide +kernel
theorem dX7_findLeast_57 : decode cX7_findLeast 57 = .ok (.iload 4, 2) := by decide +kernel
theorem dX7_findLeast_59 : decode cX7_findLeast 59 = .ok (.iaload, 1) := by decide +kernel
theorem dX7_findLeast_60 : decode cX7_findLeast 60 = .ok (.if_icmp .eq 17, 3) := by decide +kernel
theorem dX7_findLeast_63 : decode cX7_findLeast 63 = .ok (.aload_n 0, 1) := by decide +kernel
theorem dX7_findLeast_64 : decode cX7_findLeast 64 = .ok (.iload_n 3, 1) := by decide +kernel
theorem dX7_findLeast_65 : decode cX7_findLeast 65 = .ok (.iload 4, 2) := by decide +kernel
theorem dX7_findLeast_67 : decode cX7_findLeast 67 = .ok (.aload_n 1, 1) := by decide +kernel
theorem dX7_findLeast_68 : decode cX7_findLeast 68 = .ok (.iload_n 3, 1) := by decide +kernel
theorem dX7_findLeast_69 : decode cX7_findLeast 69 = .ok (.iload 4, 2) := by decide +kernel
theorem dX7_findLeast_71 : decode cX7_findLeast 71 = .ok (.invokevirtual 53, 3) := by decide +kernel
theorem dX7_findLeast_74 : decode cX7_findLeast 74 = .ok (.invokevirtual 57, 3) := by decide +kernel
theorem dX7_findLeast_77 : decode cX7_findLeast 77 = .ok (.iinc 4 1, 3) := by decide +kernel
theorem dX7_findLeast_80 : decode cX7_findLeast 80 = .ok (.goto (-59), 3) := by decide +kernel
theorem dX7_findLeast_83 : decode cX7_findLeast 83 = .ok (.iinc 3 1, 3) := by decide +kernel
theorem dX7_findLeast_86 : decode cX7_findLeast 86 = .ok (.goto (-78), 3) := by decide +kernel
theorem dX7_findLeast_89 : decode cX7_findLeast 89 = .ok (.return_, 1) := by decide +kernel
theorem dX7_offer_0 : decode cX7_offer 0 = .ok (.iload_n 3, 1) := by decide +kernel
theorem dX7_offer_1 : decode cX7_offer 1 = .ok (.aload_n 0, 1) := by decide +kernel
theorem dX7_offer_2 : decode cX7_offer 2 = .ok (.getfield 41, 3) := by decide +kernel
theorem dX7_offer_5 : decode cX7_offer 5 = .ok (.if_icmp .ge 18, 3) := by decide +kernel
theorem dX7_offer_8 : decode cX7_offer 8 = .ok (.aload_n 0, 1) := by decide +kernel
theorem dX7_offer_9 : decode cX7_offer 9 = .ok (.iload_n 3, 1) := by decide +kernel
theorem dX7_offer_10 : decode cX7_offer 10 = .ok (.putfield 41, 3) := by decide +kernel
theorem dX7_offer_13 : decode cX7_offer 13 = .ok (.aload_n 0, 1) := by decide +kernel
theorem dX7_offer_14 : decode cX7_offer 14 = .ok (.iload_n 1, 1) := by decide +kernel
theorem dX7_offer_15 : decode cX7_offer 15 = .ok (.putfield 61, 3) := by decide +kernel
theorem dX7_offer_18 : decode cX7_offer 18 = .ok (.aload_n 0, 1) := by decide +kernel
theorem dX7_offer_19 : decode cX7_offer 19 = .ok (.iload_n 2, 1) := by decide +kernel
theorem dX7_offer_20 : decode cX7_offer 20 = .ok (.putfield 64, 3) := by decide +kernel
theorem dX7_offer_23 : decode cX7_offer 23 = .ok (.return_, 1) := by decide +kernel
theorem dX7_take_0 : decode cX7_take 0 = .ok (.aload_n 0, 1) := by decide +kernel
theorem dX7_take_1 : decode cX7_take 1 = .ok (.getfield 15, 3) := by decide +kernel
theorem dX7_take_4 : decode cX7_take 4 = .ok (.aload_n 0, 1) := by decide +kernel
theorem dX7_take_5 : decode cX7_take 5 = .ok (.getfield 18, 3) := by decide +kernel
theorem dX7_take_8 : decode cX7_take 8 = .ok (.bipush 100, 2) := by decide +kernel
theorem dX7_take_10 : decode cX7_take 10 = .ok (.aload_n 0, 1) := by decide +kernel
theorem dX7_take_11 : decode cX7_take 11 = .ok (.getfield 61, 3) := by decide +kernel
theorem dX7_take_14 : decode cX7_take 14 = .ok (.imul, 1) := by decide +kernel
theorem dX7_take_15 : decode cX7_take 15 = .ok (.aload_n 0, 1) := by decide +kernel
theorem dX7_take_16 : decode cX7_take 16 = .ok (.getfield 64, 3) := by decide +kernel
theorem dX7_take_19 : decode cX7_take 19 = .ok (.iadd, 1) := by decide +kernel
theorem dX7_take_20 : decode cX7_take 20 = .ok (.iastore, 1) := by decide +kernel
theorem dX7_take_21 : decode cX7_take 21 = .ok (.aload_n 0, 1) := by decide +kernel
theorem dX7_take_22 : decode cX7_take 22 = .ok (.dup, 1) := by decide +kernel
theorem dX7_take_23 : decode cX7_take 23 = .ok (.getfield 18, 3) := by decide +kernel
theorem dX7_take_26 : decode cX7_take 26 = .ok (.iconst 1, 1) := by decide +kernel
theorem dX7_take_27 : decode cX7_take 27 = .ok (.iadd, 1) := by decide +kernel
theorem dX7_take_28 : decode cX7_take 28 = .ok (.putfield 18, 3) := by decide +kernel
theorem dX7_take_31 : decode cX7_take 31 = .ok (.aload_n 0, 1) := by decide +kernel
theorem dX7_take_32 : decode cX7_take 32 = .ok (.dup, 1) := by decide +kernel
theorem dX7_take_33 : decode cX7_take 33 = .ok (.getfield 22, 3) := by decide +kernel
theorem dX7_take_36 : decode cX7_take 36 = .ok (.aload_n 0, 1) := by decide +kernel
theorem dX7_take_37 : decode cX7_take 37 = .ok (.getfield 41, 3) := by decide +kernel
theorem dX7_take_40 : decode cX7_take 40 = .ok (.iadd, 1) := by decide +kernel
theorem dX7_take_41 : decode cX7_take 41 = .ok (.putfield 22, 3) := by decide +kernel
theorem dX7_take_44 : decode cX7_take 44 = .ok (.aload_n 0, 1) := by decide +kernel
theorem dX7_take_45 : decode cX7_take 45 = .ok (.getfield 9, 3) := by decide +kernel
theorem dX7_take_48 : decode cX7_take 48 = .ok (.aload_n 0, 1) := by decide +kernel
theorem dX7_take_49 : decode cX7_take 49 = .ok (.getfield 64, 3) := by decide +kernel
theorem dX7_take_52 : decode cX7_take 52 = .ok (.iaload, 1) := by decide +kernel
theorem dX7_take_53 : decode cX7_take 53 = .ok (.istore_n 1, 1) := by decide +kernel
theorem dX7_take_54 : decode cX7_take 54 = .ok (.aload_n 0, 1) := by decide +kernel
theorem dX7_take_55 : decode cX7_take 55 = .ok (.getfield 9, 3) := by decide +kernel
theorem dX7_take_58 : decode cX7_take 58 = .ok (.aload_n 0, 1) := by decide +kernel
theorem dX7_take_59 : decode cX7_take 59 = .ok (.getfield 61, 3) := by decide +kernel
theorem dX7_take_62 : decode cX7_take 62 = .ok (.iaload, 1) := by decide +kernel
theorem dX7_take_63 : decode cX7_take 63 = .ok (.istore_n 2, 1) := by decide +kernel
theorem dX7_take_64 : decode cX7_take 64 = .ok (.iconst 0, 1) := by decide +kernel
theorem dX7_take_65 : decode cX7_take 65 = .ok (.istore_n 3, 1) := by decide +kernel
theorem dX7_take_66 : decode cX7_take 66 = .ok (.iload_n 3, 1) := by decide +kernel
theorem dX7_take_67 : decode cX7_take 67 = .ok (.bipush 36, 2) := by decide +kernel
theorem dX7_take_69 : decode cX7_take 69 = .ok (.if_icmp .ge 26, 3) := by decide +kernel
theorem dX7_take_72 : decode cX7_take 72 = .ok (.aload_n 0, 1) := by decide +kernel
theorem dX7_take_73 : decode cX7_take 73 = .ok (.getfield 9, 3) := by decide +kernel
theorem dX7_take_76 : decode cX7_take 76 = .ok (.iload_n 3, 1) := by decide +kernel
theorem dX7_take_77 : decode cX7_take 77 = .ok (.iaload, 1) := by decide +kernel
theorem dX7_take_78 : decode cX7_take 78 = .ok (.iload_n 1, 1) := by decide +kernel
theorem dX7_take_79 : decode cX7_take 79 = .ok (.if_icmp .ne 10, 3) := by decide +kernel
theorem dX7_take_82 : decode cX7_take 82 = .ok (.aload_n 0, 1) := by decide +kernel
theorem dX7_take_83 : decode cX7_take 83 = .ok (.getfield 9, 3) := by decide +kernel
theorem dX7_take_86 : decode cX7_take 86 = .ok (.iload_n 3, 1) := by decide +kernel
theorem dX7_take_87 : decode cX7_take 87 = .ok (.iload_n 2, 1) := by decide +kernel
theorem dX7_take_88 : decode cX7_take 88 = .ok (.iastore, 1) := by decide +kernel
theorem dX7_take_89 : decode cX7_take 89 = .ok (.iinc 3 1, 3) := by decide +kernel
theorem dX7_take_92 : decode cX7_take 92 = .ok (.goto (-26), 3) := by decide +kernel
theorem dX7_take_95 : decode cX7_take 95 = .ok (.return_, 1) := by decide +kernel
theorem dX8_init_0 : decode cX8_init 0 = .ok (.aload_n 0, 1) := by decide +kernel
theorem dX8_init_1 : decode cX8_init 1 = .ok (.invokespecial 3, 3) := by decide +kernel
theorem dX8_init_4 : decode cX8_init 4 = .ok (.aload_n 0, 1) := by decide +kernel
theorem dX8_init_5 : decode cX8_init 5 = .ok (.bipush 36, 2) := by decide +kernel
theorem dX8_init_7 : decode cX8_init 7 = .ok (.newarray .int, 2) := by decide +kernel
theorem dX8_init_9 : decode cX8_init 9 = .ok (.putfield 9, 3) := by decide +kernel
theorem dX8_init_12 : decode cX8_init 12 = .ok (.aload_n 0, 1) := by decide +kernel
theorem dX8_init_13 : decode cX8_init 13 = .ok (.bipush 36, 2) := by decide +kernel
theorem dX8_init_15 : decode cX8_init 15 = .ok (.newarray .int, 2) := by decide +kernel
theorem dX8_init_17 : decode cX8_init 17 = .ok (.putfield 15, 3) := by decide +kernel
theorem dX8_init_20 : decode cX8_init 20 = .ok (.aload_n 0, 1) := by decide +kernel
theorem dX8_init_21 : decode cX8_init 21 = .ok (.bipush 20, 2) := by decide +kernel
theorem dX8_init_23 : decode cX8_init 23 = .ok (.newarray .int, 2) := by decide +kernel
theorem dX8_init_25 : decode cX8_init 25 = .ok (.putfield 18, 3) := by decide +kernel
theorem dX8_init_28 : decode cX8_init 28 = .ok (.aload_n 0, 1) := by decide +kernel
theorem dX8_init_29 : decode cX8_init 29 = .ok (.bipush 20, 2) := by decide +kernel
theorem dX8_init_31 : decode cX8_init 31 = .ok (.newarray .int, 2) := by decide +kernel
theorem dX8_init_33 : decode cX8_init 33 = .ok (.putfield 21, 3) := by decide +kernel
theorem dX8_init_36 : decode cX8_init 36 = .ok (.aload_n 0, 1) := by decide +kernel
theorem dX8_init_37 : decode cX8_init 37 = .ok (.bipush 20, 2) := by decide +kernel
theorem dX8_init_39 : decode cX8_init 39 = .ok (.newarray .int, 2) := by decide +kernel
theorem dX8_init_41 : decode cX8_init 41 = .ok (.putfield 24, 3) := by decide +kernel
theorem dX8_init_44 : decode cX8_init 44 = .ok (.aload_n 0, 1) := by decide +kernel
theorem dX8_init_45 : decode cX8_init 45 = .ok (.iconst 4, 1) := by decide +kernel
theorem dX8_init_46 : decode cX8_init 46 = .ok (.newarray .int, 2) := by decide +kernel
theorem dX8_init_48 : decode cX8_init 48 = .ok (.putfield 27, 3) := by decide +kernel
theorem dX8_init_51 : decode cX8_init 51 = .ok (.aload_n 0, 1) := by decide +kernel
theorem dX8_init_52 : decode cX8_init 52 = .ok (.new 30, 3) := by decide +kernel
theorem dX8_init_55 : decode cX8_init 55 = .ok (.dup, 1) := by decide +kernel
theorem dX8_init_56 : decode cX8_init 56 = .ok (.invokespecial 32, 3) := by decide +kernel
theorem dX8_init_59 : decode cX8_init 59 = .ok (.putfield 33, 3) := by decide +kernel
theorem dX8_init_62 : decode cX8_init 62 = .ok (.return_, 1) := by decide +kernel
theorem dX8_clear_0 : decode cX8_clear 0 = .ok (.aload_n 0, 1) := by decide +kernel
theorem dX8_clear_1 : decode cX8_clear 1 = .ok (.getfield 9, 3) := by decide +kernel
theorem dX8_clear_4 : decode cX8_clear 4 = .ok (.iconst 0, 1) := by decide +kernel
theorem dX8_clear_5 : decode cX8_clear 5 = .ok (.invokestatic 37, 3) := by decide +kernel
theorem dX8_clear_8 : decode cX8_clear 8 = .ok (.aload_n 0, 1) := by decide +kernel
theorem dX8_clear_9 : decode cX8_clear 9 = .ok (.getfield 15, 3) := by decide +kernel
theorem dX8_clear_12 : decode cX8_clear 12 = .ok (.iconst 0, 1) := by decide +kernel
theorem dX8_clear_13 : decode cX8_clear 13 = .ok (.invokestatic 37, 3) := by decide +kernel
theorem dX8_clear_16 : decode cX8_clear 16 = .ok (.aload_n 0, 1) := by decide +kernel
theorem dX8_clear_17 : decode cX8_clear 17 = .ok (.getfield 18, 3) := by decide +kernel
theorem dX8_clear_20 : decode cX8_clear 20 = .ok (.iconst 0, 1) := by decide +kernel
theorem dX8_clear_21 : decode cX8_clear 21 = .ok (.invokestatic 37, 3) := by decide +kernel
theorem dX8_clear_24 : decode cX8_clear 24 = .ok (.aload_n 0, 1) := by decide +kernel
theorem dX8_clear_25 : decode cX8_clear 25 = .ok (.getfield 21, 3) := by decide +kernel
theorem dX8_clear_28 : decode cX8_clear 28 = .ok (.iconst 0, 1) := by decide +kernel
theorem dX8_clear_29 : decode cX8_clear 29 = .ok (.invokestatic 37, 3) := by decide +kernel
theorem dX8_clear_32 : decode cX8_clear 32 = .ok (.aload_n 0, 1) := by decide +kernel
theorem dX8_clear_33 : decode cX8_clear 33 = .ok (.getfield 24, 3) := by decide +kernel
theorem dX8_clear_36 : decode cX8_clear 36 = .ok (.iconst 0, 1) := by decide +kernel
theorem dX8_clear_37 : decode cX8_clear 37 = .ok (.invokestatic 37, 3) := by decide +kernel
theorem dX8_clear_40 : decode cX8_clear 40 = .ok (.aload_n 0, 1) := by decide +kernel
theorem dX8_clear_41 : decode cX8_clear 41 = .ok (.getfield 27, 3) := by decide +kernel
theorem dX8_clear_44 : decode cX8_clear 44 = .ok (.iconst 0, 1) := by decide +kernel
theorem dX8_clear_45 : decode cX8_clear 45 = .ok (.invokestatic 37, 3) := by decide +kernel
theorem dX8_clear_48 : decode cX8_clear 48 = .ok (.aload_n 0, 1) := by decide +kernel
theorem dX8_clear_49 : decode cX8_clear 49 = .ok (.getfield 33, 3) := by decide +kernel
theorem dX8_clear_52 : decode cX8_clear 52 = .ok (.invokevirtual 41, 3) := by decide +kernel
theorem dX8_clear_55 : decode cX8_clear 55 = .ok (.aload_n 0, 1) := by decide +kernel
theorem dX8_clear_56 : decode cX8_clear 56 = .ok (.iconst 0, 1) := by decide +kernel
theorem dX8_clear_57 : decode cX8_clear 57 = .ok (.putfield 44, 3) := by decide +kernel
theorem dX8_clear_60 : decode cX8_clear 60 = .ok (.aload_n 0, 1) := by decide +kernel
theorem dX8_clear_61 : decode cX8_clear 61 = .ok (.iconst 0, 1) := by decide +kernel
theorem dX8_clear_62 : decode cX8_clear 62 = .ok (.putfield 48, 3) := by decide +kernel
theorem dX8_clear_65 : decode cX8_clear 65 = .ok (.return_, 1) := by decide +kernel
theorem dX8_copyFrom_0 : decode cX8_copyFrom 0 = .ok (.aload_n 1, 1) := by decide +kernel
theorem dX8_copyFrom_1 : decode cX8_copyFrom 1 = .ok (.getfield 9, 3) := by decide +kernel
theorem dX8_copyFrom_4 : decode cX8_copyFrom 4 = .ok (.aload_n 0, 1) := by decide +kernel
theorem dX8_copyFrom_5 : decode cX8_copyFrom 5 = .ok (.getfield 9, 3) := by decide +kernel
theorem dX8_copyFrom_8 : decode cX8_copyFrom 8 = .ok (.invokestatic 51, 3) := by decide +kernel
theorem dX8_copyFrom_11 : decode cX8_copyFrom 11 = .ok (.aload_n 1, 1) := by decide +kernel
theorem dX8_copyFrom_12 : decode cX8_copyFrom 12 = .ok (.getfield 15, 3) := by decide +kernel
theorem dX8_copyFrom_15 : decode cX8_copyFrom 15 = .ok (.aload_n 0, 1) := by decide +kernel
theorem dX8_copyFrom_16 : decode cX8_copyFrom 16 = .ok (.getfield 15, 3) := by decide +kernel
theorem dX8_copyFrom_19 : decode cX8_copyFrom 19 = .ok (.invokestatic 51, 3) := by decide +kernel
theorem dX8_copyFrom_22 : decode cX8_copyFrom 22 = .ok (.aload_n 1, 1) := by decide +kernel
theorem dX8_copyFrom_23 : decode cX8_copyFrom 23 = .ok (.getfield 18, 3) := by decide +kernel
theorem dX8_copyFrom_26 : decode cX8_copyFrom 26 = .ok (.aload_n 0, 1) := by decide +kernel
theorem dX8_copyFrom_27 : decode cX8_copyFrom 27 = .ok (.getfield 18, 3) := by decide +kernel
theorem dX8_copyFrom_30 : decode cX8_copyFrom 30 = .ok (.invokestatic 51, 3) := by decide +kernel
theorem dX8_copyFrom_33 : decode cX8_copyFrom 33 = .ok (.aload_n 1, 1) := by decide +kernel
theorem dX8_copyFrom_34 : decode cX8_copyFrom 34 = .ok (.getfield 21, 3) := by decide +kernel
theorem dX8_copyFrom_37 : decode cX8_copyFrom 37 = .ok (.aload_n 0, 1) := by decide +kernel
theorem dX8_copyFrom_38 : decode cX8_copyFrom 38 = .ok (.getfield 21, 3) := by decide +kernel
theorem dX8_copyFrom_41 : decode cX8_copyFrom 41 = .ok (.invokestatic 51, 3) := by decide +kernel
theorem dX8_copyFrom_44 : decode cX8_copyFrom 44 = .ok (.aload_n 1, 1) := by decide +kernel
theorem dX8_copyFrom_45 : decode cX8_copyFrom 45 = .ok (.getfield 24, 3) := by decide +kernel
theorem dX8_copyFrom_48 : decode cX8_copyFrom 48 = .ok (.aload_n 0, 1) := by decide +kernel
theorem dX8_copyFrom_49 : decode cX8_copyFrom 49 = .ok (.getfield 24, 3) := by decide +kernel
theorem dX8_copyFrom_52 : decode cX8_copyFrom 52 = .ok (.invokestatic 51, 3) := by decide +kernel
theorem dX8_copyFrom_55 : decode cX8_copyFrom 55 = .ok (.aload_n 1, 1) := by decide +kernel
theorem dX8_copyFrom_56 : decode cX8_copyFrom 56 = .ok (.getfield 27, 3) := by decide +kernel
theorem dX8_copyFrom_59 : decode cX8_copyFrom 59 = .ok (.aload_n 0, 1) := by decide +kernel
theorem dX8_copyFrom_60 : decode cX8_copyFrom 60 = .ok (.getfield 27, 3) := by decide +kernel
theorem dX8_copyFrom_63 : decode cX8_copyFrom 63 = .ok (.invokestatic 51, 3) := by decide +kernel
theorem dX8_copyFrom_66 : decode cX8_copyFrom 66 = .ok (.aload_n 0, 1) := by decide +kernel
theorem dX8_copyFrom_67 : decode cX8_copyFrom 67 = .ok (.getfield 33, 3) := by decide +kernel
theorem dX8_copyFrom_70 : decode cX8_copyFrom 70 = .ok (.aload_n 1, 1) := by decide +kernel
theorem dX8_copyFrom_71 : decode cX8_copyFrom 71 = .ok (.getfield 33, 3) := by decide +kernel
theorem dX8_copyFrom_74 : decode cX8_copyFrom 74 = .ok (.invokevirtual 55, 3) := by decide +kernel
theorem dX8_copyFrom_77 : decode cX8_copyFrom 77 = .ok (.aload_n 0, 1) := by decide +kernel
theorem dX8_copyFrom_78 : decode cX8_copyFrom 78 = .ok (.aload_n 1, 1) := by decide +kernel
theorem dX8_copyFrom_79 : decode cX8_copyFrom 79 = .ok (.getfield 44, 3) := by decide +kernel
theorem dX8_copyFrom_82 : decode cX8_copyFrom 82 = .ok (.putfield 44, 3) := by decide +kernel
theorem dX8_copyFrom_85 : decode cX8_copyFrom 85 = .ok (.aload_n 0, 1) := by decide +kernel
theorem dX8_copyFrom_86 : decode cX8_copyFrom 86 = .ok (.aload_n 1, 1) := by decide +kernel
theorem dX8_copyFrom_87 : decode cX8_copyFrom 87 = .ok (.getfield 48, 3) := by decide +kernel
theorem dX8_copyFrom_90 : decode cX8_copyFrom 90 = .ok (.putfield 48, 3) := by decide +kernel
theorem dX8_copyFrom_93 : decode cX8_copyFrom 93 = .ok (.return_, 1) := by decide +kernel
theorem dX8_putStanding_0 : decode cX8_putStanding 0 = .ok (.iconst 0, 1) := by decide +kernel
theorem dX8_putStanding_1 : decode cX8_putStanding 1 = .ok (.istore_n 2, 1) := by decide +kernel
theorem dX8_putStanding_2 : decode cX8_putStanding 2 = .ok (.iload_n 2, 1) := by decide +kernel
theorem dX8_putStanding_3 : decode cX8_putStanding 3 = .ok (.bipush 36, 2) := by decide +kernel
theorem dX8_putStanding_5 : decode cX8_putStanding 5 = .ok (.if_icmp .ge 29, 3) := by decide +kernel
theorem dX8_putStanding_8 : decode cX8_putStanding 8 = .ok (.aload_n 1, 1) := by decide +kernel
theorem dX8_putStanding_9 : decode cX8_putStanding 9 = .ok (.iload_n 2, 1) := by decide +kernel
theorem dX8_putStanding_10 : decode cX8_putStanding 10 = .ok (.aload_n 0, 1) := by decide +kernel
theorem dX8_putStanding_11 : decode cX8_putStanding 11 = .ok (.getfield 9, 3) := by decide +kernel
theorem dX8_putStanding_14 : decode cX8_putStanding 14 = .ok (.iload_n 2, 1) := by decide +kernel
theorem dX8_putStanding_15 : decode cX8_putStanding 15 = .ok (.iaload, 1) := by decide +kernel
theorem dX8_putStanding_16 : decode cX8_putStanding 16 = .ok (.ifCond .le 7, 3) := by decide +kernel
theorem dX8_putStanding_19 : decode cX8_putStanding 19 = .ok (.iconst 1, 1) := by decide +kernel
theorem dX8_putStanding_20 : decode cX8_putStanding 20 = .ok (.goto 4, 3) := by decide +kernel
theorem dX8_putStanding_23 : decode cX8_putStanding 23 = .ok (.iconst 0, 1) := by decide +kernel
theorem dX8_putStanding_24 : decode cX8_putStanding 24 = .ok (.invokevirtual 59, 3) := by decide +kernel
theorem dX8_putStanding_27 : decode cX8_putStanding 27 = .ok (.pop, 1) := by decide +kernel
theorem dX8_putStanding_28 : decode cX8_putStanding 28 = .ok (.iinc 2 1, 3) := by decide +kernel
theorem dX8_putStanding_31 : decode cX8_putStanding 31 = .ok (.goto (-29), 3) := by decide +kernel
theorem dX8_putStanding_34 : decode cX8_putStanding 34 = .ok (.return_, 1) := by decide +kernel
theorem dX8_isStandingJustOn_0 : decode cX8_isStandingJustOn 0 = .ok (.iconst 0, 1) := by decide +kernel
theorem dX8_isStandingJustOn_1 : decode cX8_isStandingJustOn 1 = .ok (.istore_n 2, 1) := by decide +kernel
theorem dX8_isStandingJustOn_2 : decode cX8_isStandingJustOn 2 = .ok (.iload_n 2, 1) := by decide +kernel
theorem dX8_isStandingJustOn_3 : decode cX8_isStandingJustOn 3 = .ok (.bipush 36, 2) := by decide +kernel
theorem dX8_isStandingJustOn_5 : decode cX8_isStandingJustOn 5 = .ok (.if_icmp .ge 33, 3) := by decide +kernel
theorem dX8_isStandingJustOn_8 : decode cX8_isStandingJustOn 8 = .ok (.aload_n 1, 1) := by decide +kernel
theorem dX8_isStandingJustOn_9 : decode cX8_isStandingJustOn 9 = .ok (.iload_n 2, 1) := by decide +kernel
theorem dX8_isStandingJustOn_10 : decode cX8_isStandingJustOn 10 = .ok (.invokevirtual 63, 3) := by decide +kernel
theorem dX8_isStandingJustOn_13 : decode cX8_isStandingJustOn 13 = .ok (.aload_n 0, 1) := by decide +kernel
theorem dX8_isStandingJustOn_14 : decode cX8_isStandingJustOn 14 = .ok (.getfield 9, 3) := by decide +kernel
theorem dX8_isStandingJustOn_17 : decode cX8_isStandingJustOn 17 = .ok (.iload_n 2, 1) := by decide +kernel
theorem dX8_isStandingJustOn_18 : decode cX8_isStandingJustOn 18 = .ok (.iaload, 1) := by decide +kernel
theorem dX8_isStandingJustOn_19 : decode cX8_isStandingJustOn 19 = .ok (.ifCond .le 7, 3) := by decide +kernel
theorem dX8_isStandingJustOn_22 : decode cX8_isStandingJustOn 22 = .ok (.iconst 1, 1) := by decide +kernel
theorem dX8_isStandingJustOn_23 : decode cX8_isStandingJustOn 23 = .ok (.goto 4, 3) := by decide +kernel
theorem dX8_isStandingJustOn_26 : decode cX8_isStandingJustOn 26 = .ok (.iconst 0, 1) := by decide +kernel
theorem dX8_isStandingJustOn_27 : decode cX8_isStandingJustOn 27 = .ok (.if_icmp .eq 5, 3) := by decide +kernel
theorem dX8_isStandingJustOn_30 : decode cX8_isStandingJustOn 30 = .ok (.iconst 0, 1) := by decide +kernel
theorem dX8_isStandingJustOn_31 : decode cX8_isStandingJustOn 31 = .ok (.ireturn, 1) := by decide +kernel
theorem dX8_isStandingJustOn_32 : decode cX8_isStandingJustOn 32 = .ok (.iinc 2 1, 3) := by decide +kernel
theorem dX8_isStandingJustOn_35 : decode cX8_isStandingJustOn 35 = .ok (.goto (-33), 3) := by decide +kernel
theorem dX8_isStandingJustOn_38 : decode cX8_isStandingJustOn 38 = .ok (.iconst 1, 1) := by decide +kernel
theorem dX8_isStandingJustOn_39 : decode cX8_isStandingJustOn 39 = .ok (.ireturn, 1) := by decide +kernel
theorem dX9_init_0 : decode cX9_init 0 = .ok (.aload_n 0, 1) := by decide +kernel
theorem dX9_init_1 : decode cX9_init 1 = .ok (.invokespecial 3, 3) := by decide +kernel
theorem dX9_init_4 : decode cX9_init 4 = .ok (.aload_n 0, 1) := by decide +kernel
theorem dX9_init_5 : decode cX9_init 5 = .ok (.new 9, 3) := by decide +kernel
theorem dX9_init_8 : decode cX9_init 8 = .ok (.dup, 1) := by decide +kernel
theorem dX9_init_9 : decode cX9_init 9 = .ok (.invokespecial 11, 3) := by decide +kernel
theorem dX9_init_12 : decode cX9_init 12 = .ok (.putfield 12, 3) := by decide +kernel
theorem dX9_init_15 : decode cX9_init 15 = .ok (.aload_n 0, 1) := by decide +kernel
theorem dX9_init_16 : decode cX9_init 16 = .ok (.new 9, 3) := by decide +kernel
theorem dX9_init_19 : decode cX9_init 19 = .ok (.dup, 1) := by decide +kernel
theorem dX9_init_20 : decode cX9_init 20 = .ok (.invokespecial 11, 3) := by decide +kernel
theorem dX9_init_23 : decode cX9_init 23 = .ok (.putfield 16, 3) := by decide +kernel
theorem dX9_init_26 : decode cX9_init 26 = .ok (.aload_n 0, 1) := by decide +kernel
theorem dX9_init_27 : decode cX9_init 27 = .ok (.new 19, 3) := by decide +kernel
theorem dX9_init_30 : decode cX9_init 30 = .ok (.dup, 1) := by decide +kernel
theorem dX9_init_31 : decode cX9_init 31 = .ok (.invokespecial 21, 3) := by decide +kernel
theorem dX9_init_34 : decode cX9_init 34 = .ok (.putfield 22, 3) := by decide +kernel
theorem dX9_init_37 : decode cX9_init 37 = .ok (.aload_n 0, 1) := by decide +kernel
theorem dX9_init_38 : decode cX9_init 38 = .ok (.new 26, 3) := by decide +kernel
theorem dX9_init_41 : decode cX9_init 41 = .ok (.dup, 1) := by decide +kernel
theorem dX9_init_42 : decode cX9_init 42 = .ok (.invokespecial 28, 3) := by decide +kernel
theorem dX9_init_45 : decode cX9_init 45 = .ok (.putfield 29, 3) := by decide +kernel
theorem dX9_init_48 : decode cX9_init 48 = .ok (.aload_n 0, 1) := by decide +kernel
theorem dX9_init_49 : decode cX9_init 49 = .ok (.new 33, 3) := by decide +kernel
theorem dX9_init_52 : decode cX9_init 52 = .ok (.dup, 1) := by decide +kernel
theorem dX9_init_53 : decode cX9_init 53 = .ok (.invokespecial 35, 3) := by decide +kernel
theorem dX9_init_56 : decode cX9_init 56 = .ok (.putfield 36, 3) := by decide +kernel
theorem dX9_init_59 : decode cX9_init 59 = .ok (.aload_n 0, 1) := by decide +kernel
theorem dX9_init_60 : decode cX9_init 60 = .ok (.iconst 0, 1) := by decide +kernel
theorem dX9_init_61 : decode cX9_init 61 = .ok (.putfield 40, 3) := by decide +kernel
theorem dX9_init_64 : decode cX9_init 64 = .ok (.return_, 1) := by decide +kernel
theorem dX9_land_0 : decode cX9_land 0 = .ok (.iload_n 1, 1) := by decide +kernel
theorem dX9_land_1 : decode cX9_land 1 = .ok (.iconst 1, 1) := by decide +kernel
theorem dX9_land_2 : decode cX9_land 2 = .ok (.bipush 6, 2) := by decide +kernel
theorem dX9_land_4 : decode cX9_land 4 = .ok (.invokestatic 44, 3) := by decide +kernel
theorem dX9_land_7 : decode cX9_land 7 = .ok (.ifCond .eq 13, 3) := by decide +kernel
theorem dX9_land_10 : decode cX9_land 10 = .ok (.iload_n 2, 1) := by decide +kernel
theorem dX9_land_11 : decode cX9_land 11 = .ok (.iconst 1, 1) := by decide +kernel
theorem dX9_land_12 : decode cX9_land 12 = .ok (.bipush 6, 2) := by decide +kernel
theorem dX9_land_14 : decode cX9_land 14 = .ok (.invokestatic 44, 3) := by decide +kernel
theorem dX9_land_17 : decode cX9_land 17 = .ok (.ifCond .ne 5, 3) := by decide +kernel
theorem dX9_land_20 : decode cX9_land 20 = .ok (.iconst (-1), 1) := by decide +kernel
theorem dX9_land_21 : decode cX9_land 21 = .ok (.ireturn, 1) := by decide +kernel
theorem dX9_land_22 : decode cX9_land 22 = .ok (.aload_n 0, 1) := by decide +kernel
theorem dX9_land_23 : decode cX9_land 23 = .ok (.getfield 12, 3) := by decide +kernel
theorem dX9_land_26 : decode cX9_land 26 = .ok (.getfield 48, 3) := by decide +kernel
theorem dX9_land_29 : decode cX9_land 29 = .ok (.iload_n 1, 1) := by decide +kernel
theorem dX9_land_30 : decode cX9_land 30 = .ok (.iload_n 2, 1) := by decide +kernel
theorem dX9_land_31 : decode cX9_land 31 = .ok (.invokevirtual 52, 3) := by decide +kernel
theorem dX9_land_34 : decode cX9_land 34 = .ok (.aload_n 0, 1) := by decide +kernel
theorem dX9_land_35 : decode cX9_land 35 = .ok (.getfield 12, 3) := by decide +kernel
theorem dX9_land_38 : decode cX9_land 38 = .ok (.getfield 58, 3) := by decide +kernel
theorem dX9_land_41 : decode cX9_land 41 = .ok (.invokevirtual 62, 3) := by decide +kernel
theorem dX9_land_44 : decode cX9_land 44 = .ok (.aload_n 0, 1) := by decide +kernel
theorem dX9_land_45 : decode cX9_land 45 = .ok (.getfield 12, 3) := by decide +kernel
theorem dX9_land_48 : decode cX9_land 48 = .ok (.getfield 67, 3) := by decide +kernel
theorem dX9_land_51 : decode cX9_land 51 = .ok (.iconst 0, 1) := by decide +kernel
theorem dX9_land_52 : decode cX9_land 52 = .ok (.putfield 71, 3) := by decide +kernel
theorem dX9_land_55 : decode cX9_land 55 = .ok (.aload_n 0, 1) := by decide +kernel
theorem dX9_land_56 : decode cX9_land 56 = .ok (.getfield 12, 3) := by decide +kernel
theorem dX9_land_59 : decode cX9_land 59 = .ok (.getfield 77, 3) := by decide +kernel
theorem dX9_land_62 : decode cX9_land 62 = .ok (.invokevirtual 80, 3) := by decide +kernel
theorem dX9_land_65 : decode cX9_land 65 = .ok (.aload_n 0, 1) := by decide +kernel
theorem dX9_land_66 : decode cX9_land 66 = .ok (.getfield 12, 3) := by decide +kernel
theorem dX9_land_69 : decode cX9_land 69 = .ok (.getfield 81, 3) := by decide +kernel
theorem dX9_land_72 : decode cX9_land 72 = .ok (.iconst 0, 1) := by decide +kernel
theorem dX9_land_73 : decode cX9_land 73 = .ok (.invokestatic 85, 3) := by decide +kernel
theorem dX9_land_76 : decode cX9_land 76 = .ok (.aload_n 0, 1) := by decide +kernel
theorem dX9_land_77 : decode cX9_land 77 = .ok (.getfield 12, 3) := by decide +kernel
theorem dX9_land_80 : decode cX9_land 80 = .ok (.getfield 89, 3) := by decide +kernel
theorem dX9_land_83 : decode cX9_land 83 = .ok (.invokevirtual 93, 3) := by decide +kernel
theorem dX9_land_86 : decode cX9_land 86 = .ok (.aload_n 0, 1) := by decide +kernel
theorem dX9_land_87 : decode cX9_land 87 = .ok (.getfield 12, 3) := by decide +kernel
theorem dX9_land_90 : decode cX9_land 90 = .ok (.getfield 96, 3) := by decide +kernel
theorem dX9_land_93 : decode cX9_land 93 = .ok (.invokevirtual 93, 3) := by decide +kernel
theorem dX9_land_96 : decode cX9_land 96 = .ok (.aload_n 0, 1) := by decide +kernel
theorem dX9_land_97 : decode cX9_land 97 = .ok (.getfield 12, 3) := by decide +kernel
theorem dX9_land_100 : decode cX9_land 100 = .ok (.getfield 48, 3) := by decide +kernel
theorem dX9_land_103 : decode cX9_land 103 = .ok (.getfield 99, 3) := by decide +kernel
theorem dX9_land_106 : decode cX9_land 106 = .ok (.ireturn, 1) := by decide +kernel
theorem dX9_height_0 : decode cX9_height 0 = .ok (.aload_n 0, 1) := by decide +kernel
theorem dX9_height_1 : decode cX9_height 1 = .ok (.getfield 12, 3) := by decide +kernel
theorem dX9_height_4 : decode cX9_height 4 = .ok (.getfield 48, 3) := by decide +kernel
theorem dX9_height_7 : decode cX9_height 7 = .ok (.iload_n 1, 1) := by decide +kernel
theorem dX9_height_8 : decode cX9_height 8 = .ok (.invokevirtual 102, 3) := by decide +kernel
theorem dX9_height_11 : decode cX9_height 11 = .ok (.ifCond .eq 14, 3) := by decide +kernel
theorem dX9_height_14 : decode cX9_height 14 = .ok (.iload_n 2, 1) := by decide +kernel
theorem dX9_height_15 : decode cX9_height 15 = .ok (.iconst 0, 1) := by decide +kernel
theorem dX9_height_16 : decode cX9_height 16 = .ok (.sipush 2000, 3) := by decide +kernel
theorem dX9_height_19 : decode cX9_height 19 = .ok (.invokestatic 44, 3) := by decide +kernel
theorem dX9_height_22 : decode cX9_height 22 = .ok (.ifCond .ne 5, 3) := by decide +kernel
theorem dX9_height_25 : decode cX9_height 25 = .ok (.iconst (-1), 1) := by decide +kernel
theorem dX9_height_26 : decode cX9_height 26 = .ok (.ireturn, 1) := by decide +kernel
theorem dX9_height_27 : decode cX9_height 27 = .ok (.aload_n 0, 1) := by decide +kernel
theorem dX9_height_28 : decode cX9_height 28 = .ok (.getfield 12, 3) := by decide +kernel
theorem dX9_height_31 : decode cX9_height 31 = .ok (.getfield 48, 3) := by decide +kernel
theorem dX9_height_34 : decode cX9_height 34 = .ok (.getfield 106, 3) := by decide +kernel
theorem dX9_height_37 : decode cX9_height 37 = .ok (.iload_n 1, 1) := by decide +kernel
theorem dX9_height_38 : decode cX9_height 38 = .ok (.iload_n 2, 1) := by decide +kernel
theorem dX9_height_39 : decode cX9_height 39 = .ok (.iastore, 1) := by decide +kernel
theorem dX9_height_40 : decode cX9_height 40 = .ok (.iconst 1, 1) := by decide +kernel
theorem dX9_height_41 : decode cX9_height 41 = .ok (.ireturn, 1) := by decide +kernel
theorem dX9_soil_0 : decode cX9_soil 0 = .ok (.aload_n 0, 1) := by decide +kernel
theorem dX9_soil_1 : decode cX9_soil 1 = .ok (.getfield 12, 3) := by decide +kernel
theorem dX9_soil_4 : decode cX9_soil 4 = .ok (.getfield 48, 3) := by decide +kernel
theorem dX9_soil_7 : decode cX9_soil 7 = .ok (.iload_n 1, 1) := by decide +kernel
theorem dX9_soil_8 : decode cX9_soil 8 = .ok (.invokevirtual 102, 3) := by decide +kernel
theorem dX9_soil_11 : decode cX9_soil 11 = .ok (.ifCond .eq 12, 3) := by decide +kernel
theorem dX9_soil_14 : decode cX9_soil 14 = .ok (.iload_n 2, 1) := by decide +kernel
theorem dX9_soil_15 : decode cX9_soil 15 = .ok (.iconst 0, 1) := by decide +kernel
theorem dX9_soil_16 : decode cX9_soil 16 = .ok (.iconst 3, 1) := by decide +kernel
theorem dX9_soil_17 : decode cX9_soil 17 = .ok (.invokestatic 44, 3) := by decide +kernel
theorem dX9_soil_20 : decode cX9_soil 20 = .ok (.ifCond .ne 5, 3) := by decide +kernel
theorem dX9_soil_23 : decode cX9_soil 23 = .ok (.iconst (-1), 1) := by decide +kernel
theorem dX9_soil_24 : decode cX9_soil 24 = .ok (.ireturn, 1) := by decide +kernel
theorem dX9_soil_25 : decode cX9_soil 25 = .ok (.aload_n 0, 1) := by decide +kernel
theorem dX9_soil_26 : decode cX9_soil 26 = .ok (.getfield 12, 3) := by decide +kernel
theorem dX9_soil_29 : decode cX9_soil 29 = .ok (.getfield 48, 3) := by decide +kernel
theorem dX9_soil_32 : decode cX9_soil 32 = .ok (.getfield 109, 3) := by decide +kernel
theorem dX9_soil_35 : decode cX9_soil 35 = .ok (.iload_n 1, 1) := by decide +kernel
theorem dX9_soil_36 : decode cX9_soil 36 = .ok (.iload_n 2, 1) := by decide +kernel
theorem dX9_soil_37 : decode cX9_soil 37 = .ok (.iastore, 1) := by decide +kernel
theorem dX9_soil_38 : decode cX9_soil 38 = .ok (.iconst 1, 1) := by decide +kernel
theorem dX9_soil_39 : decode cX9_soil 39 = .ok (.ireturn, 1) := by decide +kernel
theorem dX9_soils_0 : decode cX9_soils 0 = .ok (.iload_n 1, 1) := by decide +kernel
theorem dX9_soils_1 : decode cX9_soils 1 = .ok (.iconst 0, 1) := by decide +kernel
theorem dX9_soils_2 : decode cX9_soils 2 = .ok (.iconst 3, 1) := by decide +kernel
theorem dX9_soils_3 : decode cX9_soils 3 = .ok (.invokestatic 44, 3) := by decide +kernel
theorem dX9_soils_6 : decode cX9_soils 6 = .ok (.ifCond .eq 47, 3) := by decide +kernel
theorem dX9_soils_9 : decode cX9_soils 9 = .ok (.iload_n 2, 1) := by decide +kernel
theorem dX9_soils_10 : decode cX9_soils 10 = .ok (.iconst 0, 1) := by decide +kernel
theorem dX9_soils_11 : decode cX9_soils 11 = .ok (.sipush 200, 3) := by decide +kernel
theorem dX9_soils_14 : decode cX9_soils 14 = .ok (.invokestatic 44, 3) := by decide +kernel
theorem dX9_soils_17 : decode cX9_soils 17 = .ok (.ifCond .eq 36, 3) := by decide +kernel
theorem dX9_soils_20 : decode cX9_soils 20 = .ok (.iload_n 3, 1) := by decide +kernel
theorem dX9_soils_21 : decode cX9_soils 21 = .ok (.iconst 0, 1) := by decide +kernel
theorem dX9_soils_22 : decode cX9_soils 22 = .ok (.bipush 100, 2) := by decide +kernel
theorem dX9_soils_24 : decode cX9_soils 24 = .ok (.invokestatic 44, 3) := by decide +kernel
theorem dX9_soils_27 : decode cX9_soils 27 = .ok (.ifCond .eq 26, 3) := by decide +kernel
theorem dX9_soils_30 : decode cX9_soils 30 = .ok (.iload 4, 2) := by decide +kernel
theorem dX9_soils_32 : decode cX9_soils 32 = .ok (.iconst 0, 1) := by decide +kernel
theorem dX9_soils_33 : decode cX9_soils 33 = .ok (.sipush 1000, 3) := by decide +kernel
theorem dX9_soils_36 : decode cX9_soils 36 = .ok (.invokestatic 44, 3) := by decide +kernel
theorem dX9_soils_39 : decode cX9_soils 39 = .ok (.ifCond .eq 14, 3) := by decide +kernel
theorem dX9_soils_42 : decode cX9_soils 42 = .ok (.iload 5, 2) := by decide +kernel
theorem dX9_soils_44 : decode cX9_soils 44 = .ok (.iconst 0, 1) := by decide +kernel
theorem dX9_soils_45 : decode cX9_soils 45 = .ok (.bipush 40, 2) := by decide +kernel
theorem dX9_soils_47 : decode cX9_soils 47 = .ok (.invokestatic 44, 3) := by decide +kernel
theorem dX9_soils_50 : decode cX9_soils 50 = .ok (.ifCond .ne 5, 3) := by decide +kernel
theorem dX9_soils_53 : decode cX9_soils 53 = .ok (.iconst (-1), 1) := by decide +kernel
theorem dX9_soils_54 : decode cX9_soils 54 = .ok (.ireturn, 1) := by decide +kernel
theorem dX9_soils_55 : decode cX9_soils 55 = .ok (.aload_n 0, 1) := by decide +kernel
theorem dX9_soils_56 : decode cX9_soils 56 = .ok (.getfield 12, 3) := by decide +kernel
theorem dX9_soils_59 : decode cX9_soils 59 = .ok (.getfield 48, 3) := by decide +kernel
theorem dX9_soils_62 : decode cX9_soils 62 = .ok (.getfield 112, 3) := by decide +kernel
theorem dX9_soils_65 : decode cX9_soils 65 = .ok (.iload_n 1, 1) := by decide +kernel
theorem dX9_soils_66 : decode cX9_soils 66 = .ok (.iload_n 2, 1) := by decide +kernel
theorem dX9_soils_67 : decode cX9_soils 67 = .ok (.iastore, 1) := by decide +kernel
theorem dX9_soils_68 : decode cX9_soils 68 = .ok (.aload_n 0, 1) := by decide +kernel
theorem dX9_soils_69 : decode cX9_soils 69 = .ok (.getfield 12, 3) := by decide +kernel
theorem dX9_soils_72 : decode cX9_soils 72 = .ok (.getfield 48, 3) := by decide +kernel
theorem dX9_soils_75 : decode cX9_soils 75 = .ok (.getfield 115, 3) := by decide +kernel
theorem dX9_soils_78 : decode cX9_soils 78 = .ok (.iload_n 1, 1) := by decide +kernel
theorem dX9_soils_79 : decode cX9_soils 79 = .ok (.iload_n 3, 1) := by decide +kernel
theorem dX9_soils_80 : decode cX9_soils 80 = .ok (.iastore, 1) := by decide +kernel
theorem dX9_soils_81 : decode cX9_soils 81 = .ok (.aload_n 0, 1) := by decide +kernel
theorem dX9_soils_82 : decode cX9_soils 82 = .ok (.getfield 12, 3) := by decide +kernel
theorem dX9_soils_85 : decode cX9_soils 85 = .ok (.getfield 48, 3) := by decide +kernel
theorem dX9_soils_88 : decode cX9_soils 88 = .ok (.getfield 118, 3) := by decide +kernel
theorem dX9_soils_91 : decode cX9_soils 91 = .ok (.iload_n 1, 1) := by decide +kernel
theorem dX9_soils_92 : decode cX9_soils 92 = .ok (.iload 4, 2) := by decide +kernel
theorem dX9_soils_94 : decode cX9_soils 94 = .ok (.iastore, 1) := by decide +kernel
theorem dX9_soils_95 : decode cX9_soils 95 = .ok (.aload_n 0, 1) := by decide +kernel
theorem dX9_soils_96 : decode cX9_soils 96 = .ok (.getfield 12, 3) := by decide +kernel
theorem dX9_soils_99 : decode cX9_soils 99 = .ok (.getfield 48, 3) := by decide +kernel
theorem dX9_soils_102 : decode cX9_soils 102 = .ok (.getfield 121, 3) := by decide +kernel
theorem dX9_soils_105 : decode cX9_soils 105 = .ok (.iload_n 1, 1) := by decide +kernel
theorem dX9_soils_106 : decode cX9_soils 106 = .ok (.iload 5, 2) := by decide +kernel
theorem dX9_soils_108 : decode cX9_soils 108 = .ok (.iastore, 1) := by decide +kernel
theorem dX9_soils_109 : decode cX9_soils 109 = .ok (.iconst 1, 1) := by decide +kernel
theorem dX9_soils_110 : decode cX9_soils 110 = .ok (.ireturn, 1) := by decide +kernel
theorem dX9_ditch_0 : decode cX9_ditch 0 = .ok (.iload_n 1, 1) := by decide +kernel
theorem dX9_ditch_1 : decode cX9_ditch 1 = .ok (.iconst 0, 1) := by decide +kernel
theorem dX9_ditch_2 : decode cX9_ditch 2 = .ok (.iconst 3, 1) := by decide +kernel
theorem dX9_ditch_3 : decode cX9_ditch 3 = .ok (.invokestatic 44, 3) := by decide +kernel
theorem dX9_ditch_6 : decode cX9_ditch 6 = .ok (.ifCond .eq 14, 3) := by decide +kernel
theorem dX9_ditch_9 : decode cX9_ditch 9 = .ok (.iload_n 2, 1) := by decide +kernel
theorem dX9_ditch_10 : decode cX9_ditch 10 = .ok (.iconst 0, 1) := by decide +kernel
theorem dX9_ditch_11 : decode cX9_ditch 11 = .ok (.sipush 2000, 3) := by decide +kernel
theorem dX9_ditch_14 : decode cX9_ditch 14 = .ok (.invokestatic 44, 3) := by decide +kernel
theorem dX9_ditch_17 : decode cX9_ditch 17 = .ok (.ifCond .ne 5, 3) := by decide +kernel
theorem dX9_ditch_20 : decode cX9_ditch 20 = .ok (.iconst (-1), 1) := by decide +kernel
theorem dX9_ditch_21 : decode cX9_ditch 21 = .ok (.ireturn, 1) := by decide +kernel
theorem dX9_ditch_22 : decode cX9_ditch 22 = .ok (.aload_n 0, 1) := by decide +kernel
theorem dX9_ditch_23 : decode cX9_ditch 23 = .ok (.getfield 12, 3) := by decide +kernel
theorem dX9_ditch_26 : decode cX9_ditch 26 = .ok (.getfield 48, 3) := by decide +kernel
theorem dX9_ditch_29 : decode cX9_ditch 29 = .ok (.getfield 124, 3) := by decide +kernel
theorem dX9_ditch_32 : decode cX9_ditch 32 = .ok (.iload_n 1, 1) := by decide +kernel
theorem dX9_ditch_33 : decode cX9_ditch 33 = .ok (.iload_n 2, 1) := by decide +kernel
theorem dX9_ditch_34 : decode cX9_ditch 34 = .ok (.iastore, 1) := by decide +kernel
theorem dX9_ditch_35 : decode cX9_ditch 35 = .ok (.iconst 1, 1) := by decide +kernel
theorem dX9_ditch_36 : decode cX9_ditch 36 = .ok (.ireturn, 1) := by decide +kernel
theorem dX9_trench_0 : decode cX9_trench 0 = .ok (.aload_n 0, 1) := by decide +kernel
theorem dX9_trench_1 : decode cX9_trench 1 = .ok (.getfield 12, 3) := by decide +kernel
theorem dX9_trench_4 : decode cX9_trench 4 = .ok (.getfield 48, 3) := by decide +kernel
theorem dX9_trench_7 : decode cX9_trench 7 = .ok (.astore 5, 2) := by decide +kernel
theorem dX9_trench_9 : decode cX9_trench 9 = .ok (.aload 5, 2) := by decide +kernel
theorem dX9_trench_11 : decode cX9_trench 11 = .ok (.iload_n 1, 1) := by decide +kernel
theorem dX9_trench_12 : decode cX9_trench 12 = .ok (.invokevirtual 102, 3) := by decide +kernel
theorem dX9_trench_15 : decode cX9_trench 15 = .ok (.ifCond .eq 49, 3) := by decide +kernel
theorem dX9_trench_18 : decode cX9_trench 18 = .ok (.aload 5, 2) := by decide +kernel
theorem dX9_trench_20 : decode cX9_trench 20 = .ok (.iload_n 2, 1) := by decide +kernel
theorem dX9_trench_21 : decode cX9_trench 21 = .ok (.invokevirtual 102, 3) := by decide +kernel
theorem dX9_trench_24 : decode cX9_trench 24 = .ok (.ifCond .eq 40, 3) := by decide +kernel
theorem dX9_trench_27 : decode cX9_trench 27 = .ok (.iload_n 1, 1) := by decide +kernel
theorem dX9_trench_28 : decode cX9_trench 28 = .ok (.iload_n 2, 1) := by decide +kernel
theorem dX9_trench_29 : decode cX9_trench 29 = .ok (.if_icmp .eq 35, 3) := by decide +kernel
theorem dX9_trench_32 : decode cX9_trench 32 = .ok (.aload 5, 2) := by decide +kernel
theorem dX9_trench_34 : decode cX9_trench 34 = .ok (.iload_n 1, 1) := by decide +kernel
theorem dX9_trench_35 : decode cX9_trench 35 = .ok (.iload_n 2, 1) := by decide +kernel
theorem dX9_trench_36 : decode cX9_trench 36 = .ok (.invokevirtual 127, 3) := by decide +kernel
theorem dX9_trench_39 : decode cX9_trench 39 = .ok (.ifCond .eq 25, 3) := by decide +kernel
theorem dX9_trench_42 : decode cX9_trench 42 = .ok (.iload_n 3, 1) := by decide +kernel
theorem dX9_trench_43 : decode cX9_trench 43 = .ok (.iconst 0, 1) := by decide +kernel
theorem dX9_trench_44 : decode cX9_trench 44 = .ok (.sipush 2000, 3) := by decide +kernel
theorem dX9_trench_47 : decode cX9_trench 47 = .ok (.invokestatic 44, 3) := by decide +kernel
theorem dX9_trench_50 : decode cX9_trench 50 = .ok (.ifCond .eq 14, 3) := by decide +kernel
theorem dX9_trench_53 : decode cX9_trench 53 = .ok (.iload 4, 2) := by decide +kernel
theorem dX9_trench_55 : decode cX9_trench 55 = .ok (.iconst 1, 1) := by decide +kernel
theorem dX9_trench_56 : decode cX9_trench 56 = .ok (.bipush 50, 2) := by decide +kernel
theorem dX9_trench_58 : decode cX9_trench 58 = .ok (.invokestatic 44, 3) := by decide +kernel
theorem dX9_trench_61 : decode cX9_trench 61 = .ok (.ifCond .ne 5, 3) := by decide +kernel
theorem dX9_trench_64 : decode cX9_trench 64 = .ok (.iconst (-1), 1) := by decide +kernel
theorem dX9_trench_65 : decode cX9_trench 65 = .ok (.ireturn, 1) := by decide +kernel
theorem dX9_trench_66 : decode cX9_trench 66 = .ok (.iconst 1, 1) := by decide +kernel
theorem dX9_trench_67 : decode cX9_trench 67 = .ok (.aload 5, 2) := by decide +kernel
theorem dX9_trench_69 : decode cX9_trench 69 = .ok (.iload_n 1, 1) := by decide +kernel
theorem dX9_trench_70 : decode cX9_trench 70 = .ok (.iload_n 2, 1) := by decide +kernel
theorem dX9_trench_71 : decode cX9_trench 71 = .ok (.invokevirtual 131, 3) := by decide +kernel
theorem dX9_trench_74 : decode cX9_trench 74 = .ok (.iadd, 1) := by decide +kernel
theorem dX9_trench_75 : decode cX9_trench 75 = .ok (.aload 5, 2) := by decide +kernel
theorem dX9_trench_77 : decode cX9_trench 77 = .ok (.iload_n 1, 1) := by decide +kernel
theorem dX9_trench_78 : decode cX9_trench 78 = .ok (.iload_n 2, 1) := by decide +kernel
theorem dX9_trench_79 : decode cX9_trench 79 = .ok (.invokevirtual 135, 3) := by decide +kernel
theorem dX9_trench_82 : decode cX9_trench 82 = .ok (.iadd, 1) := by decide +kernel
theorem dX9_trench_83 : decode cX9_trench 83 = .ok (.istore 6, 2) := by decide +kernel
theorem dX9_trench_85 : decode cX9_trench 85 = .ok (.aload 5, 2) := by decide +kernel
theorem dX9_trench_87 : decode cX9_trench 87 = .ok (.iload_n 1, 1) := by decide +kernel
theorem dX9_trench_88 : decode cX9_trench 88 = .ok (.iload_n 2, 1) := by decide +kernel
theorem dX9_trench_89 : decode cX9_trench 89 = .ok (.invokevirtual 131, 3) := by decide +kernel
theorem dX9_trench_92 : decode cX9_trench 92 = .ok (.ifCond .ne 7, 3) := by decide +kernel
theorem dX9_trench_95 : decode cX9_trench 95 = .ok (.iconst 1, 1) := by decide +kernel
theorem dX9_trench_96 : decode cX9_trench 96 = .ok (.goto 8, 3) := by decide +kernel
theorem dX9_trench_99 : decode cX9_trench 99 = .ok (.aload 5, 2) := by decide +kernel
theorem dX9_trench_101 : decode cX9_trench 101 = .ok (.getfield 138, 3) := by decide +kernel
theorem dX9_trench_104 : decode cX9_trench 104 = .ok (.istore 7, 2) := by decide +kernel
theorem dX9_trench_106 : decode cX9_trench 106 = .ok (.aload_n 0, 1) := by decide +kernel
theorem dX9_trench_107 : decode cX9_trench 107 = .ok (.getfield 12, 3) := by decide +kernel
theorem dX9_trench_110 : decode cX9_trench 110 = .ok (.getfield 58, 3) := by decide +kernel
theorem dX9_trench_113 : decode cX9_trench 113 = .ok (.iload_n 1, 1) := by decide +kernel
theorem dX9_trench_114 : decode cX9_trench 114 = .ok (.iload_n 1, 1) := by decide +kernel
theorem dX9_trench_115 : decode cX9_trench 115 = .ok (.iload_n 2, 1) := by decide +kernel
theorem dX9_trench_116 : decode cX9_trench 116 = .ok (.if_icmp .ge 8, 3) := by decide +kernel
theorem dX9_trench_119 : decode cX9_trench 119 = .ok (.iload 7, 2) := by decide +kernel
theorem dX9_trench_121 : decode cX9_trench 121 = .ok (.goto 6, 3) := by decide +kernel
theorem dX9_trench_124 : decode cX9_trench 124 = .ok (.iload 7, 2) := by decide +kernel
theorem dX9_trench_126 : decode cX9_trench 126 = .ok (.ineg, 1) := by decide +kernel
theorem dX9_trench_127 : decode cX9_trench 127 = .ok (.iload 6, 2) := by decide +kernel
theorem dX9_trench_129 : decode cX9_trench 129 = .ok (.iload_n 3, 1) := by decide +kernel
theorem dX9_trench_130 : decode cX9_trench 130 = .ok (.iload 4, 2) := by decide +kernel
theorem dX9_trench_132 : decode cX9_trench 132 = .ok (.invokevirtual 141, 3) := by decide +kernel
theorem dX9_trench_135 : decode cX9_trench 135 = .ok (.iload 6, 2) := by decide +kernel
theorem dX9_trench_137 : decode cX9_trench 137 = .ok (.ireturn, 1) := by decide +kernel
end
section
theorem dX9_pipe_0 : decode cX9_pipe 0 = .ok (.iload_n 1, 1) := by decide +kernel
theorem dX9_pipe_1 : decode cX9_pipe 1 = .ok (.iconst 0, 1) := by decide +kernel
theorem dX9_pipe_2 : decode cX9_pipe 2 = .ok (.iconst 3, 1) := by decide +kernel
theorem dX9_pipe_3 : decode cX9_pipe 3 = .ok (.invokestatic 44, 3) := by decide +kernel
theorem dX9_pipe_6 : decode cX9_pipe 6 = .ok (.ifCond .eq 27, 3) := by decide +kernel
theorem dX9_pipe_9 : decode cX9_pipe 9 = .ok (.iload_n 2, 1) := by decide +kernel
theorem dX9_pipe_10 : decode cX9_pipe 10 = .ok (.iconst 1, 1) := by decide +kernel
theorem dX9_pipe_11 : decode cX9_pipe 11 = .ok (.iconst 4, 1) := by decide +kernel
theorem dX9_pipe_12 : decode cX9_pipe 12 = .ok (.invokestatic 44, 3) := by decide +kernel
theorem dX9_pipe_15 : decode cX9_pipe 15 = .ok (.ifCond .eq 18, 3) := by decide +kernel
theorem dX9_pipe_18 : decode cX9_pipe 18 = .ok (.iload_n 1, 1) := by decide +kernel
theorem dX9_pipe_19 : decode cX9_pipe 19 = .ok (.iconst 2, 1) := by decide +kernel
theorem dX9_pipe_20 : decode cX9_pipe 20 = .ok (.if_icmp .ne 15, 3) := by decide +kernel
theorem dX9_pipe_23 : decode cX9_pipe 23 = .ok (.iload_n 3, 1) := by decide +kernel
theorem dX9_pipe_24 : decode cX9_pipe 24 = .ok (.iconst 1, 1) := by decide +kernel
theorem dX9_pipe_25 : decode cX9_pipe 25 = .ok (.bipush 100, 2) := by decide +kernel
theorem dX9_pipe_27 : decode cX9_pipe 27 = .ok (.invokestatic 44, 3) := by decide +kernel
theorem dX9_pipe_30 : decode cX9_pipe 30 = .ok (.ifCond .ne 5, 3) := by decide +kernel
theorem dX9_pipe_33 : decode cX9_pipe 33 = .ok (.iconst (-1), 1) := by decide +kernel
theorem dX9_pipe_34 : decode cX9_pipe 34 = .ok (.ireturn, 1) := by decide +kernel
theorem dX9_pipe_35 : decode cX9_pipe 35 = .ok (.aload_n 0, 1) := by decide +kernel
theorem dX9_pipe_36 : decode cX9_pipe 36 = .ok (.getfield 12, 3) := by decide +kernel
theorem dX9_pipe_39 : decode cX9_pipe 39 = .ok (.getfield 58, 3) := by decide +kernel
theorem dX9_pipe_42 : decode cX9_pipe 42 = .ok (.getfield 145, 3) := by decide +kernel
theorem dX9_pipe_45 : decode cX9_pipe 45 = .ok (.ifCond .ne 6, 3) := by decide +kernel
theorem dX9_pipe_48 : decode cX9_pipe 48 = .ok (.bipush (-6), 2) := by decide +kernel
theorem dX9_pipe_50 : decode cX9_pipe 50 = .ok (.ireturn, 1) := by decide +kernel
theorem dX9_pipe_51 : decode cX9_pipe 51 = .ok (.aload_n 0, 1) := by decide +kernel
theorem dX9_pipe_52 : decode cX9_pipe 52 = .ok (.getfield 12, 3) := by decide +kernel
theorem dX9_pipe_55 : decode cX9_pipe 55 = .ok (.getfield 48, 3) := by decide +kernel
theorem dX9_pipe_58 : decode cX9_pipe 58 = .ok (.aload_n 0, 1) := by decide +kernel
theorem dX9_pipe_59 : decode cX9_pipe 59 = .ok (.getfield 12, 3) := by decide +kernel
theorem dX9_pipe_62 : decode cX9_pipe 62 = .ok (.getfield 58, 3) := by decide +kernel
theorem dX9_pipe_65 : decode cX9_pipe 65 = .ok (.invokevirtual 148, 3) := by decide +kernel
theorem dX9_pipe_68 : decode cX9_pipe 68 = .ok (.istore 4, 2) := by decide +kernel
theorem dX9_pipe_70 : decode cX9_pipe 70 = .ok (.iload 4, 2) := by decide +kernel
theorem dX9_pipe_72 : decode cX9_pipe 72 = .ok (.ifCond .lt 9, 3) := by decide +kernel
theorem dX9_pipe_75 : decode cX9_pipe 75 = .ok (.bipush (-100), 2) := by decide +kernel
theorem dX9_pipe_77 : decode cX9_pipe 77 = .ok (.iload 4, 2) := by decide +kernel
theorem dX9_pipe_79 : decode cX9_pipe 79 = .ok (.isub, 1) := by decide +kernel
theorem dX9_pipe_80 : decode cX9_pipe 80 = .ok (.ireturn, 1) := by decide +kernel
theorem dX9_pipe_81 : decode cX9_pipe 81 = .ok (.aload_n 0, 1) := by decide +kernel
theorem dX9_pipe_82 : decode cX9_pipe 82 = .ok (.getfield 12, 3) := by decide +kernel
theorem dX9_pipe_85 : decode cX9_pipe 85 = .ok (.getfield 67, 3) := by decide +kernel
theorem dX9_pipe_88 : decode cX9_pipe 88 = .ok (.getfield 71, 3) := by decide +kernel
theorem dX9_pipe_91 : decode cX9_pipe 91 = .ok (.bipush 20, 2) := by decide +kernel
theorem dX9_pipe_93 : decode cX9_pipe 93 = .ok (.if_icmp .lt 6, 3) := by decide +kernel
theorem dX9_pipe_96 : decode cX9_pipe 96 = .ok (.bipush (-2), 2) := by decide +kernel
theorem dX9_pipe_98 : decode cX9_pipe 98 = .ok (.ireturn, 1) := by decide +kernel
theorem dX9_pipe_99 : decode cX9_pipe 99 = .ok (.aload_n 0, 1) := by decide +kernel
theorem dX9_pipe_100 : decode cX9_pipe 100 = .ok (.getfield 12, 3) := by decide +kernel
theorem dX9_pipe_103 : decode cX9_pipe 103 = .ok (.getfield 67, 3) := by decide +kernel
theorem dX9_pipe_106 : decode cX9_pipe 106 = .ok (.getfield 71, 3) := by decide +kernel
theorem dX9_pipe_109 : decode cX9_pipe 109 = .ok (.istore 5, 2) := by decide +kernel
theorem dX9_pipe_111 : decode cX9_pipe 111 = .ok (.aload_n 0, 1) := by decide +kernel
theorem dX9_pipe_112 : decode cX9_pipe 112 = .ok (.getfield 12, 3) := by decide +kernel
theorem dX9_pipe_115 : decode cX9_pipe 115 = .ok (.getfield 67, 3) := by decide +kernel
theorem dX9_pipe_118 : decode cX9_pipe 118 = .ok (.getfield 152, 3) := by decide +kernel
theorem dX9_pipe_121 : decode cX9_pipe 121 = .ok (.iload 5, 2) := by decide +kernel
theorem dX9_pipe_123 : decode cX9_pipe 123 = .ok (.aaload, 1) := by decide +kernel
theorem dX9_pipe_124 : decode cX9_pipe 124 = .ok (.aload_n 0, 1) := by decide +kernel
theorem dX9_pipe_125 : decode cX9_pipe 125 = .ok (.getfield 12, 3) := by decide +kernel
theorem dX9_pipe_128 : decode cX9_pipe 128 = .ok (.getfield 58, 3) := by decide +kernel
theorem dX9_pipe_131 : decode cX9_pipe 131 = .ok (.iload_n 1, 1) := by decide +kernel
theorem dX9_pipe_132 : decode cX9_pipe 132 = .ok (.iload_n 2, 1) := by decide +kernel
theorem dX9_pipe_133 : decode cX9_pipe 133 = .ok (.invokevirtual 156, 3) := by decide +kernel
theorem dX9_pipe_136 : decode cX9_pipe 136 = .ok (.aload_n 0, 1) := by decide +kernel
theorem dX9_pipe_137 : decode cX9_pipe 137 = .ok (.getfield 12, 3) := by decide +kernel
theorem dX9_pipe_140 : decode cX9_pipe 140 = .ok (.getfield 77, 3) := by decide +kernel
theorem dX9_pipe_143 : decode cX9_pipe 143 = .ok (.getfield 162, 3) := by decide +kernel
theorem dX9_pipe_146 : decode cX9_pipe 146 = .ok (.iload 5, 2) := by decide +kernel
theorem dX9_pipe_148 : decode cX9_pipe 148 = .ok (.iload_n 1, 1) := by decide +kernel
theorem dX9_pipe_149 : decode cX9_pipe 149 = .ok (.iconst 2, 1) := by decide +kernel
theorem dX9_pipe_150 : decode cX9_pipe 150 = .ok (.if_icmp .ne 7, 3) := by decide +kernel
theorem dX9_pipe_153 : decode cX9_pipe 153 = .ok (.iload_n 3, 1) := by decide +kernel
theorem dX9_pipe_154 : decode cX9_pipe 154 = .ok (.goto 4, 3) := by decide +kernel
theorem dX9_pipe_157 : decode cX9_pipe 157 = .ok (.iconst 0, 1) := by decide +kernel
theorem dX9_pipe_158 : decode cX9_pipe 158 = .ok (.iastore, 1) := by decide +kernel
theorem dX9_pipe_159 : decode cX9_pipe 159 = .ok (.aload_n 0, 1) := by decide +kernel
theorem dX9_pipe_160 : decode cX9_pipe 160 = .ok (.getfield 12, 3) := by decide +kernel
theorem dX9_pipe_163 : decode cX9_pipe 163 = .ok (.getfield 67, 3) := by decide +kernel
theorem dX9_pipe_166 : decode cX9_pipe 166 = .ok (.iload 5, 2) := by decide +kernel
theorem dX9_pipe_168 : decode cX9_pipe 168 = .ok (.iconst 1, 1) := by decide +kernel
theorem dX9_pipe_169 : decode cX9_pipe 169 = .ok (.iadd, 1) := by decide +kernel
theorem dX9_pipe_170 : decode cX9_pipe 170 = .ok (.putfield 71, 3) := by decide +kernel
theorem dX9_pipe_173 : decode cX9_pipe 173 = .ok (.iload 5, 2) := by decide +kernel
theorem dX9_pipe_175 : decode cX9_pipe 175 = .ok (.ireturn, 1) := by decide +kernel
theorem dX9_join_0 : decode cX9_join 0 = .ok (.aload_n 0, 1) := by decide +kernel
theorem dX9_join_1 : decode cX9_join 1 = .ok (.getfield 12, 3) := by decide +kernel
theorem dX9_join_4 : decode cX9_join 4 = .ok (.getfield 67, 3) := by decide +kernel
theorem dX9_join_7 : decode cX9_join 7 = .ok (.iload_n 1, 1) := by decide +kernel
theorem dX9_join_8 : decode cX9_join 8 = .ok (.invokevirtual 165, 3) := by decide +kernel
theorem dX9_join_11 : decode cX9_join 11 = .ok (.ifCond .eq 17, 3) := by decide +kernel
theorem dX9_join_14 : decode cX9_join 14 = .ok (.aload_n 0, 1) := by decide +kernel
theorem dX9_join_15 : decode cX9_join 15 = .ok (.getfield 12, 3) := by decide +kernel
theorem dX9_join_18 : decode cX9_join 18 = .ok (.getfield 67, 3) := by decide +kernel
theorem dX9_join_21 : decode cX9_join 21 = .ok (.iload_n 2, 1) := by decide +kernel
theorem dX9_join_22 : decode cX9_join 22 = .ok (.invokevirtual 165, 3) := by decide +kernel
theorem dX9_join_25 : decode cX9_join 25 = .ok (.ifCond .ne 5, 3) := by decide +kernel
theorem dX9_join_28 : decode cX9_join 28 = .ok (.iconst (-1), 1) := by decide +kernel
theorem dX9_join_29 : decode cX9_join 29 = .ok (.ireturn, 1) := by decide +kernel
theorem dX9_join_30 : decode cX9_join 30 = .ok (.aload_n 0, 1) := by decide +kernel
theorem dX9_join_31 : decode cX9_join 31 = .ok (.getfield 12, 3) := by decide +kernel
theorem dX9_join_34 : decode cX9_join 34 = .ok (.getfield 67, 3) := by decide +kernel
theorem dX9_join_37 : decode cX9_join 37 = .ok (.getfield 152, 3) := by decide +kernel
theorem dX9_join_40 : decode cX9_join 40 = .ok (.iload_n 1, 1) := by decide +kernel
theorem dX9_join_41 : decode cX9_join 41 = .ok (.aaload, 1) := by decide +kernel
theorem dX9_join_42 : decode cX9_join 42 = .ok (.astore_n 3, 1) := by decide +kernel
theorem dX9_join_43 : decode cX9_join 43 = .ok (.aload_n 0, 1) := by decide +kernel
theorem dX9_join_44 : decode cX9_join 44 = .ok (.getfield 12, 3) := by decide +kernel
theorem dX9_join_47 : decode cX9_join 47 = .ok (.getfield 67, 3) := by decide +kernel
theorem dX9_join_50 : decode cX9_join 50 = .ok (.getfield 152, 3) := by decide +kernel
theorem dX9_join_53 : decode cX9_join 53 = .ok (.iload_n 2, 1) := by decide +kernel
theorem dX9_join_54 : decode cX9_join 54 = .ok (.aaload, 1) := by decide +kernel
theorem dX9_join_55 : decode cX9_join 55 = .ok (.astore 4, 2) := by decide +kernel
theorem dX9_join_57 : decode cX9_join 57 = .ok (.aload_n 3, 1) := by decide +kernel
theorem dX9_join_58 : decode cX9_join 58 = .ok (.getfield 168, 3) := by decide +kernel
theorem dX9_join_61 : decode cX9_join 61 = .ok (.getfield 145, 3) := by decide +kernel
theorem dX9_join_64 : decode cX9_join 64 = .ok (.iconst 1, 1) := by decide +kernel
theorem dX9_join_65 : decode cX9_join 65 = .ok (.isub, 1) := by decide +kernel
theorem dX9_join_66 : decode cX9_join 66 = .ok (.istore 5, 2) := by decide +kernel
theorem dX9_join_68 : decode cX9_join 68 = .ok (.aload 4, 2) := by decide +kernel
theorem dX9_join_70 : decode cX9_join 70 = .ok (.getfield 168, 3) := by decide +kernel
theorem dX9_join_73 : decode cX9_join 73 = .ok (.aload_n 3, 1) := by decide +kernel
theorem dX9_join_74 : decode cX9_join 74 = .ok (.getfield 168, 3) := by decide +kernel
theorem dX9_join_77 : decode cX9_join 77 = .ok (.iload 5, 2) := by decide +kernel
theorem dX9_join_79 : decode cX9_join 79 = .ok (.invokevirtual 171, 3) := by decide +kernel
theorem dX9_join_82 : decode cX9_join 82 = .ok (.invokevirtual 175, 3) := by decide +kernel
theorem dX9_join_85 : decode cX9_join 85 = .ok (.istore 6, 2) := by decide +kernel
theorem dX9_join_87 : decode cX9_join 87 = .ok (.aload_n 3, 1) := by decide +kernel
theorem dX9_join_88 : decode cX9_join 88 = .ok (.getfield 178, 3) := by decide +kernel
theorem dX9_join_91 : decode cX9_join 91 = .ok (.iconst 3, 1) := by decide +kernel
theorem dX9_join_92 : decode cX9_join 92 = .ok (.if_icmp .eq 16, 3) := by decide +kernel
theorem dX9_join_95 : decode cX9_join 95 = .ok (.aload 4, 2) := by decide +kernel
theorem dX9_join_97 : decode cX9_join 97 = .ok (.invokevirtual 181, 3) := by decide +kernel
theorem dX9_join_100 : decode cX9_join 100 = .ok (.ifCond .eq 8, 3) := by decide +kernel
theorem dX9_join_103 : decode cX9_join 103 = .ok (.iload 6, 2) := by decide +kernel
theorem dX9_join_105 : decode cX9_join 105 = .ok (.ifCond .ge 6, 3) := by decide +kernel
theorem dX9_join_108 : decode cX9_join 108 = .ok (.bipush (-3), 2) := by decide +kernel
theorem dX9_join_110 : decode cX9_join 110 = .ok (.ireturn, 1) := by decide +kernel
theorem dX9_join_111 : decode cX9_join 111 = .ok (.aload_n 3, 1) := by decide +kernel
theorem dX9_join_112 : decode cX9_join 112 = .ok (.getfield 168, 3) := by decide +kernel
theorem dX9_join_115 : decode cX9_join 115 = .ok (.iload 5, 2) := by decide +kernel
theorem dX9_join_117 : decode cX9_join 117 = .ok (.invokevirtual 185, 3) := by decide +kernel
theorem dX9_join_120 : decode cX9_join 120 = .ok (.aload 4, 2) := by decide +kernel
theorem dX9_join_122 : decode cX9_join 122 = .ok (.getfield 168, 3) := by decide +kernel
theorem dX9_join_125 : decode cX9_join 125 = .ok (.iload 6, 2) := by decide +kernel
theorem dX9_join_127 : decode cX9_join 127 = .ok (.invokevirtual 185, 3) := by decide +kernel
theorem dX9_join_130 : decode cX9_join 130 = .ok (.if_icmp .ge 6, 3) := by decide +kernel
theorem dX9_join_133 : decode cX9_join 133 = .ok (.bipush (-4), 2) := by decide +kernel
theorem dX9_join_135 : decode cX9_join 135 = .ok (.ireturn, 1) := by decide +kernel
theorem dX9_join_136 : decode cX9_join 136 = .ok (.aload_n 0, 1) := by decide +kernel
theorem dX9_join_137 : decode cX9_join 137 = .ok (.getfield 12, 3) := by decide +kernel
theorem dX9_join_140 : decode cX9_join 140 = .ok (.getfield 67, 3) := by decide +kernel
theorem dX9_join_143 : decode cX9_join 143 = .ok (.iload_n 2, 1) := by decide +kernel
theorem dX9_join_144 : decode cX9_join 144 = .ok (.iload_n 1, 1) := by decide +kernel
theorem dX9_join_145 : decode cX9_join 145 = .ok (.invokevirtual 188, 3) := by decide +kernel
theorem dX9_join_148 : decode cX9_join 148 = .ok (.ifCond .eq 6, 3) := by decide +kernel
theorem dX9_join_151 : decode cX9_join 151 = .ok (.bipush (-5), 2) := by decide +kernel
theorem dX9_join_153 : decode cX9_join 153 = .ok (.ireturn, 1) := by decide +kernel
theorem dX9_join_154 : decode cX9_join 154 = .ok (.aload_n 3, 1) := by decide +kernel
theorem dX9_join_155 : decode cX9_join 155 = .ok (.iload_n 2, 1) := by decide +kernel
theorem dX9_join_156 : decode cX9_join 156 = .ok (.putfield 191, 3) := by decide +kernel
theorem dX9_join_159 : decode cX9_join 159 = .ok (.aload_n 0, 1) := by decide +kernel
theorem dX9_join_160 : decode cX9_join 160 = .ok (.getfield 12, 3) := by decide +kernel
theorem dX9_join_163 : decode cX9_join 163 = .ok (.getfield 67, 3) := by decide +kernel
theorem dX9_join_166 : decode cX9_join 166 = .ok (.iload_n 1, 1) := by decide +kernel
theorem dX9_join_167 : decode cX9_join 167 = .ok (.invokevirtual 194, 3) := by decide +kernel
theorem dX9_join_170 : decode cX9_join 170 = .ok (.ireturn, 1) := by decide +kernel
theorem dX9_open_0 : decode cX9_open 0 = .ok (.aload_n 0, 1) := by decide +kernel
theorem dX9_open_1 : decode cX9_open 1 = .ok (.getfield 12, 3) := by decide +kernel
theorem dX9_open_4 : decode cX9_open 4 = .ok (.getfield 67, 3) := by decide +kernel
theorem dX9_open_7 : decode cX9_open 7 = .ok (.iload_n 1, 1) := by decide +kernel
theorem dX9_open_8 : decode cX9_open 8 = .ok (.invokevirtual 165, 3) := by decide +kernel
theorem dX9_open_11 : decode cX9_open 11 = .ok (.ifCond .eq 12, 3) := by decide +kernel
theorem dX9_open_14 : decode cX9_open 14 = .ok (.iload_n 2, 1) := by decide +kernel
theorem dX9_open_15 : decode cX9_open 15 = .ok (.iconst 0, 1) := by decide +kernel
theorem dX9_open_16 : decode cX9_open 16 = .ok (.iconst 3, 1) := by decide +kernel
theorem dX9_open_17 : decode cX9_open 17 = .ok (.invokestatic 44, 3) := by decide +kernel
theorem dX9_open_20 : decode cX9_open 20 = .ok (.ifCond .ne 5, 3) := by decide +kernel
theorem dX9_open_23 : decode cX9_open 23 = .ok (.iconst (-1), 1) := by decide +kernel
theorem dX9_open_24 : decode cX9_open 24 = .ok (.ireturn, 1) := by decide +kernel
theorem dX9_open_25 : decode cX9_open 25 = .ok (.aload_n 0, 1) := by decide +kernel
theorem dX9_open_26 : decode cX9_open 26 = .ok (.getfield 12, 3) := by decide +kernel
theorem dX9_open_29 : decode cX9_open 29 = .ok (.getfield 67, 3) := by decide +kernel
theorem dX9_open_32 : decode cX9_open 32 = .ok (.getfield 152, 3) := by decide +kernel
theorem dX9_open_35 : decode cX9_open 35 = .ok (.iload_n 1, 1) := by decide +kernel
theorem dX9_open_36 : decode cX9_open 36 = .ok (.aaload, 1) := by decide +kernel
theorem dX9_open_37 : decode cX9_open 37 = .ok (.getfield 178, 3) := by decide +kernel
theorem dX9_open_40 : decode cX9_open 40 = .ok (.iconst 3, 1) := by decide +kernel
theorem dX9_open_41 : decode cX9_open 41 = .ok (.if_icmp .eq 6, 3) := by decide +kernel
theorem dX9_open_44 : decode cX9_open 44 = .ok (.bipush (-3), 2) := by decide +kernel
theorem dX9_open_46 : decode cX9_open 46 = .ok (.ireturn, 1) := by decide +kernel
theorem dX9_open_47 : decode cX9_open 47 = .ok (.aload_n 0, 1) := by decide +kernel
theorem dX9_open_48 : decode cX9_open 48 = .ok (.getfield 12, 3) := by decide +kernel
theorem dX9_open_51 : decode cX9_open 51 = .ok (.getfield 67, 3) := by decide +kernel
theorem dX9_open_54 : decode cX9_open 54 = .ok (.getfield 152, 3) := by decide +kernel
theorem dX9_open_57 : decode cX9_open 57 = .ok (.iload_n 1, 1) := by decide +kernel
theorem dX9_open_58 : decode cX9_open 58 = .ok (.aaload, 1) := by decide +kernel
theorem dX9_open_59 : decode cX9_open 59 = .ok (.bipush 100, 2) := by decide +kernel
theorem dX9_open_61 : decode cX9_open 61 = .ok (.iload_n 2, 1) := by decide +kernel
theorem dX9_open_62 : decode cX9_open 62 = .ok (.iadd, 1) := by decide +kernel
theorem dX9_open_63 : decode cX9_open 63 = .ok (.putfield 191, 3) := by decide +kernel
theorem dX9_open_66 : decode cX9_open 66 = .ok (.iconst 1, 1) := by decide +kernel
theorem dX9_open_67 : decode cX9_open 67 = .ok (.ireturn, 1) := by decide +kernel
theorem dX9_part_0 : decode cX9_part 0 = .ok (.aload_n 0, 1) := by decide +kernel
theorem dX9_part_1 : decode cX9_part 1 = .ok (.getfield 12, 3) := by decide +kernel
theorem dX9_part_4 : decode cX9_part 4 = .ok (.getfield 67, 3) := by decide +kernel
theorem dX9_part_7 : decode cX9_part 7 = .ok (.iload_n 1, 1) := by decide +kernel
theorem dX9_part_8 : decode cX9_part 8 = .ok (.invokevirtual 165, 3) := by decide +kernel
theorem dX9_part_11 : decode cX9_part 11 = .ok (.ifCond .ne 5, 3) := by decide +kernel
theorem dX9_part_14 : decode cX9_part 14 = .ok (.iconst (-1), 1) := by decide +kernel
theorem dX9_part_15 : decode cX9_part 15 = .ok (.ireturn, 1) := by decide +kernel
theorem dX9_part_16 : decode cX9_part 16 = .ok (.aload_n 0, 1) := by decide +kernel
theorem dX9_part_17 : decode cX9_part 17 = .ok (.getfield 12, 3) := by decide +kernel
theorem dX9_part_20 : decode cX9_part 20 = .ok (.getfield 67, 3) := by decide +kernel
theorem dX9_part_23 : decode cX9_part 23 = .ok (.getfield 152, 3) := by decide +kernel
theorem dX9_part_26 : decode cX9_part 26 = .ok (.iload_n 1, 1) := by decide +kernel
theorem dX9_part_27 : decode cX9_part 27 = .ok (.aaload, 1) := by decide +kernel
theorem dX9_part_28 : decode cX9_part 28 = .ok (.getfield 191, 3) := by decide +kernel
theorem dX9_part_31 : decode cX9_part 31 = .ok (.iconst (-1), 1) := by decide +kernel
theorem dX9_part_32 : decode cX9_part 32 = .ok (.if_icmp .ne 5, 3) := by decide +kernel
theorem dX9_part_35 : decode cX9_part 35 = .ok (.iconst 0, 1) := by decide +kernel
theorem dX9_part_36 : decode cX9_part 36 = .ok (.ireturn, 1) := by decide +kernel
theorem dX9_part_37 : decode cX9_part 37 = .ok (.aload_n 0, 1) := by decide +kernel
theorem dX9_part_38 : decode cX9_part 38 = .ok (.getfield 12, 3) := by decide +kernel
theorem dX9_part_41 : decode cX9_part 41 = .ok (.getfield 67, 3) := by decide +kernel
theorem dX9_part_44 : decode cX9_part 44 = .ok (.getfield 152, 3) := by decide +kernel
theorem dX9_part_47 : decode cX9_part 47 = .ok (.iload_n 1, 1) := by decide +kernel
theorem dX9_part_48 : decode cX9_part 48 = .ok (.aaload, 1) := by decide +kernel
theorem dX9_part_49 : decode cX9_part 49 = .ok (.iconst (-1), 1) := by decide +kernel
theorem dX9_part_50 : decode cX9_part 50 = .ok (.putfield 191, 3) := by decide +kernel
theorem dX9_part_53 : decode cX9_part 53 = .ok (.iconst 1, 1) := by decide +kernel
theorem dX9_part_54 : decode cX9_part 54 = .ok (.ireturn, 1) := by decide +kernel
theorem dX9_block_0 : decode cX9_block 0 = .ok (.aload_n 0, 1) := by decide +kernel
theorem dX9_block_1 : decode cX9_block 1 = .ok (.getfield 12, 3) := by decide +kernel
theorem dX9_block_4 : decode cX9_block 4 = .ok (.getfield 67, 3) := by decide +kernel
theorem dX9_block_7 : decode cX9_block 7 = .ok (.iload_n 1, 1) := by decide +kernel
theorem dX9_block_8 : decode cX9_block 8 = .ok (.invokevirtual 165, 3) := by decide +kernel
theorem dX9_block_11 : decode cX9_block 11 = .ok (.ifCond .eq 21, 3) := by decide +kernel
theorem dX9_block_14 : decode cX9_block 14 = .ok (.aload_n 0, 1) := by decide +kernel
theorem dX9_block_15 : decode cX9_block 15 = .ok (.getfield 12, 3) := by decide +kernel
theorem dX9_block_18 : decode cX9_block 18 = .ok (.getfield 77, 3) := by decide +kernel
theorem dX9_block_21 : decode cX9_block 21 = .ok (.getfield 197, 3) := by decide +kernel
theorem dX9_block_24 : decode cX9_block 24 = .ok (.iload_n 1, 1) := by decide +kernel
theorem dX9_block_25 : decode cX9_block 25 = .ok (.iload_n 2, 1) := by decide +kernel
theorem dX9_block_26 : decode cX9_block 26 = .ok (.invokevirtual 200, 3) := by decide +kernel
theorem dX9_block_29 : decode cX9_block 29 = .ok (.goto 4, 3) := by decide +kernel
theorem dX9_block_32 : decode cX9_block 32 = .ok (.iconst (-1), 1) := by decide +kernel
theorem dX9_block_33 : decode cX9_block 33 = .ok (.ireturn, 1) := by decide +kernel
theorem dX9_of_0 : decode cX9_of 0 = .ok (.aload_n 0, 1) := by decide +kernel
theorem dX9_of_1 : decode cX9_of 1 = .ok (.getfield 12, 3) := by decide +kernel
theorem dX9_of_4 : decode cX9_of 4 = .ok (.getfield 67, 3) := by decide +kernel
theorem dX9_of_7 : decode cX9_of 7 = .ok (.iload_n 1, 1) := by decide +kernel
theorem dX9_of_8 : decode cX9_of 8 = .ok (.invokevirtual 165, 3) := by decide +kernel
theorem dX9_of_11 : decode cX9_of 11 = .ok (.ifCond .ne 5, 3) := by decide +kernel
theorem dX9_of_14 : decode cX9_of 14 = .ok (.iconst (-1), 1) := by decide +kernel
theorem dX9_of_15 : decode cX9_of 15 = .ok (.ireturn, 1) := by decide +kernel
theorem dX9_of_16 : decode cX9_of 16 = .ok (.aload_n 0, 1) := by decide +kernel
theorem dX9_of_17 : decode cX9_of 17 = .ok (.getfield 12, 3) := by decide +kernel
theorem dX9_of_20 : decode cX9_of 20 = .ok (.getfield 67, 3) := by decide +kernel
theorem dX9_of_23 : decode cX9_of 23 = .ok (.getfield 152, 3) := by decide +kernel
theorem dX9_of_26 : decode cX9_of 26 = .ok (.iload_n 1, 1) := by decide +kernel
theorem dX9_of_27 : decode cX9_of 27 = .ok (.aaload, 1) := by decide +kernel
theorem dX9_of_28 : decode cX9_of 28 = .ok (.astore_n 3, 1) := by decide +kernel
theorem dX9_of_29 : decode cX9_of 29 = .ok (.iload_n 2, 1) := by decide +kernel
theorem dX9_of_30 : decode cX9_of 30 = .ok (.tableswitch 181 0 11 #[62, 67, 75, 80, 85, 90, 102, 107, 130, 143, 156, 168], 62) := by decide +kernel
theorem dX9_of_92 : decode cX9_of 92 = .ok (.aload_n 3, 1) := by decide +kernel
theorem dX9_of_93 : decode cX9_of 93 = .ok (.getfield 178, 3) := by decide +kernel
theorem dX9_of_96 : decode cX9_of 96 = .ok (.ireturn, 1) := by decide +kernel
theorem dX9_of_97 : decode cX9_of 97 = .ok (.aload_n 3, 1) := by decide +kernel
theorem dX9_of_98 : decode cX9_of 98 = .ok (.getfield 168, 3) := by decide +kernel
theorem dX9_of_101 : decode cX9_of 101 = .ok (.getfield 145, 3) := by decide +kernel
theorem dX9_of_104 : decode cX9_of 104 = .ok (.ireturn, 1) := by decide +kernel
theorem dX9_of_105 : decode cX9_of 105 = .ok (.aload_n 3, 1) := by decide +kernel
theorem dX9_of_106 : decode cX9_of 106 = .ok (.getfield 204, 3) := by decide +kernel
theorem dX9_of_109 : decode cX9_of 109 = .ok (.ireturn, 1) := by decide +kernel
theorem dX9_of_110 : decode cX9_of 110 = .ok (.aload_n 3, 1) := by decide +kernel
theorem dX9_of_111 : decode cX9_of 111 = .ok (.getfield 207, 3) := by decide +kernel
theorem dX9_of_114 : decode cX9_of 114 = .ok (.ireturn, 1) := by decide +kernel
theorem dX9_of_115 : decode cX9_of 115 = .ok (.aload_n 3, 1) := by decide +kernel
theorem dX9_of_116 : decode cX9_of 116 = .ok (.getfield 210, 3) := by decide +kernel
theorem dX9_of_119 : decode cX9_of 119 = .ok (.ireturn, 1) := by decide +kernel
theorem dX9_of_120 : decode cX9_of 120 = .ok (.aload_n 0, 1) := by decide +kernel
theorem dX9_of_121 : decode cX9_of 121 = .ok (.getfield 12, 3) := by decide +kernel
theorem dX9_of_124 : decode cX9_of 124 = .ok (.getfield 67, 3) := by decide +kernel
theorem dX9_of_127 : decode cX9_of 127 = .ok (.iload_n 1, 1) := by decide +kernel
theorem dX9_of_128 : decode cX9_of 128 = .ok (.invokevirtual 194, 3) := by decide +kernel
theorem dX9_of_131 : decode cX9_of 131 = .ok (.ireturn, 1) := by decide +kernel
theorem dX9_of_132 : decode cX9_of 132 = .ok (.aload_n 3, 1) := by decide +kernel
theorem dX9_of_133 : decode cX9_of 133 = .ok (.getfield 191, 3) := by decide +kernel
theorem dX9_of_136 : decode cX9_of 136 = .ok (.ireturn, 1) := by decide +kernel
theorem dX9_of_137 : decode cX9_of 137 = .ok (.aload_n 0, 1) := by decide +kernel
theorem dX9_of_138 : decode cX9_of 138 = .ok (.getfield 12, 3) := by decide +kernel
theorem dX9_of_141 : decode cX9_of 141 = .ok (.getfield 77, 3) := by decide +kernel
theorem dX9_of_144 : decode cX9_of 144 = .ok (.getfield 197, 3) := by decide +kernel
theorem dX9_of_147 : decode cX9_of 147 = .ok (.iload_n 1, 1) := by decide +kernel
theorem dX9_of_148 : decode cX9_of 148 = .ok (.invokevirtual 213, 3) := by decide +kernel
theorem dX9_of_151 : decode cX9_of 151 = .ok (.ifCond .eq 7, 3) := by decide +kernel
theorem dX9_of_154 : decode cX9_of 154 = .ok (.iconst 1, 1) := by decide +kernel
theorem dX9_of_155 : decode cX9_of 155 = .ok (.goto 4, 3) := by decide +kernel
theorem dX9_of_158 : decode cX9_of 158 = .ok (.iconst 0, 1) := by decide +kernel
theorem dX9_of_159 : decode cX9_of 159 = .ok (.ireturn, 1) := by decide +kernel
theorem dX9_of_160 : decode cX9_of 160 = .ok (.aload_n 0, 1) := by decide +kernel
theorem dX9_of_161 : decode cX9_of 161 = .ok (.getfield 12, 3) := by decide +kernel
theorem dX9_of_164 : decode cX9_of 164 = .ok (.getfield 77, 3) := by decide +kernel
theorem dX9_of_167 : decode cX9_of 167 = .ok (.getfield 216, 3) := by decide +kernel
theorem dX9_of_170 : decode cX9_of 170 = .ok (.iload_n 1, 1) := by decide +kernel
theorem dX9_of_171 : decode cX9_of 171 = .ok (.iaload, 1) := by decide +kernel
theorem dX9_of_172 : decode cX9_of 172 = .ok (.ireturn, 1) := by decide +kernel
theorem dX9_of_173 : decode cX9_of 173 = .ok (.aload_n 0, 1) := by decide +kernel
theorem dX9_of_174 : decode cX9_of 174 = .ok (.getfield 12, 3) := by decide +kernel
theorem dX9_of_177 : decode cX9_of 177 = .ok (.getfield 77, 3) := by decide +kernel
theorem dX9_of_180 : decode cX9_of 180 = .ok (.getfield 162, 3) := by decide +kernel
theorem dX9_of_183 : decode cX9_of 183 = .ok (.iload_n 1, 1) := by decide +kernel
theorem dX9_of_184 : decode cX9_of 184 = .ok (.iaload, 1) := by decide +kernel
theorem dX9_of_185 : decode cX9_of 185 = .ok (.ireturn, 1) := by decide +kernel
theorem dX9_of_186 : decode cX9_of 186 = .ok (.aload_n 0, 1) := by decide +kernel
theorem dX9_of_187 : decode cX9_of 187 = .ok (.getfield 12, 3) := by decide +kernel
theorem dX9_of_190 : decode cX9_of 190 = .ok (.getfield 67, 3) := by decide +kernel
theorem dX9_of_193 : decode cX9_of 193 = .ok (.iload_n 1, 1) := by decide +kernel
theorem dX9_of_194 : decode cX9_of 194 = .ok (.invokevirtual 219, 3) := by decide +kernel
theorem dX9_of_197 : decode cX9_of 197 = .ok (.ireturn, 1) := by decide +kernel
theorem dX9_of_198 : decode cX9_of 198 = .ok (.aload_n 0, 1) := by decide +kernel
theorem dX9_of_199 : decode cX9_of 199 = .ok (.getfield 12, 3) := by decide +kernel
theorem dX9_of_202 : decode cX9_of 202 = .ok (.getfield 77, 3) := by decide +kernel
theorem dX9_of_205 : decode cX9_of 205 = .ok (.getfield 222, 3) := by decide +kernel
theorem dX9_of_208 : decode cX9_of 208 = .ok (.iload_n 1, 1) := by decide +kernel
theorem dX9_of_209 : decode cX9_of 209 = .ok (.iaload, 1) := by decide +kernel
theorem dX9_of_210 : decode cX9_of 210 = .ok (.ireturn, 1) := by decide +kernel
theorem dX9_of_211 : decode cX9_of 211 = .ok (.iconst (-1), 1) := by decide +kernel
theorem dX9_of_212 : decode cX9_of 212 = .ok (.ireturn, 1) := by decide +kernel
theorem dX9_step_0 : decode cX9_step 0 = .ok (.aload_n 0, 1) := by decide +kernel
theorem dX9_step_1 : decode cX9_step 1 = .ok (.getfield 12, 3) := by decide +kernel
theorem dX9_step_4 : decode cX9_step 4 = .ok (.getfield 67, 3) := by decide +kernel
theorem dX9_step_7 : decode cX9_step 7 = .ok (.iload_n 1, 1) := by decide +kernel
theorem dX9_step_8 : decode cX9_step 8 = .ok (.invokevirtual 165, 3) := by decide +kernel
theorem dX9_step_11 : decode cX9_step 11 = .ok (.ifCond .eq 31, 3) := by decide +kernel
theorem dX9_step_14 : decode cX9_step 14 = .ok (.iload_n 2, 1) := by decide +kernel
theorem dX9_step_15 : decode cX9_step 15 = .ok (.iconst 0, 1) := by decide +kernel
theorem dX9_step_16 : decode cX9_step 16 = .ok (.aload_n 0, 1) := by decide +kernel
theorem dX9_step_17 : decode cX9_step 17 = .ok (.getfield 12, 3) := by decide +kernel
theorem dX9_step_20 : decode cX9_step 20 = .ok (.getfield 67, 3) := by decide +kernel
theorem dX9_step_23 : decode cX9_step 23 = .ok (.getfield 152, 3) := by decide +kernel
theorem dX9_step_26 : decode cX9_step 26 = .ok (.iload_n 1, 1) := by decide +kernel
theorem dX9_step_27 : decode cX9_step 27 = .ok (.aaload, 1) := by decide +kernel
theorem dX9_step_28 : decode cX9_step 28 = .ok (.getfield 168, 3) := by decide +kernel
theorem dX9_step_31 : decode cX9_step 31 = .ok (.getfield 145, 3) := by decide +kernel
theorem dX9_step_34 : decode cX9_step 34 = .ok (.iconst 1, 1) := by decide +kernel
theorem dX9_step_35 : decode cX9_step 35 = .ok (.isub, 1) := by decide +kernel
theorem dX9_step_36 : decode cX9_step 36 = .ok (.invokestatic 44, 3) := by decide +kernel
theorem dX9_step_39 : decode cX9_step 39 = .ok (.ifCond .ne 7, 3) := by decide +kernel
theorem dX9_step_42 : decode cX9_step 42 = .ok (.sipush (-10000), 3) := by decide +kernel
theorem dX9_step_45 : decode cX9_step 45 = .ok (.ireturn, 1) := by decide +kernel
theorem dX9_step_46 : decode cX9_step 46 = .ok (.aload_n 0, 1) := by decide +kernel
theorem dX9_step_47 : decode cX9_step 47 = .ok (.getfield 12, 3) := by decide +kernel
theorem dX9_step_50 : decode cX9_step 50 = .ok (.getfield 67, 3) := by decide +kernel
theorem dX9_step_53 : decode cX9_step 53 = .ok (.getfield 152, 3) := by decide +kernel
theorem dX9_step_56 : decode cX9_step 56 = .ok (.iload_n 1, 1) := by decide +kernel
theorem dX9_step_57 : decode cX9_step 57 = .ok (.aaload, 1) := by decide +kernel
theorem dX9_step_58 : decode cX9_step 58 = .ok (.getfield 168, 3) := by decide +kernel
theorem dX9_step_61 : decode cX9_step 61 = .ok (.astore 4, 2) := by decide +kernel
theorem dX9_step_63 : decode cX9_step 63 = .ok (.iload_n 3, 1) := by decide +kernel
theorem dX9_step_64 : decode cX9_step 64 = .ok (.tableswitch 56 0 2 #[28, 35, 42], 28) := by decide +kernel
theorem dX9_step_92 : decode cX9_step 92 = .ok (.aload 4, 2) := by decide +kernel
theorem dX9_step_94 : decode cX9_step 94 = .ok (.iload_n 2, 1) := by decide +kernel
theorem dX9_step_95 : decode cX9_step 95 = .ok (.invokevirtual 171, 3) := by decide +kernel
theorem dX9_step_98 : decode cX9_step 98 = .ok (.ireturn, 1) := by decide +kernel
theorem dX9_step_99 : decode cX9_step 99 = .ok (.aload 4, 2) := by decide +kernel
theorem dX9_step_101 : decode cX9_step 101 = .ok (.iload_n 2, 1) := by decide +kernel
theorem dX9_step_102 : decode cX9_step 102 = .ok (.invokevirtual 185, 3) := by decide +kernel
theorem dX9_step_105 : decode cX9_step 105 = .ok (.ireturn, 1) := by decide +kernel
theorem dX9_step_106 : decode cX9_step 106 = .ok (.aload_n 0, 1) := by decide +kernel
theorem dX9_step_107 : decode cX9_step 107 = .ok (.getfield 12, 3) := by decide +kernel
theorem dX9_step_110 : decode cX9_step 110 = .ok (.getfield 48, 3) := by decide +kernel
theorem dX9_step_113 : decode cX9_step 113 = .ok (.aload 4, 2) := by decide +kernel
theorem dX9_step_115 : decode cX9_step 115 = .ok (.iload_n 2, 1) := by decide +kernel
theorem dX9_step_116 : decode cX9_step 116 = .ok (.invokevirtual 225, 3) := by decide +kernel
theorem dX9_step_119 : decode cX9_step 119 = .ok (.ireturn, 1) := by decide +kernel
theorem dX9_step_120 : decode cX9_step 120 = .ok (.sipush (-10000), 3) := by decide +kernel
theorem dX9_step_123 : decode cX9_step 123 = .ok (.ireturn, 1) := by decide +kernel
theorem dX9_rain_0 : decode cX9_rain 0 = .ok (.iload_n 1, 1) := by decide +kernel
theorem dX9_rain_1 : decode cX9_rain 1 = .ok (.iconst (-1), 1) := by decide +kernel
theorem dX9_rain_2 : decode cX9_rain 2 = .ok (.if_icmp .eq 17, 3) := by decide +kernel
theorem dX9_rain_5 : decode cX9_rain 5 = .ok (.aload_n 0, 1) := by decide +kernel
theorem dX9_rain_6 : decode cX9_rain 6 = .ok (.getfield 12, 3) := by decide +kernel
theorem dX9_rain_9 : decode cX9_rain 9 = .ok (.getfield 48, 3) := by decide +kernel
theorem dX9_rain_12 : decode cX9_rain 12 = .ok (.iload_n 1, 1) := by decide +kernel
theorem dX9_rain_13 : decode cX9_rain 13 = .ok (.invokevirtual 102, 3) := by decide +kernel
theorem dX9_rain_16 : decode cX9_rain 16 = .ok (.ifCond .eq 14, 3) := by decide +kernel
theorem dX9_rain_19 : decode cX9_rain 19 = .ok (.iload_n 2, 1) := by decide +kernel
theorem dX9_rain_20 : decode cX9_rain 20 = .ok (.iconst 0, 1) := by decide +kernel
theorem dX9_rain_21 : decode cX9_rain 21 = .ok (.sipush 300, 3) := by decide +kernel
theorem dX9_rain_24 : decode cX9_rain 24 = .ok (.invokestatic 44, 3) := by decide +kernel
theorem dX9_rain_27 : decode cX9_rain 27 = .ok (.ifCond .ne 5, 3) := by decide +kernel
theorem dX9_rain_30 : decode cX9_rain 30 = .ok (.iconst (-1), 1) := by decide +kernel
theorem dX9_rain_31 : decode cX9_rain 31 = .ok (.ireturn, 1) := by decide +kernel
theorem dX9_rain_32 : decode cX9_rain 32 = .ok (.iload_n 1, 1) := by decide +kernel
theorem dX9_rain_33 : decode cX9_rain 33 = .ok (.iconst (-1), 1) := by decide +kernel
theorem dX9_rain_34 : decode cX9_rain 34 = .ok (.if_icmp .ne 17, 3) := by decide +kernel
theorem dX9_rain_37 : decode cX9_rain 37 = .ok (.aload_n 0, 1) := by decide +kernel
theorem dX9_rain_38 : decode cX9_rain 38 = .ok (.getfield 12, 3) := by decide +kernel
theorem dX9_rain_41 : decode cX9_rain 41 = .ok (.getfield 81, 3) := by decide +kernel
theorem dX9_rain_44 : decode cX9_rain 44 = .ok (.iload_n 2, 1) := by decide +kernel
theorem dX9_rain_45 : decode cX9_rain 45 = .ok (.invokestatic 85, 3) := by decide +kernel
theorem dX9_rain_48 : decode cX9_rain 48 = .ok (.goto 13, 3) := by decide +kernel
theorem dX9_rain_51 : decode cX9_rain 51 = .ok (.aload_n 0, 1) := by decide +kernel
theorem dX9_rain_52 : decode cX9_rain 52 = .ok (.getfield 12, 3) := by decide +kernel
theorem dX9_rain_55 : decode cX9_rain 55 = .ok (.getfield 81, 3) := by decide +kernel
theorem dX9_rain_58 : decode cX9_rain 58 = .ok (.iload_n 1, 1) := by decide +kernel
theorem dX9_rain_59 : decode cX9_rain 59 = .ok (.iload_n 2, 1) := by decide +kernel
theorem dX9_rain_60 : decode cX9_rain 60 = .ok (.iastore, 1) := by decide +kernel
theorem dX9_rain_61 : decode cX9_rain 61 = .ok (.iconst 1, 1) := by decide +kernel
theorem dX9_rain_62 : decode cX9_rain 62 = .ok (.ireturn, 1) := by decide +kernel
theorem dX9_hours_0 : decode cX9_hours 0 = .ok (.iload_n 1, 1) := by decide +kernel
theorem dX9_hours_1 : decode cX9_hours 1 = .ok (.iconst 1, 1) := by decide +kernel
theorem dX9_hours_2 : decode cX9_hours 2 = .ok (.bipush 50, 2) := by decide +kernel
theorem dX9_hours_4 : decode cX9_hours 4 = .ok (.invokestatic 44, 3) := by decide +kernel
theorem dX9_hours_7 : decode cX9_hours 7 = .ok (.ifCond .ne 5, 3) := by decide +kernel
theorem dX9_hours_10 : decode cX9_hours 10 = .ok (.iconst (-1), 1) := by decide +kernel
theorem dX9_hours_11 : decode cX9_hours 11 = .ok (.ireturn, 1) := by decide +kernel
theorem dX9_hours_12 : decode cX9_hours 12 = .ok (.aload_n 0, 1) := by decide +kernel
theorem dX9_hours_13 : decode cX9_hours 13 = .ok (.getfield 12, 3) := by decide +kernel
theorem dX9_hours_16 : decode cX9_hours 16 = .ok (.getfield 77, 3) := by decide +kernel
theorem dX9_hours_19 : decode cX9_hours 19 = .ok (.getfield 229, 3) := by decide +kernel
theorem dX9_hours_22 : decode cX9_hours 22 = .ok (.invokestatic 232, 3) := by decide +kernel
theorem dX9_hours_25 : decode cX9_hours 25 = .ok (.istore_n 2, 1) := by decide +kernel
theorem dX9_hours_26 : decode cX9_hours 26 = .ok (.aload_n 0, 1) := by decide +kernel
theorem dX9_hours_27 : decode cX9_hours 27 = .ok (.getfield 29, 3) := by decide +kernel
theorem dX9_hours_30 : decode cX9_hours 30 = .ok (.aload_n 0, 1) := by decide +kernel
theorem dX9_hours_31 : decode cX9_hours 31 = .ok (.getfield 12, 3) := by decide +kernel
theorem dX9_hours_34 : decode cX9_hours 34 = .ok (.getfield 67, 3) := by decide +kernel
theorem dX9_hours_37 : decode cX9_hours 37 = .ok (.invokevirtual 236, 3) := by decide +kernel
theorem dX9_hours_40 : decode cX9_hours 40 = .ok (.iconst 0, 1) := by decide +kernel
theorem dX9_hours_41 : decode cX9_hours 41 = .ok (.istore_n 3, 1) := by decide +kernel
theorem dX9_hours_42 : decode cX9_hours 42 = .ok (.iload_n 3, 1) := by decide +kernel
theorem dX9_hours_43 : decode cX9_hours 43 = .ok (.iload_n 1, 1) := by decide +kernel
theorem dX9_hours_44 : decode cX9_hours 44 = .ok (.if_icmp .ge 27, 3) := by decide +kernel
theorem dX9_hours_47 : decode cX9_hours 47 = .ok (.aload_n 0, 1) := by decide +kernel
theorem dX9_hours_48 : decode cX9_hours 48 = .ok (.getfield 29, 3) := by decide +kernel
theorem dX9_hours_51 : decode cX9_hours 51 = .ok (.aload_n 0, 1) := by decide +kernel
theorem dX9_hours_52 : decode cX9_hours 52 = .ok (.getfield 12, 3) := by decide +kernel
theorem dX9_hours_55 : decode cX9_hours 55 = .ok (.aload_n 0, 1) := by decide +kernel
theorem dX9_hours_56 : decode cX9_hours 56 = .ok (.getfield 12, 3) := by decide +kernel
theorem dX9_hours_59 : decode cX9_hours 59 = .ok (.getfield 77, 3) := by decide +kernel
theorem dX9_hours_62 : decode cX9_hours 62 = .ok (.invokevirtual 240, 3) := by decide +kernel
theorem dX9_hours_65 : decode cX9_hours 65 = .ok (.iinc 3 1, 3) := by decide +kernel
theorem dX9_hours_68 : decode cX9_hours 68 = .ok (.goto (-26), 3) := by decide +kernel
theorem dX9_hours_71 : decode cX9_hours 71 = .ok (.aload_n 0, 1) := by decide +kernel
theorem dX9_hours_72 : decode cX9_hours 72 = .ok (.getfield 12, 3) := by decide +kernel
theorem dX9_hours_75 : decode cX9_hours 75 = .ok (.getfield 77, 3) := by decide +kernel
theorem dX9_hours_78 : decode cX9_hours 78 = .ok (.getfield 229, 3) := by decide +kernel
theorem dX9_hours_81 : decode cX9_hours 81 = .ok (.invokestatic 232, 3) := by decide +kernel
theorem dX9_hours_84 : decode cX9_hours 84 = .ok (.iload_n 2, 1) := by decide +kernel
theorem dX9_hours_85 : decode cX9_hours 85 = .ok (.isub, 1) := by decide +kernel
theorem dX9_hours_86 : decode cX9_hours 86 = .ok (.ireturn, 1) := by decide +kernel
theorem dX9_at_0 : decode cX9_at 0 = .ok (.aload_n 0, 1) := by decide +kernel
theorem dX9_at_1 : decode cX9_at 1 = .ok (.getfield 12, 3) := by decide +kernel
theorem dX9_at_4 : decode cX9_at 4 = .ok (.getfield 48, 3) := by decide +kernel
theorem dX9_at_7 : decode cX9_at 7 = .ok (.iload_n 1, 1) := by decide +kernel
theorem dX9_at_8 : decode cX9_at 8 = .ok (.invokevirtual 102, 3) := by decide +kernel
theorem dX9_at_11 : decode cX9_at 11 = .ok (.ifCond .ne 5, 3) := by decide +kernel
theorem dX9_at_14 : decode cX9_at 14 = .ok (.iconst (-1), 1) := by decide +kernel
theorem dX9_at_15 : decode cX9_at 15 = .ok (.ireturn, 1) := by decide +kernel
theorem dX9_at_16 : decode cX9_at 16 = .ok (.iload_n 2, 1) := by decide +kernel
theorem dX9_at_17 : decode cX9_at 17 = .ok (.tableswitch 118 0 5 #[39, 52, 65, 78, 91, 101], 39) := by decide +kernel
theorem dX9_at_56 : decode cX9_at 56 = .ok (.aload_n 0, 1) := by decide +kernel
theorem dX9_at_57 : decode cX9_at 57 = .ok (.getfield 12, 3) := by decide +kernel
theorem dX9_at_60 : decode cX9_at 60 = .ok (.getfield 48, 3) := by decide +kernel
theorem dX9_at_63 : decode cX9_at 63 = .ok (.getfield 106, 3) := by decide +kernel
theorem dX9_at_66 : decode cX9_at 66 = .ok (.iload_n 1, 1) := by decide +kernel
theorem dX9_at_67 : decode cX9_at 67 = .ok (.iaload, 1) := by decide +kernel
theorem dX9_at_68 : decode cX9_at 68 = .ok (.ireturn, 1) := by decide +kernel
theorem dX9_at_69 : decode cX9_at 69 = .ok (.aload_n 0, 1) := by decide +kernel
theorem dX9_at_70 : decode cX9_at 70 = .ok (.getfield 12, 3) := by decide +kernel
theorem dX9_at_73 : decode cX9_at 73 = .ok (.getfield 48, 3) := by decide +kernel
theorem dX9_at_76 : decode cX9_at 76 = .ok (.getfield 109, 3) := by decide +kernel
theorem dX9_at_79 : decode cX9_at 79 = .ok (.iload_n 1, 1) := by decide +kernel
theorem dX9_at_80 : decode cX9_at 80 = .ok (.iaload, 1) := by decide +kernel
theorem dX9_at_81 : decode cX9_at 81 = .ok (.ireturn, 1) := by decide +kernel
theorem dX9_at_82 : decode cX9_at 82 = .ok (.aload_n 0, 1) := by decide +kernel
theorem dX9_at_83 : decode cX9_at 83 = .ok (.getfield 12, 3) := by decide +kernel
theorem dX9_at_86 : decode cX9_at 86 = .ok (.getfield 77, 3) := by decide +kernel
theorem dX9_at_89 : decode cX9_at 89 = .ok (.getfield 244, 3) := by decide +kernel
theorem dX9_at_92 : decode cX9_at 92 = .ok (.iload_n 1, 1) := by decide +kernel
theorem dX9_at_93 : decode cX9_at 93 = .ok (.iaload, 1) := by decide +kernel
theorem dX9_at_94 : decode cX9_at 94 = .ok (.ireturn, 1) := by decide +kernel
theorem dX9_at_95 : decode cX9_at 95 = .ok (.aload_n 0, 1) := by decide +kernel
theorem dX9_at_96 : decode cX9_at 96 = .ok (.getfield 12, 3) := by decide +kernel
theorem dX9_at_99 : decode cX9_at 99 = .ok (.getfield 77, 3) := by decide +kernel
theorem dX9_at_102 : decode cX9_at 102 = .ok (.getfield 247, 3) := by decide +kernel
theorem dX9_at_105 : decode cX9_at 105 = .ok (.iload_n 1, 1) := by decide +kernel
theorem dX9_at_106 : decode cX9_at 106 = .ok (.iaload, 1) := by decide +kernel
theorem dX9_at_107 : decode cX9_at 107 = .ok (.ireturn, 1) := by decide +kernel
theorem dX9_at_108 : decode cX9_at 108 = .ok (.aload_n 0, 1) := by decide +kernel
theorem dX9_at_109 : decode cX9_at 109 = .ok (.getfield 12, 3) := by decide +kernel
theorem dX9_at_112 : decode cX9_at 112 = .ok (.getfield 81, 3) := by decide +kernel
theorem dX9_at_115 : decode cX9_at 115 = .ok (.iload_n 1, 1) := by decide +kernel
theorem dX9_at_116 : decode cX9_at 116 = .ok (.iaload, 1) := by decide +kernel
theorem dX9_at_117 : decode cX9_at 117 = .ok (.ireturn, 1) := by decide +kernel
theorem dX9_at_118 : decode cX9_at 118 = .ok (.aload_n 0, 1) := by decide +kernel
theorem dX9_at_119 : decode cX9_at 119 = .ok (.getfield 12, 3) := by decide +kernel
theorem dX9_at_122 : decode cX9_at 122 = .ok (.iload_n 1, 1) := by decide +kernel
theorem dX9_at_123 : decode cX9_at 123 = .ok (.invokevirtual 250, 3) := by decide +kernel
theorem dX9_at_126 : decode cX9_at 126 = .ok (.ifCond .eq 7, 3) := by decide +kernel
theorem dX9_at_129 : decode cX9_at 129 = .ok (.iconst 1, 1) := by decide +kernel
theorem dX9_at_130 : decode cX9_at 130 = .ok (.goto 4, 3) := by decide +kernel
theorem dX9_at_133 : decode cX9_at 133 = .ok (.iconst 0, 1) := by decide +kernel
theorem dX9_at_134 : decode cX9_at 134 = .ok (.ireturn, 1) := by decide +kernel
theorem dX9_at_135 : decode cX9_at 135 = .ok (.iconst (-1), 1) := by decide +kernel
theorem dX9_at_136 : decode cX9_at 136 = .ok (.ireturn, 1) := by decide +kernel
theorem dX9_all_0 : decode cX9_all 0 = .ok (.iload_n 1, 1) := by decide +kernel
theorem dX9_all_1 : decode cX9_all 1 = .ok (.tableswitch 115 0 7 #[47, 61, 75, 89, 89, 89, 89, 104], 47) := by decide +kernel
theorem dX9_all_48 : decode cX9_all 48 = .ok (.aload_n 0, 1) := by decide +kernel
theorem dX9_all_49 : decode cX9_all 49 = .ok (.getfield 12, 3) := by decide +kernel
theorem dX9_all_52 : decode cX9_all 52 = .ok (.getfield 77, 3) := by decide +kernel
theorem dX9_all_55 : decode cX9_all 55 = .ok (.getfield 244, 3) := by decide +kernel
theorem dX9_all_58 : decode cX9_all 58 = .ok (.invokestatic 232, 3) := by decide +kernel
theorem dX9_all_61 : decode cX9_all 61 = .ok (.ireturn, 1) := by decide +kernel
theorem dX9_all_62 : decode cX9_all 62 = .ok (.aload_n 0, 1) := by decide +kernel
theorem dX9_all_63 : decode cX9_all 63 = .ok (.getfield 12, 3) := by decide +kernel
theorem dX9_all_66 : decode cX9_all 66 = .ok (.getfield 77, 3) := by decide +kernel
theorem dX9_all_69 : decode cX9_all 69 = .ok (.getfield 247, 3) := by decide +kernel
theorem dX9_all_72 : decode cX9_all 72 = .ok (.invokestatic 232, 3) := by decide +kernel
theorem dX9_all_75 : decode cX9_all 75 = .ok (.ireturn, 1) := by decide +kernel
theorem dX9_all_76 : decode cX9_all 76 = .ok (.aload_n 0, 1) := by decide +kernel
theorem dX9_all_77 : decode cX9_all 77 = .ok (.getfield 12, 3) := by decide +kernel
theorem dX9_all_80 : decode cX9_all 80 = .ok (.getfield 77, 3) := by decide +kernel
theorem dX9_all_83 : decode cX9_all 83 = .ok (.getfield 216, 3) := by decide +kernel
theorem dX9_all_86 : decode cX9_all 86 = .ok (.invokestatic 232, 3) := by decide +kernel
theorem dX9_all_89 : decode cX9_all 89 = .ok (.ireturn, 1) := by decide +kernel
theorem dX9_all_90 : decode cX9_all 90 = .ok (.aload_n 0, 1) := by decide +kernel
theorem dX9_all_91 : decode cX9_all 91 = .ok (.getfield 12, 3) := by decide +kernel
theorem dX9_all_94 : decode cX9_all 94 = .ok (.getfield 77, 3) := by decide +kernel
theorem dX9_all_97 : decode cX9_all 97 = .ok (.getfield 229, 3) := by decide +kernel
theorem dX9_all_100 : decode cX9_all 100 = .ok (.iload_n 1, 1) := by decide +kernel
theorem dX9_all_101 : decode cX9_all 101 = .ok (.iconst 3, 1) := by decide +kernel
theorem dX9_all_102 : decode cX9_all 102 = .ok (.isub, 1) := by decide +kernel
theorem dX9_all_103 : decode cX9_all 103 = .ok (.iaload, 1) := by decide +kernel
theorem dX9_all_104 : decode cX9_all 104 = .ok (.ireturn, 1) := by decide +kernel
theorem dX9_all_105 : decode cX9_all 105 = .ok (.aload_n 0, 1) := by decide +kernel
theorem dX9_all_106 : decode cX9_all 106 = .ok (.getfield 12, 3) := by decide +kernel
theorem dX9_all_109 : decode cX9_all 109 = .ok (.getfield 77, 3) := by decide +kernel
theorem dX9_all_112 : decode cX9_all 112 = .ok (.getfield 253, 3) := by decide +kernel
theorem dX9_all_115 : decode cX9_all 115 = .ok (.ireturn, 1) := by decide +kernel
theorem dX9_all_116 : decode cX9_all 116 = .ok (.iconst (-1), 1) := by decide +kernel
theorem dX9_all_117 : decode cX9_all 117 = .ok (.ireturn, 1) := by decide +kernel
theorem dX9_many_0 : decode cX9_many 0 = .ok (.iload_n 1, 1) := by decide +kernel
theorem dX9_many_1 : decode cX9_many 1 = .ok (.tableswitch 120 0 6 #[43, 54, 65, 76, 84, 95, 106], 43) := by decide +kernel
theorem dX9_many_44 : decode cX9_many 44 = .ok (.aload_n 0, 1) := by decide +kernel
theorem dX9_many_45 : decode cX9_many 45 = .ok (.getfield 12, 3) := by decide +kernel
theorem dX9_many_48 : decode cX9_many 48 = .ok (.getfield 48, 3) := by decide +kernel
theorem dX9_many_51 : decode cX9_many 51 = .ok (.getfield 99, 3) := by decide +kernel
theorem dX9_many_54 : decode cX9_many 54 = .ok (.ireturn, 1) := by decide +kernel
theorem dX9_many_55 : decode cX9_many 55 = .ok (.aload_n 0, 1) := by decide +kernel
theorem dX9_many_56 : decode cX9_many 56 = .ok (.getfield 12, 3) := by decide +kernel
theorem dX9_many_59 : decode cX9_many 59 = .ok (.getfield 67, 3) := by decide +kernel
theorem dX9_many_62 : decode cX9_many 62 = .ok (.getfield 71, 3) := by decide +kernel
theorem dX9_many_65 : decode cX9_many 65 = .ok (.ireturn, 1) := by decide +kernel
theorem dX9_many_66 : decode cX9_many 66 = .ok (.aload_n 0, 1) := by decide +kernel
theorem dX9_many_67 : decode cX9_many 67 = .ok (.getfield 12, 3) := by decide +kernel
theorem dX9_many_70 : decode cX9_many 70 = .ok (.getfield 77, 3) := by decide +kernel
theorem dX9_many_73 : decode cX9_many 73 = .ok (.getfield 256, 3) := by decide +kernel
theorem dX9_many_76 : decode cX9_many 76 = .ok (.ireturn, 1) := by decide +kernel
theorem dX9_many_77 : decode cX9_many 77 = .ok (.aload_n 0, 1) := by decide +kernel
theorem dX9_many_78 : decode cX9_many 78 = .ok (.getfield 12, 3) := by decide +kernel
theorem dX9_many_81 : decode cX9_many 81 = .ok (.invokevirtual 259, 3) := by decide +kernel
theorem dX9_many_84 : decode cX9_many 84 = .ok (.ireturn, 1) := by decide +kernel
theorem dX9_many_85 : decode cX9_many 85 = .ok (.aload_n 0, 1) := by decide +kernel
theorem dX9_many_86 : decode cX9_many 86 = .ok (.getfield 12, 3) := by decide +kernel
theorem dX9_many_89 : decode cX9_many 89 = .ok (.getfield 89, 3) := by decide +kernel
theorem dX9_many_92 : decode cX9_many 92 = .ok (.invokevirtual 263, 3) := by decide +kernel
theorem dX9_many_95 : decode cX9_many 95 = .ok (.ireturn, 1) := by decide +kernel
theorem dX9_many_96 : decode cX9_many 96 = .ok (.aload_n 0, 1) := by decide +kernel
theorem dX9_many_97 : decode cX9_many 97 = .ok (.getfield 12, 3) := by decide +kernel
theorem dX9_many_100 : decode cX9_many 100 = .ok (.getfield 96, 3) := by decide +kernel
theorem dX9_many_103 : decode cX9_many 103 = .ok (.invokevirtual 263, 3) := by decide +kernel
theorem dX9_many_106 : decode cX9_many 106 = .ok (.ireturn, 1) := by decide +kernel
theorem dX9_many_107 : decode cX9_many 107 = .ok (.aload_n 0, 1) := by decide +kernel
theorem dX9_many_108 : decode cX9_many 108 = .ok (.getfield 12, 3) := by decide +kernel
theorem dX9_many_111 : decode cX9_many 111 = .ok (.getfield 77, 3) := by decide +kernel
theorem dX9_many_114 : decode cX9_many 114 = .ok (.getfield 197, 3) := by decide +kernel
theorem dX9_many_117 : decode cX9_many 117 = .ok (.invokevirtual 263, 3) := by decide +kernel
theorem dX9_many_120 : decode cX9_many 120 = .ok (.ireturn, 1) := by decide +kernel
theorem dX9_many_121 : decode cX9_many 121 = .ok (.iconst (-1), 1) := by decide +kernel
theorem dX9_many_122 : decode cX9_many 122 = .ok (.ireturn, 1) := by decide +kernel
theorem dX9_dry_0 : decode cX9_dry 0 = .ok (.iload_n 1, 1) := by decide +kernel
theorem dX9_dry_1 : decode cX9_dry 1 = .ok (.istore_n 2, 1) := by decide +kernel
theorem dX9_dry_2 : decode cX9_dry 2 = .ok (.iconst 0, 1) := by decide +kernel
theorem dX9_dry_3 : decode cX9_dry 3 = .ok (.istore_n 3, 1) := by decide +kernel
theorem dX9_dry_4 : decode cX9_dry 4 = .ok (.iload_n 3, 1) := by decide +kernel
theorem dX9_dry_5 : decode cX9_dry 5 = .ok (.aload_n 0, 1) := by decide +kernel
theorem dX9_dry_6 : decode cX9_dry 6 = .ok (.getfield 12, 3) := by decide +kernel
theorem dX9_dry_9 : decode cX9_dry 9 = .ok (.getfield 48, 3) := by decide +kernel
theorem dX9_dry_12 : decode cX9_dry 12 = .ok (.getfield 99, 3) := by decide +kernel
theorem dX9_dry_15 : decode cX9_dry 15 = .ok (.if_icmp .ge 29, 3) := by decide +kernel
theorem dX9_dry_18 : decode cX9_dry 18 = .ok (.aload_n 0, 1) := by decide +kernel
theorem dX9_dry_19 : decode cX9_dry 19 = .ok (.getfield 12, 3) := by decide +kernel
theorem dX9_dry_22 : decode cX9_dry 22 = .ok (.iload_n 3, 1) := by decide +kernel
theorem dX9_dry_23 : decode cX9_dry 23 = .ok (.invokevirtual 250, 3) := by decide +kernel
theorem dX9_dry_26 : decode cX9_dry 26 = .ok (.ifCond .ne 12, 3) := by decide +kernel
theorem dX9_dry_29 : decode cX9_dry 29 = .ok (.iload_n 2, 1) := by decide +kernel
theorem dX9_dry_30 : decode cX9_dry 30 = .ok (.ifCond .ne 5, 3) := by decide +kernel
theorem dX9_dry_33 : decode cX9_dry 33 = .ok (.iload_n 3, 1) := by decide +kernel
theorem dX9_dry_34 : decode cX9_dry 34 = .ok (.ireturn, 1) := by decide +kernel
theorem dX9_dry_35 : decode cX9_dry 35 = .ok (.iinc 2 (-1), 3) := by decide +kernel
theorem dX9_dry_38 : decode cX9_dry 38 = .ok (.iinc 3 1, 3) := by decide +kernel
theorem dX9_dry_41 : decode cX9_dry 41 = .ok (.goto (-37), 3) := by decide +kernel
theorem dX9_dry_44 : decode cX9_dry 44 = .ok (.bipush (-6), 2) := by decide +kernel
theorem dX9_dry_46 : decode cX9_dry 46 = .ok (.ireturn, 1) := by decide +kernel
theorem dX9_mark_0 : decode cX9_mark 0 = .ok (.aload_n 0, 1) := by decide +kernel
theorem dX9_mark_1 : decode cX9_mark 1 = .ok (.getfield 12, 3) := by decide +kernel
theorem dX9_mark_4 : decode cX9_mark 4 = .ok (.getfield 48, 3) := by decide +kernel
theorem dX9_mark_7 : decode cX9_mark 7 = .ok (.iload_n 1, 1) := by decide +kernel
theorem dX9_mark_8 : decode cX9_mark 8 = .ok (.invokevirtual 102, 3) := by decide +kernel
theorem dX9_mark_11 : decode cX9_mark 11 = .ok (.ifCond .eq 18, 3) := by decide +kernel
theorem dX9_mark_14 : decode cX9_mark 14 = .ok (.aload_n 0, 1) := by decide +kernel
theorem dX9_mark_15 : decode cX9_mark 15 = .ok (.getfield 12, 3) := by decide +kernel
theorem dX9_mark_18 : decode cX9_mark 18 = .ok (.getfield 89, 3) := by decide +kernel
theorem dX9_mark_21 : decode cX9_mark 21 = .ok (.iload_n 1, 1) := by decide +kernel
theorem dX9_mark_22 : decode cX9_mark 22 = .ok (.iload_n 2, 1) := by decide +kernel
theorem dX9_mark_23 : decode cX9_mark 23 = .ok (.invokevirtual 200, 3) := by decide +kernel
theorem dX9_mark_26 : decode cX9_mark 26 = .ok (.goto 4, 3) := by decide +kernel
theorem dX9_mark_29 : decode cX9_mark 29 = .ok (.iconst (-1), 1) := by decide +kernel
theorem dX9_mark_30 : decode cX9_mark 30 = .ok (.ireturn, 1) := by decide +kernel
theorem dX9_tree_0 : decode cX9_tree 0 = .ok (.aload_n 0, 1) := by decide +kernel
theorem dX9_tree_1 : decode cX9_tree 1 = .ok (.getfield 36, 3) := by decide +kernel
theorem dX9_tree_4 : decode cX9_tree 4 = .ok (.aload_n 0, 1) := by decide +kernel
theorem dX9_tree_5 : decode cX9_tree 5 = .ok (.getfield 12, 3) := by decide +kernel
theorem dX9_tree_8 : decode cX9_tree 8 = .ok (.getfield 48, 3) := by decide +kernel
theorem dX9_tree_11 : decode cX9_tree 11 = .ok (.aload_n 0, 1) := by decide +kernel
theorem dX9_tree_12 : decode cX9_tree 12 = .ok (.getfield 12, 3) := by decide +kernel
theorem dX9_tree_15 : decode cX9_tree 15 = .ok (.getfield 89, 3) := by decide +kernel
theorem dX9_tree_18 : decode cX9_tree 18 = .ok (.invokevirtual 266, 3) := by decide +kernel
theorem dX9_tree_21 : decode cX9_tree 21 = .ok (.aload_n 0, 1) := by decide +kernel
theorem dX9_tree_22 : decode cX9_tree 22 = .ok (.getfield 36, 3) := by decide +kernel
theorem dX9_tree_25 : decode cX9_tree 25 = .ok (.getfield 270, 3) := by decide +kernel
theorem dX9_tree_28 : decode cX9_tree 28 = .ok (.ireturn, 1) := by decide +kernel
theorem dX9_pair_0 : decode cX9_pair 0 = .ok (.aload_n 0, 1) := by decide +kernel
theorem dX9_pair_1 : decode cX9_pair 1 = .ok (.getfield 36, 3) := by decide +kernel
theorem dX9_pair_4 : decode cX9_pair 4 = .ok (.aload_n 0, 1) := by decide +kernel
theorem dX9_pair_5 : decode cX9_pair 5 = .ok (.getfield 12, 3) := by decide +kernel
theorem dX9_pair_8 : decode cX9_pair 8 = .ok (.getfield 48, 3) := by decide +kernel
theorem dX9_pair_11 : decode cX9_pair 11 = .ok (.aload_n 0, 1) := by decide +kernel
theorem dX9_pair_12 : decode cX9_pair 12 = .ok (.getfield 12, 3) := by decide +kernel
theorem dX9_pair_15 : decode cX9_pair 15 = .ok (.getfield 89, 3) := by decide +kernel
theorem dX9_pair_18 : decode cX9_pair 18 = .ok (.invokevirtual 266, 3) := by decide +kernel
theorem dX9_pair_21 : decode cX9_pair 21 = .ok (.iload_n 1, 1) := by decide +kernel
theorem dX9_pair_22 : decode cX9_pair 22 = .ok (.iconst 0, 1) := by decide +kernel
theorem dX9_pair_23 : decode cX9_pair 23 = .ok (.aload_n 0, 1) := by decide +kernel
theorem dX9_pair_24 : decode cX9_pair 24 = .ok (.getfield 36, 3) := by decide +kernel
theorem dX9_pair_27 : decode cX9_pair 27 = .ok (.getfield 273, 3) := by decide +kernel
theorem dX9_pair_30 : decode cX9_pair 30 = .ok (.iconst 1, 1) := by decide +kernel
theorem dX9_pair_31 : decode cX9_pair 31 = .ok (.isub, 1) := by decide +kernel
theorem dX9_pair_32 : decode cX9_pair 32 = .ok (.invokestatic 44, 3) := by decide +kernel
theorem dX9_pair_35 : decode cX9_pair 35 = .ok (.ifCond .eq 15, 3) := by decide +kernel
theorem dX9_pair_38 : decode cX9_pair 38 = .ok (.aload_n 0, 1) := by decide +kernel
theorem dX9_pair_39 : decode cX9_pair 39 = .ok (.getfield 36, 3) := by decide +kernel
theorem dX9_pair_42 : decode cX9_pair 42 = .ok (.getfield 274, 3) := by decide +kernel
theorem dX9_pair_45 : decode cX9_pair 45 = .ok (.iload_n 1, 1) := by decide +kernel
theorem dX9_pair_46 : decode cX9_pair 46 = .ok (.iaload, 1) := by decide +kernel
theorem dX9_pair_47 : decode cX9_pair 47 = .ok (.goto 5, 3) := by decide +kernel
theorem dX9_pair_50 : decode cX9_pair 50 = .ok (.bipush (-6), 2) := by decide +kernel
theorem dX9_pair_52 : decode cX9_pair 52 = .ok (.ireturn, 1) := by decide +kernel
theorem dX9_sight_0 : decode cX9_sight 0 = .ok (.aload_n 0, 1) := by decide +kernel
theorem dX9_sight_1 : decode cX9_sight 1 = .ok (.getfield 12, 3) := by decide +kernel
theorem dX9_sight_4 : decode cX9_sight 4 = .ok (.getfield 48, 3) := by decide +kernel
theorem dX9_sight_7 : decode cX9_sight 7 = .ok (.iload_n 1, 1) := by decide +kernel
theorem dX9_sight_8 : decode cX9_sight 8 = .ok (.invokevirtual 102, 3) := by decide +kernel
theorem dX9_sight_11 : decode cX9_sight 11 = .ok (.ifCond .eq 18, 3) := by decide +kernel
theorem dX9_sight_14 : decode cX9_sight 14 = .ok (.aload_n 0, 1) := by decide +kernel
theorem dX9_sight_15 : decode cX9_sight 15 = .ok (.getfield 12, 3) := by decide +kernel
theorem dX9_sight_18 : decode cX9_sight 18 = .ok (.getfield 96, 3) := by decide +kernel
theorem dX9_sight_21 : decode cX9_sight 21 = .ok (.iload_n 1, 1) := by decide +kernel
theorem dX9_sight_22 : decode cX9_sight 22 = .ok (.iload_n 2, 1) := by decide +kernel
theorem dX9_sight_23 : decode cX9_sight 23 = .ok (.invokevirtual 200, 3) := by decide +kernel
theorem dX9_sight_26 : decode cX9_sight 26 = .ok (.goto 4, 3) := by decide +kernel
theorem dX9_sight_29 : decode cX9_sight 29 = .ok (.iconst (-1), 1) := by decide +kernel
theorem dX9_sight_30 : decode cX9_sight 30 = .ok (.ireturn, 1) := by decide +kernel
theorem dX9_see_0 : decode cX9_see 0 = .ok (.aload_n 0, 1) := by decide +kernel
theorem dX9_see_1 : decode cX9_see 1 = .ok (.getfield 12, 3) := by decide +kernel
theorem dX9_see_4 : decode cX9_see 4 = .ok (.getfield 77, 3) := by decide +kernel
theorem dX9_see_7 : decode cX9_see 7 = .ok (.aload_n 0, 1) := by decide +kernel
theorem dX9_see_8 : decode cX9_see 8 = .ok (.getfield 12, 3) := by decide +kernel
theorem dX9_see_11 : decode cX9_see 11 = .ok (.getfield 96, 3) := by decide +kernel
theorem dX9_see_14 : decode cX9_see 14 = .ok (.invokevirtual 277, 3) := by decide +kernel
theorem dX9_see_17 : decode cX9_see 17 = .ok (.aload_n 0, 1) := by decide +kernel
theorem dX9_see_18 : decode cX9_see 18 = .ok (.getfield 12, 3) := by decide +kernel
theorem dX9_see_21 : decode cX9_see 21 = .ok (.getfield 96, 3) := by decide +kernel
theorem dX9_see_24 : decode cX9_see 24 = .ok (.invokevirtual 263, 3) := by decide +kernel
theorem dX9_see_27 : decode cX9_see 27 = .ok (.ireturn, 1) := by decide +kernel
theorem dX9_where_0 : decode cX9_where 0 = .ok (.iload_n 1, 1) := by decide +kernel
theorem dX9_where_1 : decode cX9_where 1 = .ok (.iconst 1, 1) := by decide +kernel
theorem dX9_where_2 : decode cX9_where 2 = .ok (.bipush 20, 2) := by decide +kernel
theorem dX9_where_4 : decode cX9_where 4 = .ok (.invokestatic 44, 3) := by decide +kernel
theorem dX9_where_7 : decode cX9_where 7 = .ok (.ifCond .eq 7, 3) := by decide +kernel
theorem dX9_where_10 : decode cX9_where 10 = .ok (.iload_n 2, 1) := by decide +kernel
theorem dX9_where_11 : decode cX9_where 11 = .ok (.ifCond .ge 5, 3) := by decide +kernel
theorem dX9_where_14 : decode cX9_where 14 = .ok (.iconst (-1), 1) := by decide +kernel
theorem dX9_where_15 : decode cX9_where 15 = .ok (.ireturn, 1) := by decide +kernel
theorem dX9_where_16 : decode cX9_where 16 = .ok (.aload_n 0, 1) := by decide +kernel
theorem dX9_where_17 : decode cX9_where 17 = .ok (.getfield 29, 3) := by decide +kernel
theorem dX9_where_20 : decode cX9_where 20 = .ok (.aload_n 0, 1) := by decide +kernel
theorem dX9_where_21 : decode cX9_where 21 = .ok (.getfield 12, 3) := by decide +kernel
theorem dX9_where_24 : decode cX9_where 24 = .ok (.getfield 67, 3) := by decide +kernel
theorem dX9_where_27 : decode cX9_where 27 = .ok (.invokevirtual 236, 3) := by decide +kernel
theorem dX9_where_30 : decode cX9_where 30 = .ok (.iload_n 2, 1) := by decide +kernel
theorem dX9_where_31 : decode cX9_where 31 = .ok (.istore_n 3, 1) := by decide +kernel
theorem dX9_where_32 : decode cX9_where 32 = .ok (.aload_n 0, 1) := by decide +kernel
theorem dX9_where_33 : decode cX9_where 33 = .ok (.iload_n 1, 1) := by decide +kernel
theorem dX9_where_34 : decode cX9_where 34 = .ok (.iconst (-1), 1) := by decide +kernel
theorem dX9_where_35 : decode cX9_where 35 = .ok (.iconst (-1), 1) := by decide +kernel
theorem dX9_where_36 : decode cX9_where 36 = .ok (.invokevirtual 281, 3) := by decide +kernel
theorem dX9_where_39 : decode cX9_where 39 = .ok (.ifCond .eq 14, 3) := by decide +kernel
theorem dX9_where_42 : decode cX9_where 42 = .ok (.iload_n 3, 1) := by decide +kernel
theorem dX9_where_43 : decode cX9_where 43 = .ok (.ifCond .ne 7, 3) := by decide +kernel
theorem dX9_where_46 : decode cX9_where 46 = .ok (.sipush 9999, 3) := by decide +kernel
theorem dX9_where_49 : decode cX9_where 49 = .ok (.ireturn, 1) := by decide +kernel
theorem dX9_where_50 : decode cX9_where 50 = .ok (.iinc 3 (-1), 3) := by decide +kernel
theorem dX9_where_53 : decode cX9_where 53 = .ok (.iconst 0, 1) := by decide +kernel
theorem dX9_where_54 : decode cX9_where 54 = .ok (.istore 4, 2) := by decide +kernel
theorem dX9_where_56 : decode cX9_where 56 = .ok (.iload 4, 2) := by decide +kernel
theorem dX9_where_58 : decode cX9_where 58 = .ok (.aload_n 0, 1) := by decide +kernel
theorem dX9_where_59 : decode cX9_where 59 = .ok (.getfield 12, 3) := by decide +kernel
theorem dX9_where_62 : decode cX9_where 62 = .ok (.getfield 67, 3) := by decide +kernel
theorem dX9_where_65 : decode cX9_where 65 = .ok (.getfield 71, 3) := by decide +kernel
theorem dX9_where_68 : decode cX9_where 68 = .ok (.if_icmp .ge 29, 3) := by decide +kernel
theorem dX9_where_71 : decode cX9_where 71 = .ok (.aload_n 0, 1) := by decide +kernel
theorem dX9_where_72 : decode cX9_where 72 = .ok (.iload_n 1, 1) := by decide +kernel
theorem dX9_where_73 : decode cX9_where 73 = .ok (.iload 4, 2) := by decide +kernel
theorem dX9_where_75 : decode cX9_where 75 = .ok (.invokevirtual 284, 3) := by decide +kernel
theorem dX9_where_78 : decode cX9_where 78 = .ok (.ifCond .eq 13, 3) := by decide +kernel
theorem dX9_where_81 : decode cX9_where 81 = .ok (.iload_n 3, 1) := by decide +kernel
theorem dX9_where_82 : decode cX9_where 82 = .ok (.ifCond .ne 6, 3) := by decide +kernel
theorem dX9_where_85 : decode cX9_where 85 = .ok (.iload 4, 2) := by decide +kernel
theorem dX9_where_87 : decode cX9_where 87 = .ok (.ireturn, 1) := by decide +kernel
theorem dX9_where_88 : decode cX9_where 88 = .ok (.iinc 3 (-1), 3) := by decide +kernel
theorem dX9_where_91 : decode cX9_where 91 = .ok (.iinc 4 1, 3) := by decide +kernel
theorem dX9_where_94 : decode cX9_where 94 = .ok (.goto (-38), 3) := by decide +kernel
theorem dX9_where_97 : decode cX9_where 97 = .ok (.aload_n 0, 1) := by decide +kernel
theorem dX9_where_98 : decode cX9_where 98 = .ok (.iload_n 1, 1) := by decide +kernel
theorem dX9_where_99 : decode cX9_where 99 = .ok (.iload_n 3, 1) := by decide +kernel
theorem dX9_where_100 : decode cX9_where 100 = .ok (.invokevirtual 287, 3) := by decide +kernel
theorem dX9_where_103 : decode cX9_where 103 = .ok (.ireturn, 1) := by decide +kernel
theorem dX9_pairWhere_0 : decode cX9_pairWhere 0 = .ok (.iload_n 2, 1) := by decide +kernel
theorem dX9_pairWhere_1 : decode cX9_pairWhere 1 = .ok (.istore_n 3, 1) := by decide +kernel
theorem dX9_pairWhere_2 : decode cX9_pairWhere 2 = .ok (.iconst 0, 1) := by decide +kernel
theorem dX9_pairWhere_3 : decode cX9_pairWhere 3 = .ok (.istore 4, 2) := by decide +kernel
theorem dX9_pairWhere_5 : decode cX9_pairWhere 5 = .ok (.iload 4, 2) := by decide +kernel
theorem dX9_pairWhere_7 : decode cX9_pairWhere 7 = .ok (.aload_n 0, 1) := by decide +kernel
theorem dX9_pairWhere_8 : decode cX9_pairWhere 8 = .ok (.getfield 12, 3) := by decide +kernel
theorem dX9_pairWhere_11 : decode cX9_pairWhere 11 = .ok (.getfield 67, 3) := by decide +kernel
theorem dX9_pairWhere_14 : decode cX9_pairWhere 14 = .ok (.getfield 71, 3) := by decide +kernel
theorem dX9_pairWhere_17 : decode cX9_pairWhere 17 = .ok (.if_icmp .ge 66, 3) := by decide +kernel
theorem dX9_pairWhere_20 : decode cX9_pairWhere 20 = .ok (.iload 4, 2) := by decide +kernel
theorem dX9_pairWhere_22 : decode cX9_pairWhere 22 = .ok (.iconst 1, 1) := by decide +kernel
theorem dX9_pairWhere_23 : decode cX9_pairWhere 23 = .ok (.iadd, 1) := by decide +kernel
theorem dX9_pairWhere_24 : decode cX9_pairWhere 24 = .ok (.istore 5, 2) := by decide +kernel
theorem dX9_pairWhere_26 : decode cX9_pairWhere 26 = .ok (.iload 5, 2) := by decide +kernel
theorem dX9_pairWhere_28 : decode cX9_pairWhere 28 = .ok (.aload_n 0, 1) := by decide +kernel
theorem dX9_pairWhere_29 : decode cX9_pairWhere 29 = .ok (.getfield 12, 3) := by decide +kernel
theorem dX9_pairWhere_32 : decode cX9_pairWhere 32 = .ok (.getfield 67, 3) := by decide +kernel
theorem dX9_pairWhere_35 : decode cX9_pairWhere 35 = .ok (.getfield 71, 3) := by decide +kernel
theorem dX9_pairWhere_38 : decode cX9_pairWhere 38 = .ok (.if_icmp .ge 39, 3) := by decide +kernel
theorem dX9_pairWhere_41 : decode cX9_pairWhere 41 = .ok (.aload_n 0, 1) := by decide +kernel
theorem dX9_pairWhere_42 : decode cX9_pairWhere 42 = .ok (.iload_n 1, 1) := by decide +kernel
theorem dX9_pairWhere_43 : decode cX9_pairWhere 43 = .ok (.iload 4, 2) := by decide +kernel
theorem dX9_pairWhere_45 : decode cX9_pairWhere 45 = .ok (.iload 5, 2) := by decide +kernel
theorem dX9_pairWhere_47 : decode cX9_pairWhere 47 = .ok (.invokevirtual 290, 3) := by decide +kernel
theorem dX9_pairWhere_50 : decode cX9_pairWhere 50 = .ok (.ifCond .eq 21, 3) := by decide +kernel
theorem dX9_pairWhere_53 : decode cX9_pairWhere 53 = .ok (.iload_n 3, 1) := by decide +kernel
theorem dX9_pairWhere_54 : decode cX9_pairWhere 54 = .ok (.ifCond .ne 14, 3) := by decide +kernel
theorem dX9_pairWhere_57 : decode cX9_pairWhere 57 = .ok (.bipush 100, 2) := by decide +kernel
theorem dX9_pairWhere_59 : decode cX9_pairWhere 59 = .ok (.iload 4, 2) := by decide +kernel
theorem dX9_pairWhere_61 : decode cX9_pairWhere 61 = .ok (.iconst 1, 1) := by decide +kernel
theorem dX9_pairWhere_62 : decode cX9_pairWhere 62 = .ok (.iadd, 1) := by decide +kernel
theorem dX9_pairWhere_63 : decode cX9_pairWhere 63 = .ok (.imul, 1) := by decide +kernel
theorem dX9_pairWhere_64 : decode cX9_pairWhere 64 = .ok (.iload 5, 2) := by decide +kernel
theorem dX9_pairWhere_66 : decode cX9_pairWhere 66 = .ok (.iadd, 1) := by decide +kernel
theorem dX9_pairWhere_67 : decode cX9_pairWhere 67 = .ok (.ireturn, 1) := by decide +kernel
theorem dX9_pairWhere_68 : decode cX9_pairWhere 68 = .ok (.iinc 3 (-1), 3) := by decide +kernel
theorem dX9_pairWhere_71 : decode cX9_pairWhere 71 = .ok (.iinc 5 1, 3) := by decide +kernel
theorem dX9_pairWhere_74 : decode cX9_pairWhere 74 = .ok (.goto (-48), 3) := by decide +kernel
theorem dX9_pairWhere_77 : decode cX9_pairWhere 77 = .ok (.iinc 4 1, 3) := by decide +kernel
theorem dX9_pairWhere_80 : decode cX9_pairWhere 80 = .ok (.goto (-75), 3) := by decide +kernel
theorem dX9_pairWhere_83 : decode cX9_pairWhere 83 = .ok (.bipush (-6), 2) := by decide +kernel
theorem dX9_pairWhere_85 : decode cX9_pairWhere 85 = .ok (.ireturn, 1) := by decide +kernel
theorem dX9_fitsAlone_0 : decode cX9_fitsAlone 0 = .ok (.aload_n 0, 1) := by decide +kernel
theorem dX9_fitsAlone_1 : decode cX9_fitsAlone 1 = .ok (.getfield 12, 3) := by decide +kernel
theorem dX9_fitsAlone_4 : decode cX9_fitsAlone 4 = .ok (.getfield 77, 3) := by decide +kernel
theorem dX9_fitsAlone_7 : decode cX9_fitsAlone 7 = .ok (.getfield 197, 3) := by decide +kernel
theorem dX9_fitsAlone_10 : decode cX9_fitsAlone 10 = .ok (.iload_n 2, 1) := by decide +kernel
theorem dX9_fitsAlone_11 : decode cX9_fitsAlone 11 = .ok (.invokevirtual 213, 3) := by decide +kernel
theorem dX9_fitsAlone_14 : decode cX9_fitsAlone 14 = .ok (.ifCond .ne 17, 3) := by decide +kernel
theorem dX9_fitsAlone_17 : decode cX9_fitsAlone 17 = .ok (.aload_n 0, 1) := by decide +kernel
theorem dX9_fitsAlone_18 : decode cX9_fitsAlone 18 = .ok (.iload_n 1, 1) := by decide +kernel
theorem dX9_fitsAlone_19 : decode cX9_fitsAlone 19 = .ok (.iload_n 2, 1) := by decide +kernel
theorem dX9_fitsAlone_20 : decode cX9_fitsAlone 20 = .ok (.iconst (-1), 1) := by decide +kernel
theorem dX9_fitsAlone_21 : decode cX9_fitsAlone 21 = .ok (.invokevirtual 281, 3) := by decide +kernel
theorem dX9_fitsAlone_24 : decode cX9_fitsAlone 24 = .ok (.ifCond .eq 7, 3) := by decide +kernel
theorem dX9_fitsAlone_27 : decode cX9_fitsAlone 27 = .ok (.iconst 1, 1) := by decide +kernel
theorem dX9_fitsAlone_28 : decode cX9_fitsAlone 28 = .ok (.goto 4, 3) := by decide +kernel
theorem dX9_fitsAlone_31 : decode cX9_fitsAlone 31 = .ok (.iconst 0, 1) := by decide +kernel
theorem dX9_fitsAlone_32 : decode cX9_fitsAlone 32 = .ok (.ireturn, 1) := by decide +kernel
theorem dX9_fitsTogether_0 : decode cX9_fitsTogether 0 = .ok (.aload_n 0, 1) := by decide +kernel
theorem dX9_fitsTogether_1 : decode cX9_fitsTogether 1 = .ok (.getfield 12, 3) := by decide +kernel
theorem dX9_fitsTogether_4 : decode cX9_fitsTogether 4 = .ok (.getfield 77, 3) := by decide +kernel
theorem dX9_fitsTogether_7 : decode cX9_fitsTogether 7 = .ok (.getfield 197, 3) := by decide +kernel
theorem dX9_fitsTogether_10 : decode cX9_fitsTogether 10 = .ok (.iload_n 2, 1) := by decide +kernel
theorem dX9_fitsTogether_11 : decode cX9_fitsTogether 11 = .ok (.invokevirtual 213, 3) := by decide +kernel
theorem dX9_fitsTogether_14 : decode cX9_fitsTogether 14 = .ok (.ifCond .ne 34, 3) := by decide +kernel
theorem dX9_fitsTogether_17 : decode cX9_fitsTogether 17 = .ok (.aload_n 0, 1) := by decide +kernel
theorem dX9_fitsTogether_18 : decode cX9_fitsTogether 18 = .ok (.getfield 12, 3) := by decide +kernel
theorem dX9_fitsTogether_21 : decode cX9_fitsTogether 21 = .ok (.getfield 77, 3) := by decide +kernel
theorem dX9_fitsTogether_24 : decode cX9_fitsTogether 24 = .ok (.getfield 197, 3) := by decide +kernel
theorem dX9_fitsTogether_27 : decode cX9_fitsTogether 27 = .ok (.iload_n 3, 1) := by decide +kernel
theorem dX9_fitsTogether_28 : decode cX9_fitsTogether 28 = .ok (.invokevirtual 213, 3) := by decide +kernel
theorem dX9_fitsTogether_31 : decode cX9_fitsTogether 31 = .ok (.ifCond .ne 17, 3) := by decide +kernel
theorem dX9_fitsTogether_34 : decode cX9_fitsTogether 34 = .ok (.aload_n 0, 1) := by decide +kernel
theorem dX9_fitsTogether_35 : decode cX9_fitsTogether 35 = .ok (.iload_n 1, 1) := by decide +kernel
theorem dX9_fitsTogether_36 : decode cX9_fitsTogether 36 = .ok (.iload_n 2, 1) := by decide +kernel
theorem dX9_fitsTogether_37 : decode cX9_fitsTogether 37 = .ok (.iload_n 3, 1) := by decide +kernel
theorem dX9_fitsTogether_38 : decode cX9_fitsTogether 38 = .ok (.invokevirtual 281, 3) := by decide +kernel
theorem dX9_fitsTogether_41 : decode cX9_fitsTogether 41 = .ok (.ifCond .eq 7, 3) := by decide +kernel
theorem dX9_fitsTogether_44 : decode cX9_fitsTogether 44 = .ok (.iconst 1, 1) := by decide +kernel
theorem dX9_fitsTogether_45 : decode cX9_fitsTogether 45 = .ok (.goto 4, 3) := by decide +kernel
theorem dX9_fitsTogether_48 : decode cX9_fitsTogether 48 = .ok (.iconst 0, 1) := by decide +kernel
theorem dX9_fitsTogether_49 : decode cX9_fitsTogether 49 = .ok (.ireturn, 1) := by decide +kernel
theorem dX9_fits_0 : decode cX9_fits 0 = .ok (.aload_n 0, 1) := by decide +kernel
theorem dX9_fits_1 : decode cX9_fits 1 = .ok (.getfield 22, 3) := by decide +kernel
theorem dX9_fits_4 : decode cX9_fits 4 = .ok (.aload_n 0, 1) := by decide +kernel
theorem dX9_fits_5 : decode cX9_fits 5 = .ok (.getfield 12, 3) := by decide +kernel
theorem dX9_fits_8 : decode cX9_fits 8 = .ok (.getfield 77, 3) := by decide +kernel
theorem dX9_fits_11 : decode cX9_fits 11 = .ok (.invokevirtual 293, 3) := by decide +kernel
theorem dX9_fits_14 : decode cX9_fits 14 = .ok (.iload_n 2, 1) := by decide +kernel
theorem dX9_fits_15 : decode cX9_fits 15 = .ok (.iconst (-1), 1) := by decide +kernel
theorem dX9_fits_16 : decode cX9_fits 16 = .ok (.if_icmp .eq 16, 3) := by decide +kernel
theorem dX9_fits_19 : decode cX9_fits 19 = .ok (.aload_n 0, 1) := by decide +kernel
theorem dX9_fits_20 : decode cX9_fits 20 = .ok (.getfield 22, 3) := by decide +kernel
theorem dX9_fits_23 : decode cX9_fits 23 = .ok (.getfield 197, 3) := by decide +kernel
theorem dX9_fits_26 : decode cX9_fits 26 = .ok (.iload_n 2, 1) := by decide +kernel
theorem dX9_fits_27 : decode cX9_fits 27 = .ok (.iconst 1, 1) := by decide +kernel
theorem dX9_fits_28 : decode cX9_fits 28 = .ok (.invokevirtual 200, 3) := by decide +kernel
theorem dX9_fits_31 : decode cX9_fits 31 = .ok (.pop, 1) := by decide +kernel
theorem dX9_fits_32 : decode cX9_fits 32 = .ok (.iload_n 3, 1) := by decide +kernel
theorem dX9_fits_33 : decode cX9_fits 33 = .ok (.iconst (-1), 1) := by decide +kernel
theorem dX9_fits_34 : decode cX9_fits 34 = .ok (.if_icmp .eq 16, 3) := by decide +kernel
theorem dX9_fits_37 : decode cX9_fits 37 = .ok (.aload_n 0, 1) := by decide +kernel
theorem dX9_fits_38 : decode cX9_fits 38 = .ok (.getfield 22, 3) := by decide +kernel
theorem dX9_fits_41 : decode cX9_fits 41 = .ok (.getfield 197, 3) := by decide +kernel
theorem dX9_fits_44 : decode cX9_fits 44 = .ok (.iload_n 3, 1) := by decide +kernel
theorem dX9_fits_45 : decode cX9_fits 45 = .ok (.iconst 1, 1) := by decide +kernel
theorem dX9_fits_46 : decode cX9_fits 46 = .ok (.invokevirtual 200, 3) := by decide +kernel
theorem dX9_fits_49 : decode cX9_fits 49 = .ok (.pop, 1) := by decide +kernel
theorem dX9_fits_50 : decode cX9_fits 50 = .ok (.iconst 0, 1) := by decide +kernel
theorem dX9_fits_51 : decode cX9_fits 51 = .ok (.istore 4, 2) := by decide +kernel
theorem dX9_fits_53 : decode cX9_fits 53 = .ok (.iload 4, 2) := by decide +kernel
theorem dX9_fits_55 : decode cX9_fits 55 = .ok (.iload_n 1, 1) := by decide +kernel
theorem dX9_fits_56 : decode cX9_fits 56 = .ok (.if_icmp .ge 24, 3) := by decide +kernel
theorem dX9_fits_59 : decode cX9_fits 59 = .ok (.aload_n 0, 1) := by decide +kernel
theorem dX9_fits_60 : decode cX9_fits 60 = .ok (.getfield 29, 3) := by decide +kernel
theorem dX9_fits_63 : decode cX9_fits 63 = .ok (.aload_n 0, 1) := by decide +kernel
theorem dX9_fits_64 : decode cX9_fits 64 = .ok (.getfield 12, 3) := by decide +kernel
theorem dX9_fits_67 : decode cX9_fits 67 = .ok (.aload_n 0, 1) := by decide +kernel
theorem dX9_fits_68 : decode cX9_fits 68 = .ok (.getfield 22, 3) := by decide +kernel
theorem dX9_fits_71 : decode cX9_fits 71 = .ok (.invokevirtual 240, 3) := by decide +kernel
theorem dX9_fits_74 : decode cX9_fits 74 = .ok (.iinc 4 1, 3) := by decide +kernel
theorem dX9_fits_77 : decode cX9_fits 77 = .ok (.goto (-24), 3) := by decide +kernel
theorem dX9_fits_80 : decode cX9_fits 80 = .ok (.aload_n 0, 1) := by decide +kernel
theorem dX9_fits_81 : decode cX9_fits 81 = .ok (.getfield 22, 3) := by decide +kernel
theorem dX9_fits_84 : decode cX9_fits 84 = .ok (.aload_n 0, 1) := by decide +kernel
theorem dX9_fits_85 : decode cX9_fits 85 = .ok (.getfield 12, 3) := by decide +kernel
theorem dX9_fits_88 : decode cX9_fits 88 = .ok (.getfield 96, 3) := by decide +kernel
theorem dX9_fits_91 : decode cX9_fits 91 = .ok (.invokevirtual 297, 3) := by decide +kernel
theorem dX9_fits_94 : decode cX9_fits 94 = .ok (.ireturn, 1) := by decide +kernel
theorem dX9_keep_0 : decode cX9_keep 0 = .ok (.aload_n 0, 1) := by decide +kernel
theorem dX9_keep_1 : decode cX9_keep 1 = .ok (.getfield 16, 3) := by decide +kernel
theorem dX9_keep_4 : decode cX9_keep 4 = .ok (.aload_n 0, 1) := by decide +kernel
theorem dX9_keep_5 : decode cX9_keep 5 = .ok (.getfield 12, 3) := by decide +kernel
theorem dX9_keep_8 : decode cX9_keep 8 = .ok (.invokevirtual 301, 3) := by decide +kernel
theorem dX9_keep_11 : decode cX9_keep 11 = .ok (.aload_n 0, 1) := by decide +kernel
theorem dX9_keep_12 : decode cX9_keep 12 = .ok (.iconst 1, 1) := by decide +kernel
theorem dX9_keep_13 : decode cX9_keep 13 = .ok (.putfield 40, 3) := by decide +kernel
theorem dX9_keep_16 : decode cX9_keep 16 = .ok (.iconst 1, 1) := by decide +kernel
theorem dX9_keep_17 : decode cX9_keep 17 = .ok (.ireturn, 1) := by decide +kernel
theorem dX9_back_0 : decode cX9_back 0 = .ok (.aload_n 0, 1) := by decide +kernel
theorem dX9_back_1 : decode cX9_back 1 = .ok (.getfield 40, 3) := by decide +kernel
theorem dX9_back_4 : decode cX9_back 4 = .ok (.ifCond .ne 6, 3) := by decide +kernel
theorem dX9_back_7 : decode cX9_back 7 = .ok (.bipush (-6), 2) := by decide +kernel
theorem dX9_back_9 : decode cX9_back 9 = .ok (.ireturn, 1) := by decide +kernel
theorem dX9_back_10 : decode cX9_back 10 = .ok (.aload_n 0, 1) := by decide +kernel
theorem dX9_back_11 : decode cX9_back 11 = .ok (.getfield 12, 3) := by decide +kernel
theorem dX9_back_14 : decode cX9_back 14 = .ok (.aload_n 0, 1) := by decide +kernel
theorem dX9_back_15 : decode cX9_back 15 = .ok (.getfield 16, 3) := by decide +kernel
theorem dX9_back_18 : decode cX9_back 18 = .ok (.invokevirtual 301, 3) := by decide +kernel
theorem dX9_back_21 : decode cX9_back 21 = .ok (.iconst 1, 1) := by decide +kernel
theorem dX9_back_22 : decode cX9_back 22 = .ok (.ireturn, 1) := by decide +kernel
theorem dX9_isWithin_0 : decode cX9_isWithin 0 = .ok (.iload_n 0, 1) := by decide +kernel
theorem dX9_isWithin_1 : decode cX9_isWithin 1 = .ok (.iload_n 1, 1) := by decide +kernel
theorem dX9_isWithin_2 : decode cX9_isWithin 2 = .ok (.if_icmp .lt 12, 3) := by decide +kernel
theorem dX9_isWithin_5 : decode cX9_isWithin 5 = .ok (.iload_n 0, 1) := by decide +kernel
theorem dX9_isWithin_6 : decode cX9_isWithin 6 = .ok (.iload_n 2, 1) := by decide +kernel
theorem dX9_isWithin_7 : decode cX9_isWithin 7 = .ok (.if_icmp .gt 7, 3) := by decide +kernel
theorem dX9_isWithin_10 : decode cX9_isWithin 10 = .ok (.iconst 1, 1) := by decide +kernel
theorem dX9_isWithin_11 : decode cX9_isWithin 11 = .ok (.goto 4, 3) := by decide +kernel
theorem dX9_isWithin_14 : decode cX9_isWithin 14 = .ok (.iconst 0, 1) := by decide +kernel
theorem dX9_isWithin_15 : decode cX9_isWithin 15 = .ok (.ireturn, 1) := by decide +kernel
end
section
theorem dX9_sum_0 : decode cX9_sum 0 = .ok (.iconst 0, 1) := by decide +kernel
theorem dX9_sum_1 : decode cX9_sum 1 = .ok (.istore_n 1, 1) := by decide +kernel
theorem dX9_sum_2 : decode cX9_sum 2 = .ok (.iconst 0, 1) := by decide +kernel
theorem dX9_sum_3 : decode cX9_sum 3 = .ok (.istore_n 2, 1) := by decide +kernel
theorem dX9_sum_4 : decode cX9_sum 4 = .ok (.iload_n 2, 1) := by decide +kernel
theorem dX9_sum_5 : decode cX9_sum 5 = .ok (.aload_n 0, 1) := by decide +kernel
theorem dX9_sum_6 : decode cX9_sum 6 = .ok (.arraylength, 1) := by decide +kernel
theorem dX9_sum_7 : decode cX9_sum 7 = .ok (.if_icmp .ge 15, 3) := by decide +kernel
theorem dX9_sum_10 : decode cX9_sum 10 = .ok (.iload_n 1, 1) := by decide +kernel
theorem dX9_sum_11 : decode cX9_sum 11 = .ok (.aload_n 0, 1) := by decide +kernel
theorem dX9_sum_12 : decode cX9_sum 12 = .ok (.iload_n 2, 1) := by decide +kernel
theorem dX9_sum_13 : decode cX9_sum 13 = .ok (.iaload, 1) := by decide +kernel
theorem dX9_sum_14 : decode cX9_sum 14 = .ok (.iadd, 1) := by decide +kernel
theorem dX9_sum_15 : decode cX9_sum 15 = .ok (.istore_n 1, 1) := by decide +kernel
theorem dX9_sum_16 : decode cX9_sum 16 = .ok (.iinc 2 1, 3) := by decide +kernel
theorem dX9_sum_19 : decode cX9_sum 19 = .ok (.goto (-15), 3) := by decide +kernel
theorem dX9_sum_22 : decode cX9_sum 22 = .ok (.iload_n 1, 1) := by decide +kernel
theorem dX9_sum_23 : decode cX9_sum 23 = .ok (.ireturn, 1) := by decide +kernel
theorem dX9_fill_0 : decode cX9_fill 0 = .ok (.iconst 0, 1) := by decide +kernel
theorem dX9_fill_1 : decode cX9_fill 1 = .ok (.istore_n 2, 1) := by decide +kernel
theorem dX9_fill_2 : decode cX9_fill 2 = .ok (.iload_n 2, 1) := by decide +kernel
theorem dX9_fill_3 : decode cX9_fill 3 = .ok (.aload_n 0, 1) := by decide +kernel
theorem dX9_fill_4 : decode cX9_fill 4 = .ok (.arraylength, 1) := by decide +kernel
theorem dX9_fill_5 : decode cX9_fill 5 = .ok (.if_icmp .ge 13, 3) := by decide +kernel
theorem dX9_fill_8 : decode cX9_fill 8 = .ok (.aload_n 0, 1) := by decide +kernel
theorem dX9_fill_9 : decode cX9_fill 9 = .ok (.iload_n 2, 1) := by decide +kernel
theorem dX9_fill_10 : decode cX9_fill 10 = .ok (.iload_n 1, 1) := by decide +kernel
theorem dX9_fill_11 : decode cX9_fill 11 = .ok (.iastore, 1) := by decide +kernel
theorem dX9_fill_12 : decode cX9_fill 12 = .ok (.iinc 2 1, 3) := by decide +kernel
theorem dX9_fill_15 : decode cX9_fill 15 = .ok (.goto (-13), 3) := by decide +kernel
theorem dX9_fill_18 : decode cX9_fill 18 = .ok (.return_, 1) := by decide +kernel
theorem dX9_copy_0 : decode cX9_copy 0 = .ok (.aload_n 0, 1) := by decide +kernel
theorem dX9_copy_1 : decode cX9_copy 1 = .ok (.arraylength, 1) := by decide +kernel
theorem dX9_copy_2 : decode cX9_copy 2 = .ok (.aload_n 1, 1) := by decide +kernel
theorem dX9_copy_3 : decode cX9_copy 3 = .ok (.arraylength, 1) := by decide +kernel
theorem dX9_copy_4 : decode cX9_copy 4 = .ok (.invokestatic 304, 3) := by decide +kernel
theorem dX9_copy_7 : decode cX9_copy 7 = .ok (.istore_n 2, 1) := by decide +kernel
theorem dX9_copy_8 : decode cX9_copy 8 = .ok (.iconst 0, 1) := by decide +kernel
theorem dX9_copy_9 : decode cX9_copy 9 = .ok (.istore_n 3, 1) := by decide +kernel
theorem dX9_copy_10 : decode cX9_copy 10 = .ok (.iload_n 3, 1) := by decide +kernel
theorem dX9_copy_11 : decode cX9_copy 11 = .ok (.iload_n 2, 1) := by decide +kernel
theorem dX9_copy_12 : decode cX9_copy 12 = .ok (.if_icmp .ge 15, 3) := by decide +kernel
theorem dX9_copy_15 : decode cX9_copy 15 = .ok (.aload_n 1, 1) := by decide +kernel
theorem dX9_copy_16 : decode cX9_copy 16 = .ok (.iload_n 3, 1) := by decide +kernel
theorem dX9_copy_17 : decode cX9_copy 17 = .ok (.aload_n 0, 1) := by decide +kernel
theorem dX9_copy_18 : decode cX9_copy 18 = .ok (.iload_n 3, 1) := by decide +kernel
theorem dX9_copy_19 : decode cX9_copy 19 = .ok (.iaload, 1) := by decide +kernel
theorem dX9_copy_20 : decode cX9_copy 20 = .ok (.iastore, 1) := by decide +kernel
theorem dX9_copy_21 : decode cX9_copy 21 = .ok (.iinc 3 1, 3) := by decide +kernel
theorem dX9_copy_24 : decode cX9_copy 24 = .ok (.goto (-14), 3) := by decide +kernel
theorem dX9_copy_27 : decode cX9_copy 27 = .ok (.return_, 1) := by decide +kernel
theorem dX10_init_0 : decode cX10_init 0 = .ok (.aload_n 0, 1) := by decide +kernel
theorem dX10_init_1 : decode cX10_init 1 = .ok (.invokespecial 1, 3) := by decide +kernel
theorem dX10_init_4 : decode cX10_init 4 = .ok (.aload_n 0, 1) := by decide +kernel
theorem dX10_init_5 : decode cX10_init 5 = .ok (.sipush 800, 3) := by decide +kernel
theorem dX10_init_8 : decode cX10_init 8 = .ok (.newarray .int, 2) := by decide +kernel
theorem dX10_init_10 : decode cX10_init 10 = .ok (.putfield 7, 3) := by decide +kernel
theorem dX10_init_13 : decode cX10_init 13 = .ok (.aload_n 0, 1) := by decide +kernel
theorem dX10_init_14 : decode cX10_init 14 = .ok (.sipush 800, 3) := by decide +kernel
theorem dX10_init_17 : decode cX10_init 17 = .ok (.newarray .int, 2) := by decide +kernel
theorem dX10_init_19 : decode cX10_init 19 = .ok (.putfield 13, 3) := by decide +kernel
theorem dX10_init_22 : decode cX10_init 22 = .ok (.aload_n 0, 1) := by decide +kernel
theorem dX10_init_23 : decode cX10_init 23 = .ok (.sipush 800, 3) := by decide +kernel
theorem dX10_init_26 : decode cX10_init 26 = .ok (.newarray .int, 2) := by decide +kernel
theorem dX10_init_28 : decode cX10_init 28 = .ok (.putfield 16, 3) := by decide +kernel
theorem dX10_init_31 : decode cX10_init 31 = .ok (.aload_n 0, 1) := by decide +kernel
theorem dX10_init_32 : decode cX10_init 32 = .ok (.bipush 36, 2) := by decide +kernel
theorem dX10_init_34 : decode cX10_init 34 = .ok (.newarray .int, 2) := by decide +kernel
theorem dX10_init_36 : decode cX10_init 36 = .ok (.putfield 19, 3) := by decide +kernel
theorem dX10_init_39 : decode cX10_init 39 = .ok (.aload_n 0, 1) := by decide +kernel
theorem dX10_init_40 : decode cX10_init 40 = .ok (.bipush 36, 2) := by decide +kernel
theorem dX10_init_42 : decode cX10_init 42 = .ok (.newarray .int, 2) := by decide +kernel
theorem dX10_init_44 : decode cX10_init 44 = .ok (.putfield 22, 3) := by decide +kernel
theorem dX10_init_47 : decode cX10_init 47 = .ok (.aload_n 0, 1) := by decide +kernel
theorem dX10_init_48 : decode cX10_init 48 = .ok (.getfield 7, 3) := by decide +kernel
theorem dX10_init_51 : decode cX10_init 51 = .ok (.iconst 0, 1) := by decide +kernel
theorem dX10_init_52 : decode cX10_init 52 = .ok (.iconst 1, 1) := by decide +kernel
theorem dX10_init_53 : decode cX10_init 53 = .ok (.iastore, 1) := by decide +kernel
theorem dX10_init_54 : decode cX10_init 54 = .ok (.aload_n 0, 1) := by decide +kernel
theorem dX10_init_55 : decode cX10_init 55 = .ok (.getfield 7, 3) := by decide +kernel
theorem dX10_init_58 : decode cX10_init 58 = .ok (.iconst 1, 1) := by decide +kernel
theorem dX10_init_59 : decode cX10_init 59 = .ok (.iconst 1, 1) := by decide +kernel
theorem dX10_init_60 : decode cX10_init 60 = .ok (.iastore, 1) := by decide +kernel
theorem dX10_init_61 : decode cX10_init 61 = .ok (.return_, 1) := by decide +kernel
theorem dX10_in_0 : decode cX10_in 0 = .ok (.iload_n 0, 1) := by decide +kernel
theorem dX10_in_1 : decode cX10_in 1 = .ok (.iload_n 1, 1) := by decide +kernel
theorem dX10_in_2 : decode cX10_in 2 = .ok (.if_icmp .lt 12, 3) := by decide +kernel
theorem dX10_in_5 : decode cX10_in 5 = .ok (.iload_n 0, 1) := by decide +kernel
theorem dX10_in_6 : decode cX10_in 6 = .ok (.iload_n 2, 1) := by decide +kernel
theorem dX10_in_7 : decode cX10_in 7 = .ok (.if_icmp .gt 7, 3) := by decide +kernel
theorem dX10_in_10 : decode cX10_in 10 = .ok (.iconst 1, 1) := by decide +kernel
theorem dX10_in_11 : decode cX10_in 11 = .ok (.goto 4, 3) := by decide +kernel
theorem dX10_in_14 : decode cX10_in 14 = .ok (.iconst 0, 1) := by decide +kernel
theorem dX10_in_15 : decode cX10_in 15 = .ok (.ireturn, 1) := by decide +kernel
theorem dX10_places_0 : decode cX10_places 0 = .ok (.aload_n 0, 1) := by decide +kernel
theorem dX10_places_1 : decode cX10_places 1 = .ok (.getfield 7, 3) := by decide +kernel
theorem dX10_places_4 : decode cX10_places 4 = .ok (.iconst 0, 1) := by decide +kernel
theorem dX10_places_5 : decode cX10_places 5 = .ok (.iaload, 1) := by decide +kernel
theorem dX10_places_6 : decode cX10_places 6 = .ok (.aload_n 0, 1) := by decide +kernel
theorem dX10_places_7 : decode cX10_places 7 = .ok (.getfield 7, 3) := by decide +kernel
theorem dX10_places_10 : decode cX10_places 10 = .ok (.iconst 1, 1) := by decide +kernel
theorem dX10_places_11 : decode cX10_places 11 = .ok (.iaload, 1) := by decide +kernel
theorem dX10_places_12 : decode cX10_places 12 = .ok (.imul, 1) := by decide +kernel
theorem dX10_places_13 : decode cX10_places 13 = .ok (.ireturn, 1) := by decide +kernel
theorem dX10_isPlace_0 : decode cX10_isPlace 0 = .ok (.iload_n 1, 1) := by decide +kernel
theorem dX10_isPlace_1 : decode cX10_isPlace 1 = .ok (.iconst 0, 1) := by decide +kernel
theorem dX10_isPlace_2 : decode cX10_isPlace 2 = .ok (.aload_n 0, 1) := by decide +kernel
theorem dX10_isPlace_3 : decode cX10_isPlace 3 = .ok (.invokevirtual 25, 3) := by decide +kernel
theorem dX10_isPlace_6 : decode cX10_isPlace 6 = .ok (.iconst 1, 1) := by decide +kernel
theorem dX10_isPlace_7 : decode cX10_isPlace 7 = .ok (.isub, 1) := by decide +kernel
theorem dX10_isPlace_8 : decode cX10_isPlace 8 = .ok (.invokestatic 29, 3) := by decide +kernel
theorem dX10_isPlace_11 : decode cX10_isPlace 11 = .ok (.ireturn, 1) := by decide +kernel
theorem dX10_isPipe_0 : decode cX10_isPipe 0 = .ok (.iload_n 1, 1) := by decide +kernel
theorem dX10_isPipe_1 : decode cX10_isPipe 1 = .ok (.iconst 0, 1) := by decide +kernel
theorem dX10_isPipe_2 : decode cX10_isPipe 2 = .ok (.aload_n 0, 1) := by decide +kernel
theorem dX10_isPipe_3 : decode cX10_isPipe 3 = .ok (.getfield 7, 3) := by decide +kernel
theorem dX10_isPipe_6 : decode cX10_isPipe 6 = .ok (.bipush 13, 2) := by decide +kernel
theorem dX10_isPipe_8 : decode cX10_isPipe 8 = .ok (.iaload, 1) := by decide +kernel
theorem dX10_isPipe_9 : decode cX10_isPipe 9 = .ok (.iconst 1, 1) := by decide +kernel
theorem dX10_isPipe_10 : decode cX10_isPipe 10 = .ok (.isub, 1) := by decide +kernel
theorem dX10_isPipe_11 : decode cX10_isPipe 11 = .ok (.invokestatic 29, 3) := by decide +kernel
theorem dX10_isPipe_14 : decode cX10_isPipe 14 = .ok (.ireturn, 1) := by decide +kernel
theorem dX10_pipeOf_0 : decode cX10_pipeOf 0 = .ok (.aload_n 0, 1) := by decide +kernel
theorem dX10_pipeOf_1 : decode cX10_pipeOf 1 = .ok (.getfield 7, 3) := by decide +kernel
theorem dX10_pipeOf_4 : decode cX10_pipeOf 4 = .ok (.sipush 400, 3) := by decide +kernel
theorem dX10_pipeOf_7 : decode cX10_pipeOf 7 = .ok (.bipush 20, 2) := by decide +kernel
theorem dX10_pipeOf_9 : decode cX10_pipeOf 9 = .ok (.iload_n 1, 1) := by decide +kernel
theorem dX10_pipeOf_10 : decode cX10_pipeOf 10 = .ok (.imul, 1) := by decide +kernel
theorem dX10_pipeOf_11 : decode cX10_pipeOf 11 = .ok (.iadd, 1) := by decide +kernel
theorem dX10_pipeOf_12 : decode cX10_pipeOf 12 = .ok (.iload_n 2, 1) := by decide +kernel
theorem dX10_pipeOf_13 : decode cX10_pipeOf 13 = .ok (.iadd, 1) := by decide +kernel
theorem dX10_pipeOf_14 : decode cX10_pipeOf 14 = .ok (.iaload, 1) := by decide +kernel
theorem dX10_pipeOf_15 : decode cX10_pipeOf 15 = .ok (.ireturn, 1) := by decide +kernel
theorem dX10_setPipe_0 : decode cX10_setPipe 0 = .ok (.aload_n 0, 1) := by decide +kernel
theorem dX10_setPipe_1 : decode cX10_setPipe 1 = .ok (.getfield 7, 3) := by decide +kernel
theorem dX10_setPipe_4 : decode cX10_setPipe 4 = .ok (.sipush 400, 3) := by decide +kernel
theorem dX10_setPipe_7 : decode cX10_setPipe 7 = .ok (.bipush 20, 2) := by decide +kernel
theorem dX10_setPipe_9 : decode cX10_setPipe 9 = .ok (.iload_n 1, 1) := by decide +kernel
theorem dX10_setPipe_10 : decode cX10_setPipe 10 = .ok (.imul, 1) := by decide +kernel
theorem dX10_setPipe_11 : decode cX10_setPipe 11 = .ok (.iadd, 1) := by decide +kernel
theorem dX10_setPipe_12 : decode cX10_setPipe 12 = .ok (.iload_n 2, 1) := by decide +kernel
theorem dX10_setPipe_13 : decode cX10_setPipe 13 = .ok (.iadd, 1) := by decide +kernel
theorem dX10_setPipe_14 : decode cX10_setPipe 14 = .ok (.iload_n 3, 1) := by decide +kernel
theorem dX10_setPipe_15 : decode cX10_setPipe 15 = .ok (.iastore, 1) := by decide +kernel
theorem dX10_setPipe_16 : decode cX10_setPipe 16 = .ok (.return_, 1) := by decide +kernel
theorem dX10_rowOf_0 : decode cX10_rowOf 0 = .ok (.iload_n 1, 1) := by decide +kernel
theorem dX10_rowOf_1 : decode cX10_rowOf 1 = .ok (.aload_n 0, 1) := by decide +kernel
theorem dX10_rowOf_2 : decode cX10_rowOf 2 = .ok (.getfield 7, 3) := by decide +kernel
theorem dX10_rowOf_5 : decode cX10_rowOf 5 = .ok (.iconst 1, 1) := by decide +kernel
theorem dX10_rowOf_6 : decode cX10_rowOf 6 = .ok (.iaload, 1) := by decide +kernel
theorem dX10_rowOf_7 : decode cX10_rowOf 7 = .ok (.idiv, 1) := by decide +kernel
theorem dX10_rowOf_8 : decode cX10_rowOf 8 = .ok (.ireturn, 1) := by decide +kernel
theorem dX10_columnOf_0 : decode cX10_columnOf 0 = .ok (.iload_n 1, 1) := by decide +kernel
theorem dX10_columnOf_1 : decode cX10_columnOf 1 = .ok (.aload_n 0, 1) := by decide +kernel
theorem dX10_columnOf_2 : decode cX10_columnOf 2 = .ok (.getfield 7, 3) := by decide +kernel
theorem dX10_columnOf_5 : decode cX10_columnOf 5 = .ok (.iconst 1, 1) := by decide +kernel
theorem dX10_columnOf_6 : decode cX10_columnOf 6 = .ok (.iaload, 1) := by decide +kernel
theorem dX10_columnOf_7 : decode cX10_columnOf 7 = .ok (.irem, 1) := by decide +kernel
theorem dX10_columnOf_8 : decode cX10_columnOf 8 = .ok (.ireturn, 1) := by decide +kernel
theorem dX10_size_0 : decode cX10_size 0 = .ok (.iload_n 0, 1) := by decide +kernel
theorem dX10_size_1 : decode cX10_size 1 = .ok (.ifCond .ge 8, 3) := by decide +kernel
theorem dX10_size_4 : decode cX10_size 4 = .ok (.iload_n 0, 1) := by decide +kernel
theorem dX10_size_5 : decode cX10_size 5 = .ok (.ineg, 1) := by decide +kernel
theorem dX10_size_6 : decode cX10_size 6 = .ok (.goto 4, 3) := by decide +kernel
theorem dX10_size_9 : decode cX10_size 9 = .ok (.iload_n 0, 1) := by decide +kernel
theorem dX10_size_10 : decode cX10_size 10 = .ok (.ireturn, 1) := by decide +kernel
theorem dX10_lesser_0 : decode cX10_lesser 0 = .ok (.iload_n 0, 1) := by decide +kernel
theorem dX10_lesser_1 : decode cX10_lesser 1 = .ok (.iload_n 1, 1) := by decide +kernel
theorem dX10_lesser_2 : decode cX10_lesser 2 = .ok (.if_icmp .ge 7, 3) := by decide +kernel
theorem dX10_lesser_5 : decode cX10_lesser 5 = .ok (.iload_n 0, 1) := by decide +kernel
theorem dX10_lesser_6 : decode cX10_lesser 6 = .ok (.goto 4, 3) := by decide +kernel
theorem dX10_lesser_9 : decode cX10_lesser 9 = .ok (.iload_n 1, 1) := by decide +kernel
theorem dX10_lesser_10 : decode cX10_lesser 10 = .ok (.ireturn, 1) := by decide +kernel
theorem dX10_land_0 : decode cX10_land 0 = .ok (.iload_n 1, 1) := by decide +kernel
theorem dX10_land_1 : decode cX10_land 1 = .ok (.iconst 1, 1) := by decide +kernel
theorem dX10_land_2 : decode cX10_land 2 = .ok (.bipush 6, 2) := by decide +kernel
theorem dX10_land_4 : decode cX10_land 4 = .ok (.invokestatic 29, 3) := by decide +kernel
theorem dX10_land_7 : decode cX10_land 7 = .ok (.ifCond .eq 13, 3) := by decide +kernel
theorem dX10_land_10 : decode cX10_land 10 = .ok (.iload_n 2, 1) := by decide +kernel
theorem dX10_land_11 : decode cX10_land 11 = .ok (.iconst 1, 1) := by decide +kernel
theorem dX10_land_12 : decode cX10_land 12 = .ok (.bipush 6, 2) := by decide +kernel
theorem dX10_land_14 : decode cX10_land 14 = .ok (.invokestatic 29, 3) := by decide +kernel
theorem dX10_land_17 : decode cX10_land 17 = .ok (.ifCond .ne 5, 3) := by decide +kernel
theorem dX10_land_20 : decode cX10_land 20 = .ok (.iconst (-1), 1) := by decide +kernel
theorem dX10_land_21 : decode cX10_land 21 = .ok (.ireturn, 1) := by decide +kernel
theorem dX10_land_22 : decode cX10_land 22 = .ok (.iconst 0, 1) := by decide +kernel
theorem dX10_land_23 : decode cX10_land 23 = .ok (.istore_n 3, 1) := by decide +kernel
theorem dX10_land_24 : decode cX10_land 24 = .ok (.iload_n 3, 1) := by decide +kernel
theorem dX10_land_25 : decode cX10_land 25 = .ok (.sipush 800, 3) := by decide +kernel
theorem dX10_land_28 : decode cX10_land 28 = .ok (.if_icmp .ge 39, 3) := by decide +kernel
theorem dX10_land_31 : decode cX10_land 31 = .ok (.aload_n 0, 1) := by decide +kernel
theorem dX10_land_32 : decode cX10_land 32 = .ok (.getfield 7, 3) := by decide +kernel
theorem dX10_land_35 : decode cX10_land 35 = .ok (.iload_n 3, 1) := by decide +kernel
theorem dX10_land_36 : decode cX10_land 36 = .ok (.iload_n 3, 1) := by decide +kernel
theorem dX10_land_37 : decode cX10_land 37 = .ok (.sipush 300, 3) := by decide +kernel
theorem dX10_land_40 : decode cX10_land 40 = .ok (.if_icmp .lt 19, 3) := by decide +kernel
theorem dX10_land_43 : decode cX10_land 43 = .ok (.iload_n 3, 1) := by decide +kernel
theorem dX10_land_44 : decode cX10_land 44 = .ok (.sipush 400, 3) := by decide +kernel
theorem dX10_land_47 : decode cX10_land 47 = .ok (.if_icmp .ge 12, 3) := by decide +kernel
theorem dX10_land_50 : decode cX10_land 50 = .ok (.aload_n 0, 1) := by decide +kernel
theorem dX10_land_51 : decode cX10_land 51 = .ok (.getfield 7, 3) := by decide +kernel
theorem dX10_land_54 : decode cX10_land 54 = .ok (.iload_n 3, 1) := by decide +kernel
theorem dX10_land_55 : decode cX10_land 55 = .ok (.iaload, 1) := by decide +kernel
theorem dX10_land_56 : decode cX10_land 56 = .ok (.goto 4, 3) := by decide +kernel
theorem dX10_land_59 : decode cX10_land 59 = .ok (.iconst 0, 1) := by decide +kernel
theorem dX10_land_60 : decode cX10_land 60 = .ok (.iastore, 1) := by decide +kernel
theorem dX10_land_61 : decode cX10_land 61 = .ok (.iinc 3 1, 3) := by decide +kernel
theorem dX10_land_64 : decode cX10_land 64 = .ok (.goto (-40), 3) := by decide +kernel
theorem dX10_land_67 : decode cX10_land 67 = .ok (.aload_n 0, 1) := by decide +kernel
theorem dX10_land_68 : decode cX10_land 68 = .ok (.getfield 7, 3) := by decide +kernel
theorem dX10_land_71 : decode cX10_land 71 = .ok (.iconst 0, 1) := by decide +kernel
theorem dX10_land_72 : decode cX10_land 72 = .ok (.iload_n 1, 1) := by decide +kernel
theorem dX10_land_73 : decode cX10_land 73 = .ok (.iastore, 1) := by decide +kernel
theorem dX10_land_74 : decode cX10_land 74 = .ok (.aload_n 0, 1) := by decide +kernel
theorem dX10_land_75 : decode cX10_land 75 = .ok (.getfield 7, 3) := by decide +kernel
theorem dX10_land_78 : decode cX10_land 78 = .ok (.iconst 1, 1) := by decide +kernel
theorem dX10_land_79 : decode cX10_land 79 = .ok (.iload_n 2, 1) := by decide +kernel
theorem dX10_land_80 : decode cX10_land 80 = .ok (.iastore, 1) := by decide +kernel
theorem dX10_land_81 : decode cX10_land 81 = .ok (.iconst 0, 1) := by decide +kernel
theorem dX10_land_82 : decode cX10_land 82 = .ok (.istore_n 3, 1) := by decide +kernel
theorem dX10_land_83 : decode cX10_land 83 = .ok (.iload_n 3, 1) := by decide +kernel
theorem dX10_land_84 : decode cX10_land 84 = .ok (.bipush 36, 2) := by decide +kernel
theorem dX10_land_86 : decode cX10_land 86 = .ok (.if_icmp .ge 21, 3) := by decide +kernel
theorem dX10_land_89 : decode cX10_land 89 = .ok (.aload_n 0, 1) := by decide +kernel
theorem dX10_land_90 : decode cX10_land 90 = .ok (.getfield 7, 3) := by decide +kernel
theorem dX10_land_93 : decode cX10_land 93 = .ok (.bipush 20, 2) := by decide +kernel
theorem dX10_land_95 : decode cX10_land 95 = .ok (.iload_n 3, 1) := by decide +kernel
theorem dX10_land_96 : decode cX10_land 96 = .ok (.iadd, 1) := by decide +kernel
theorem dX10_land_97 : decode cX10_land 97 = .ok (.sipush 1000, 3) := by decide +kernel
theorem dX10_land_100 : decode cX10_land 100 = .ok (.iastore, 1) := by decide +kernel
theorem dX10_land_101 : decode cX10_land 101 = .ok (.iinc 3 1, 3) := by decide +kernel
theorem dX10_land_104 : decode cX10_land 104 = .ok (.goto (-21), 3) := by decide +kernel
theorem dX10_land_107 : decode cX10_land 107 = .ok (.iload_n 1, 1) := by decide +kernel
theorem dX10_land_108 : decode cX10_land 108 = .ok (.iload_n 2, 1) := by decide +kernel
theorem dX10_land_109 : decode cX10_land 109 = .ok (.imul, 1) := by decide +kernel
theorem dX10_land_110 : decode cX10_land 110 = .ok (.ireturn, 1) := by decide +kernel
theorem dX10_height_0 : decode cX10_height 0 = .ok (.aload_n 0, 1) := by decide +kernel
theorem dX10_height_1 : decode cX10_height 1 = .ok (.iload_n 1, 1) := by decide +kernel
theorem dX10_height_2 : decode cX10_height 2 = .ok (.invokevirtual 33, 3) := by decide +kernel
theorem dX10_height_5 : decode cX10_height 5 = .ok (.ifCond .eq 14, 3) := by decide +kernel
theorem dX10_height_8 : decode cX10_height 8 = .ok (.iload_n 2, 1) := by decide +kernel
theorem dX10_height_9 : decode cX10_height 9 = .ok (.iconst 0, 1) := by decide +kernel
theorem dX10_height_10 : decode cX10_height 10 = .ok (.sipush 2000, 3) := by decide +kernel
theorem dX10_height_13 : decode cX10_height 13 = .ok (.invokestatic 29, 3) := by decide +kernel
theorem dX10_height_16 : decode cX10_height 16 = .ok (.ifCond .ne 5, 3) := by decide +kernel
theorem dX10_height_19 : decode cX10_height 19 = .ok (.iconst (-1), 1) := by decide +kernel
theorem dX10_height_20 : decode cX10_height 20 = .ok (.ireturn, 1) := by decide +kernel
theorem dX10_height_21 : decode cX10_height 21 = .ok (.aload_n 0, 1) := by decide +kernel
theorem dX10_height_22 : decode cX10_height 22 = .ok (.getfield 7, 3) := by decide +kernel
theorem dX10_height_25 : decode cX10_height 25 = .ok (.bipush 20, 2) := by decide +kernel
theorem dX10_height_27 : decode cX10_height 27 = .ok (.iload_n 1, 1) := by decide +kernel
theorem dX10_height_28 : decode cX10_height 28 = .ok (.iadd, 1) := by decide +kernel
theorem dX10_height_29 : decode cX10_height 29 = .ok (.iload_n 2, 1) := by decide +kernel
theorem dX10_height_30 : decode cX10_height 30 = .ok (.iastore, 1) := by decide +kernel
theorem dX10_height_31 : decode cX10_height 31 = .ok (.iconst 1, 1) := by decide +kernel
theorem dX10_height_32 : decode cX10_height 32 = .ok (.ireturn, 1) := by decide +kernel
theorem dX10_soil_0 : decode cX10_soil 0 = .ok (.aload_n 0, 1) := by decide +kernel
theorem dX10_soil_1 : decode cX10_soil 1 = .ok (.iload_n 1, 1) := by decide +kernel
theorem dX10_soil_2 : decode cX10_soil 2 = .ok (.invokevirtual 33, 3) := by decide +kernel
theorem dX10_soil_5 : decode cX10_soil 5 = .ok (.ifCond .eq 12, 3) := by decide +kernel
theorem dX10_soil_8 : decode cX10_soil 8 = .ok (.iload_n 2, 1) := by decide +kernel
theorem dX10_soil_9 : decode cX10_soil 9 = .ok (.iconst 0, 1) := by decide +kernel
theorem dX10_soil_10 : decode cX10_soil 10 = .ok (.iconst 3, 1) := by decide +kernel
theorem dX10_soil_11 : decode cX10_soil 11 = .ok (.invokestatic 29, 3) := by decide +kernel
theorem dX10_soil_14 : decode cX10_soil 14 = .ok (.ifCond .ne 5, 3) := by decide +kernel
theorem dX10_soil_17 : decode cX10_soil 17 = .ok (.iconst (-1), 1) := by decide +kernel
theorem dX10_soil_18 : decode cX10_soil 18 = .ok (.ireturn, 1) := by decide +kernel
theorem dX10_soil_19 : decode cX10_soil 19 = .ok (.aload_n 0, 1) := by decide +kernel
theorem dX10_soil_20 : decode cX10_soil 20 = .ok (.getfield 7, 3) := by decide +kernel
theorem dX10_soil_23 : decode cX10_soil 23 = .ok (.bipush 60, 2) := by decide +kernel
theorem dX10_soil_25 : decode cX10_soil 25 = .ok (.iload_n 1, 1) := by decide +kernel
theorem dX10_soil_26 : decode cX10_soil 26 = .ok (.iadd, 1) := by decide +kernel
theorem dX10_soil_27 : decode cX10_soil 27 = .ok (.iload_n 2, 1) := by decide +kernel
theorem dX10_soil_28 : decode cX10_soil 28 = .ok (.iastore, 1) := by decide +kernel
theorem dX10_soil_29 : decode cX10_soil 29 = .ok (.iconst 1, 1) := by decide +kernel
theorem dX10_soil_30 : decode cX10_soil 30 = .ok (.ireturn, 1) := by decide +kernel
theorem dX10_soils_0 : decode cX10_soils 0 = .ok (.iload_n 1, 1) := by decide +kernel
theorem dX10_soils_1 : decode cX10_soils 1 = .ok (.iconst 0, 1) := by decide +kernel
theorem dX10_soils_2 : decode cX10_soils 2 = .ok (.iconst 3, 1) := by decide +kernel
theorem dX10_soils_3 : decode cX10_soils 3 = .ok (.invokestatic 29, 3) := by decide +kernel
theorem dX10_soils_6 : decode cX10_soils 6 = .ok (.ifCond .eq 47, 3) := by decide +kernel
theorem dX10_soils_9 : decode cX10_soils 9 = .ok (.iload_n 2, 1) := by decide +kernel
theorem dX10_soils_10 : decode cX10_soils 10 = .ok (.iconst 0, 1) := by decide +kernel
theorem dX10_soils_11 : decode cX10_soils 11 = .ok (.sipush 200, 3) := by decide +kernel
theorem dX10_soils_14 : decode cX10_soils 14 = .ok (.invokestatic 29, 3) := by decide +kernel
theorem dX10_soils_17 : decode cX10_soils 17 = .ok (.ifCond .eq 36, 3) := by decide +kernel
theorem dX10_soils_20 : decode cX10_soils 20 = .ok (.iload_n 3, 1) := by decide +kernel
theorem dX10_soils_21 : decode cX10_soils 21 = .ok (.iconst 0, 1) := by decide +kernel
theorem dX10_soils_22 : decode cX10_soils 22 = .ok (.bipush 100, 2) := by decide +kernel
theorem dX10_soils_24 : decode cX10_soils 24 = .ok (.invokestatic 29, 3) := by decide +kernel
theorem dX10_soils_27 : decode cX10_soils 27 = .ok (.ifCond .eq 26, 3) := by decide +kernel
theorem dX10_soils_30 : decode cX10_soils 30 = .ok (.iload 4, 2) := by decide +kernel
theorem dX10_soils_32 : decode cX10_soils 32 = .ok (.iconst 0, 1) := by decide +kernel
theorem dX10_soils_33 : decode cX10_soils 33 = .ok (.sipush 1000, 3) := by decide +kernel
theorem dX10_soils_36 : decode cX10_soils 36 = .ok (.invokestatic 29, 3) := by decide +kernel
theorem dX10_soils_39 : decode cX10_soils 39 = .ok (.ifCond .eq 14, 3) := by decide +kernel
theorem dX10_soils_42 : decode cX10_soils 42 = .ok (.iload 5, 2) := by decide +kernel
theorem dX10_soils_44 : decode cX10_soils 44 = .ok (.iconst 0, 1) := by decide +kernel
theorem dX10_soils_45 : decode cX10_soils 45 = .ok (.bipush 40, 2) := by decide +kernel
theorem dX10_soils_47 : decode cX10_soils 47 = .ok (.invokestatic 29, 3) := by decide +kernel
theorem dX10_soils_50 : decode cX10_soils 50 = .ok (.ifCond .ne 5, 3) := by decide +kernel
theorem dX10_soils_53 : decode cX10_soils 53 = .ok (.iconst (-1), 1) := by decide +kernel
theorem dX10_soils_54 : decode cX10_soils 54 = .ok (.ireturn, 1) := by decide +kernel
theorem dX10_soils_55 : decode cX10_soils 55 = .ok (.aload_n 0, 1) := by decide +kernel
theorem dX10_soils_56 : decode cX10_soils 56 = .ok (.getfield 7, 3) := by decide +kernel
theorem dX10_soils_59 : decode cX10_soils 59 = .ok (.sipush 300, 3) := by decide +kernel
theorem dX10_soils_62 : decode cX10_soils 62 = .ok (.iconst 4, 1) := by decide +kernel
theorem dX10_soils_63 : decode cX10_soils 63 = .ok (.iload_n 1, 1) := by decide +kernel
theorem dX10_soils_64 : decode cX10_soils 64 = .ok (.imul, 1) := by decide +kernel
theorem dX10_soils_65 : decode cX10_soils 65 = .ok (.iadd, 1) := by decide +kernel
theorem dX10_soils_66 : decode cX10_soils 66 = .ok (.iload_n 2, 1) := by decide +kernel
theorem dX10_soils_67 : decode cX10_soils 67 = .ok (.iastore, 1) := by decide +kernel
theorem dX10_soils_68 : decode cX10_soils 68 = .ok (.aload_n 0, 1) := by decide +kernel
theorem dX10_soils_69 : decode cX10_soils 69 = .ok (.getfield 7, 3) := by decide +kernel
theorem dX10_soils_72 : decode cX10_soils 72 = .ok (.sipush 300, 3) := by decide +kernel
theorem dX10_soils_75 : decode cX10_soils 75 = .ok (.iconst 4, 1) := by decide +kernel
theorem dX10_soils_76 : decode cX10_soils 76 = .ok (.iload_n 1, 1) := by decide +kernel
theorem dX10_soils_77 : decode cX10_soils 77 = .ok (.imul, 1) := by decide +kernel
theorem dX10_soils_78 : decode cX10_soils 78 = .ok (.iadd, 1) := by decide +kernel
theorem dX10_soils_79 : decode cX10_soils 79 = .ok (.iconst 1, 1) := by decide +kernel
theorem dX10_soils_80 : decode cX10_soils 80 = .ok (.iadd, 1) := by decide +kernel
theorem dX10_soils_81 : decode cX10_soils 81 = .ok (.iload_n 3, 1) := by decide +kernel
theorem dX10_soils_82 : decode cX10_soils 82 = .ok (.iastore, 1) := by decide +kernel
theorem dX10_soils_83 : decode cX10_soils 83 = .ok (.aload_n 0, 1) := by decide +kernel
theorem dX10_soils_84 : decode cX10_soils 84 = .ok (.getfield 7, 3) := by decide +kernel
theorem dX10_soils_87 : decode cX10_soils 87 = .ok (.sipush 300, 3) := by decide +kernel
theorem dX10_soils_90 : decode cX10_soils 90 = .ok (.iconst 4, 1) := by decide +kernel
theorem dX10_soils_91 : decode cX10_soils 91 = .ok (.iload_n 1, 1) := by decide +kernel
theorem dX10_soils_92 : decode cX10_soils 92 = .ok (.imul, 1) := by decide +kernel
theorem dX10_soils_93 : decode cX10_soils 93 = .ok (.iadd, 1) := by decide +kernel
theorem dX10_soils_94 : decode cX10_soils 94 = .ok (.iconst 2, 1) := by decide +kernel
theorem dX10_soils_95 : decode cX10_soils 95 = .ok (.iadd, 1) := by decide +kernel
theorem dX10_soils_96 : decode cX10_soils 96 = .ok (.iload 4, 2) := by decide +kernel
theorem dX10_soils_98 : decode cX10_soils 98 = .ok (.iastore, 1) := by decide +kernel
theorem dX10_soils_99 : decode cX10_soils 99 = .ok (.aload_n 0, 1) := by decide +kernel
theorem dX10_soils_100 : decode cX10_soils 100 = .ok (.getfield 7, 3) := by decide +kernel
theorem dX10_soils_103 : decode cX10_soils 103 = .ok (.sipush 300, 3) := by decide +kernel
theorem dX10_soils_106 : decode cX10_soils 106 = .ok (.iconst 4, 1) := by decide +kernel
theorem dX10_soils_107 : decode cX10_soils 107 = .ok (.iload_n 1, 1) := by decide +kernel
theorem dX10_soils_108 : decode cX10_soils 108 = .ok (.imul, 1) := by decide +kernel
theorem dX10_soils_109 : decode cX10_soils 109 = .ok (.iadd, 1) := by decide +kernel
theorem dX10_soils_110 : decode cX10_soils 110 = .ok (.iconst 3, 1) := by decide +kernel
theorem dX10_soils_111 : decode cX10_soils 111 = .ok (.iadd, 1) := by decide +kernel
theorem dX10_soils_112 : decode cX10_soils 112 = .ok (.iload 5, 2) := by decide +kernel
theorem dX10_soils_114 : decode cX10_soils 114 = .ok (.iastore, 1) := by decide +kernel
theorem dX10_soils_115 : decode cX10_soils 115 = .ok (.iconst 1, 1) := by decide +kernel
theorem dX10_soils_116 : decode cX10_soils 116 = .ok (.ireturn, 1) := by decide +kernel
theorem dX10_soilOf_0 : decode cX10_soilOf 0 = .ok (.aload_n 0, 1) := by decide +kernel
theorem dX10_soilOf_1 : decode cX10_soilOf 1 = .ok (.getfield 7, 3) := by decide +kernel
theorem dX10_soilOf_4 : decode cX10_soilOf 4 = .ok (.sipush 300, 3) := by decide +kernel
theorem dX10_soilOf_7 : decode cX10_soilOf 7 = .ok (.iconst 4, 1) := by decide +kernel
theorem dX10_soilOf_8 : decode cX10_soilOf 8 = .ok (.aload_n 0, 1) := by decide +kernel
theorem dX10_soilOf_9 : decode cX10_soilOf 9 = .ok (.getfield 7, 3) := by decide +kernel
theorem dX10_soilOf_12 : decode cX10_soilOf 12 = .ok (.bipush 60, 2) := by decide +kernel
theorem dX10_soilOf_14 : decode cX10_soilOf 14 = .ok (.iload_n 1, 1) := by decide +kernel
theorem dX10_soilOf_15 : decode cX10_soilOf 15 = .ok (.iadd, 1) := by decide +kernel
theorem dX10_soilOf_16 : decode cX10_soilOf 16 = .ok (.iaload, 1) := by decide +kernel
theorem dX10_soilOf_17 : decode cX10_soilOf 17 = .ok (.imul, 1) := by decide +kernel
theorem dX10_soilOf_18 : decode cX10_soilOf 18 = .ok (.iadd, 1) := by decide +kernel
theorem dX10_soilOf_19 : decode cX10_soilOf 19 = .ok (.iload_n 2, 1) := by decide +kernel
theorem dX10_soilOf_20 : decode cX10_soilOf 20 = .ok (.iadd, 1) := by decide +kernel
theorem dX10_soilOf_21 : decode cX10_soilOf 21 = .ok (.iaload, 1) := by decide +kernel
theorem dX10_soilOf_22 : decode cX10_soilOf 22 = .ok (.ireturn, 1) := by decide +kernel
theorem dX10_ditch_0 : decode cX10_ditch 0 = .ok (.iload_n 1, 1) := by decide +kernel
theorem dX10_ditch_1 : decode cX10_ditch 1 = .ok (.iconst 0, 1) := by decide +kernel
theorem dX10_ditch_2 : decode cX10_ditch 2 = .ok (.iconst 3, 1) := by decide +kernel
theorem dX10_ditch_3 : decode cX10_ditch 3 = .ok (.invokestatic 29, 3) := by decide +kernel
theorem dX10_ditch_6 : decode cX10_ditch 6 = .ok (.ifCond .eq 14, 3) := by decide +kernel
theorem dX10_ditch_9 : decode cX10_ditch 9 = .ok (.iload_n 2, 1) := by decide +kernel
theorem dX10_ditch_10 : decode cX10_ditch 10 = .ok (.iconst 0, 1) := by decide +kernel
theorem dX10_ditch_11 : decode cX10_ditch 11 = .ok (.sipush 2000, 3) := by decide +kernel
theorem dX10_ditch_14 : decode cX10_ditch 14 = .ok (.invokestatic 29, 3) := by decide +kernel
theorem dX10_ditch_17 : decode cX10_ditch 17 = .ok (.ifCond .ne 5, 3) := by decide +kernel
theorem dX10_ditch_20 : decode cX10_ditch 20 = .ok (.iconst (-1), 1) := by decide +kernel
theorem dX10_ditch_21 : decode cX10_ditch 21 = .ok (.ireturn, 1) := by decide +kernel
theorem dX10_ditch_22 : decode cX10_ditch 22 = .ok (.aload_n 0, 1) := by decide +kernel
theorem dX10_ditch_23 : decode cX10_ditch 23 = .ok (.getfield 7, 3) := by decide +kernel
theorem dX10_ditch_26 : decode cX10_ditch 26 = .ok (.sipush 320, 3) := by decide +kernel
theorem dX10_ditch_29 : decode cX10_ditch 29 = .ok (.iload_n 1, 1) := by decide +kernel
theorem dX10_ditch_30 : decode cX10_ditch 30 = .ok (.iadd, 1) := by decide +kernel
theorem dX10_ditch_31 : decode cX10_ditch 31 = .ok (.iload_n 2, 1) := by decide +kernel
theorem dX10_ditch_32 : decode cX10_ditch 32 = .ok (.iastore, 1) := by decide +kernel
theorem dX10_ditch_33 : decode cX10_ditch 33 = .ok (.iconst 1, 1) := by decide +kernel
theorem dX10_ditch_34 : decode cX10_ditch 34 = .ok (.ireturn, 1) := by decide +kernel
theorem dX10_trench_0 : decode cX10_trench 0 = .ok (.aload_n 0, 1) := by decide +kernel
theorem dX10_trench_1 : decode cX10_trench 1 = .ok (.iload_n 1, 1) := by decide +kernel
theorem dX10_trench_2 : decode cX10_trench 2 = .ok (.invokevirtual 33, 3) := by decide +kernel
theorem dX10_trench_5 : decode cX10_trench 5 = .ok (.ifCond .eq 64, 3) := by decide +kernel
theorem dX10_trench_8 : decode cX10_trench 8 = .ok (.aload_n 0, 1) := by decide +kernel
theorem dX10_trench_9 : decode cX10_trench 9 = .ok (.iload_n 2, 1) := by decide +kernel
theorem dX10_trench_10 : decode cX10_trench 10 = .ok (.invokevirtual 33, 3) := by decide +kernel
theorem dX10_trench_13 : decode cX10_trench 13 = .ok (.ifCond .eq 56, 3) := by decide +kernel
theorem dX10_trench_16 : decode cX10_trench 16 = .ok (.iload_n 1, 1) := by decide +kernel
theorem dX10_trench_17 : decode cX10_trench 17 = .ok (.iload_n 2, 1) := by decide +kernel
theorem dX10_trench_18 : decode cX10_trench 18 = .ok (.if_icmp .eq 51, 3) := by decide +kernel
theorem dX10_trench_21 : decode cX10_trench 21 = .ok (.aload_n 0, 1) := by decide +kernel
theorem dX10_trench_22 : decode cX10_trench 22 = .ok (.iload_n 1, 1) := by decide +kernel
theorem dX10_trench_23 : decode cX10_trench 23 = .ok (.invokevirtual 37, 3) := by decide +kernel
theorem dX10_trench_26 : decode cX10_trench 26 = .ok (.aload_n 0, 1) := by decide +kernel
theorem dX10_trench_27 : decode cX10_trench 27 = .ok (.iload_n 2, 1) := by decide +kernel
theorem dX10_trench_28 : decode cX10_trench 28 = .ok (.invokevirtual 37, 3) := by decide +kernel
theorem dX10_trench_31 : decode cX10_trench 31 = .ok (.if_icmp .eq 16, 3) := by decide +kernel
theorem dX10_trench_34 : decode cX10_trench 34 = .ok (.aload_n 0, 1) := by decide +kernel
theorem dX10_trench_35 : decode cX10_trench 35 = .ok (.iload_n 1, 1) := by decide +kernel
theorem dX10_trench_36 : decode cX10_trench 36 = .ok (.invokevirtual 41, 3) := by decide +kernel
theorem dX10_trench_39 : decode cX10_trench 39 = .ok (.aload_n 0, 1) := by decide +kernel
theorem dX10_trench_40 : decode cX10_trench 40 = .ok (.iload_n 2, 1) := by decide +kernel
theorem dX10_trench_41 : decode cX10_trench 41 = .ok (.invokevirtual 41, 3) := by decide +kernel
theorem dX10_trench_44 : decode cX10_trench 44 = .ok (.if_icmp .ne 25, 3) := by decide +kernel
theorem dX10_trench_47 : decode cX10_trench 47 = .ok (.iload_n 3, 1) := by decide +kernel
theorem dX10_trench_48 : decode cX10_trench 48 = .ok (.iconst 0, 1) := by decide +kernel
theorem dX10_trench_49 : decode cX10_trench 49 = .ok (.sipush 2000, 3) := by decide +kernel
theorem dX10_trench_52 : decode cX10_trench 52 = .ok (.invokestatic 29, 3) := by decide +kernel
theorem dX10_trench_55 : decode cX10_trench 55 = .ok (.ifCond .eq 14, 3) := by decide +kernel
theorem dX10_trench_58 : decode cX10_trench 58 = .ok (.iload 4, 2) := by decide +kernel
theorem dX10_trench_60 : decode cX10_trench 60 = .ok (.iconst 1, 1) := by decide +kernel
theorem dX10_trench_61 : decode cX10_trench 61 = .ok (.bipush 50, 2) := by decide +kernel
theorem dX10_trench_63 : decode cX10_trench 63 = .ok (.invokestatic 29, 3) := by decide +kernel
theorem dX10_trench_66 : decode cX10_trench 66 = .ok (.ifCond .ne 5, 3) := by decide +kernel
theorem dX10_trench_69 : decode cX10_trench 69 = .ok (.iconst (-1), 1) := by decide +kernel
theorem dX10_trench_70 : decode cX10_trench 70 = .ok (.ireturn, 1) := by decide +kernel
theorem dX10_trench_71 : decode cX10_trench 71 = .ok (.aload_n 0, 1) := by decide +kernel
theorem dX10_trench_72 : decode cX10_trench 72 = .ok (.iload_n 1, 1) := by decide +kernel
theorem dX10_trench_73 : decode cX10_trench 73 = .ok (.invokevirtual 37, 3) := by decide +kernel
theorem dX10_trench_76 : decode cX10_trench 76 = .ok (.aload_n 0, 1) := by decide +kernel
theorem dX10_trench_77 : decode cX10_trench 77 = .ok (.iload_n 2, 1) := by decide +kernel
theorem dX10_trench_78 : decode cX10_trench 78 = .ok (.invokevirtual 37, 3) := by decide +kernel
theorem dX10_trench_81 : decode cX10_trench 81 = .ok (.isub, 1) := by decide +kernel
theorem dX10_trench_82 : decode cX10_trench 82 = .ok (.invokestatic 44, 3) := by decide +kernel
theorem dX10_trench_85 : decode cX10_trench 85 = .ok (.aload_n 0, 1) := by decide +kernel
theorem dX10_trench_86 : decode cX10_trench 86 = .ok (.iload_n 1, 1) := by decide +kernel
theorem dX10_trench_87 : decode cX10_trench 87 = .ok (.invokevirtual 41, 3) := by decide +kernel
theorem dX10_trench_90 : decode cX10_trench 90 = .ok (.aload_n 0, 1) := by decide +kernel
theorem dX10_trench_91 : decode cX10_trench 91 = .ok (.iload_n 2, 1) := by decide +kernel
theorem dX10_trench_92 : decode cX10_trench 92 = .ok (.invokevirtual 41, 3) := by decide +kernel
theorem dX10_trench_95 : decode cX10_trench 95 = .ok (.isub, 1) := by decide +kernel
theorem dX10_trench_96 : decode cX10_trench 96 = .ok (.invokestatic 44, 3) := by decide +kernel
theorem dX10_trench_99 : decode cX10_trench 99 = .ok (.iadd, 1) := by decide +kernel
theorem dX10_trench_100 : decode cX10_trench 100 = .ok (.iconst 1, 1) := by decide +kernel
theorem dX10_trench_101 : decode cX10_trench 101 = .ok (.iadd, 1) := by decide +kernel
theorem dX10_trench_102 : decode cX10_trench 102 = .ok (.istore 5, 2) := by decide +kernel
theorem dX10_trench_104 : decode cX10_trench 104 = .ok (.aload_n 0, 1) := by decide +kernel
theorem dX10_trench_105 : decode cX10_trench 105 = .ok (.getfield 7, 3) := by decide +kernel
theorem dX10_trench_108 : decode cX10_trench 108 = .ok (.iconst 2, 1) := by decide +kernel
theorem dX10_trench_109 : decode cX10_trench 109 = .ok (.iload 5, 2) := by decide +kernel
theorem dX10_trench_111 : decode cX10_trench 111 = .ok (.iastore, 1) := by decide +kernel
theorem dX10_trench_112 : decode cX10_trench 112 = .ok (.aload_n 0, 1) := by decide +kernel
theorem dX10_trench_113 : decode cX10_trench 113 = .ok (.getfield 7, 3) := by decide +kernel
theorem dX10_trench_116 : decode cX10_trench 116 = .ok (.iconst 3, 1) := by decide +kernel
theorem dX10_trench_117 : decode cX10_trench 117 = .ok (.iload_n 1, 1) := by decide +kernel
theorem dX10_trench_118 : decode cX10_trench 118 = .ok (.iastore, 1) := by decide +kernel
theorem dX10_trench_119 : decode cX10_trench 119 = .ok (.aload_n 0, 1) := by decide +kernel
theorem dX10_trench_120 : decode cX10_trench 120 = .ok (.getfield 7, 3) := by decide +kernel
theorem dX10_trench_123 : decode cX10_trench 123 = .ok (.iconst 4, 1) := by decide +kernel
theorem dX10_trench_124 : decode cX10_trench 124 = .ok (.iload_n 2, 1) := by decide +kernel
theorem dX10_trench_125 : decode cX10_trench 125 = .ok (.iastore, 1) := by decide +kernel
theorem dX10_trench_126 : decode cX10_trench 126 = .ok (.aload_n 0, 1) := by decide +kernel
theorem dX10_trench_127 : decode cX10_trench 127 = .ok (.getfield 7, 3) := by decide +kernel
theorem dX10_trench_130 : decode cX10_trench 130 = .ok (.iconst 5, 1) := by decide +kernel
theorem dX10_trench_131 : decode cX10_trench 131 = .ok (.iload_n 3, 1) := by decide +kernel
theorem dX10_trench_132 : decode cX10_trench 132 = .ok (.iastore, 1) := by decide +kernel
theorem dX10_trench_133 : decode cX10_trench 133 = .ok (.aload_n 0, 1) := by decide +kernel
theorem dX10_trench_134 : decode cX10_trench 134 = .ok (.getfield 7, 3) := by decide +kernel
theorem dX10_trench_137 : decode cX10_trench 137 = .ok (.bipush 6, 2) := by decide +kernel
theorem dX10_trench_139 : decode cX10_trench 139 = .ok (.iload 4, 2) := by decide +kernel
theorem dX10_trench_141 : decode cX10_trench 141 = .ok (.iastore, 1) := by decide +kernel
theorem dX10_trench_142 : decode cX10_trench 142 = .ok (.iload 5, 2) := by decide +kernel
theorem dX10_trench_144 : decode cX10_trench 144 = .ok (.ireturn, 1) := by decide +kernel
theorem dX10_placeAt_0 : decode cX10_placeAt 0 = .ok (.aload_n 0, 1) := by decide +kernel
theorem dX10_placeAt_1 : decode cX10_placeAt 1 = .ok (.iload_n 1, 1) := by decide +kernel
theorem dX10_placeAt_2 : decode cX10_placeAt 2 = .ok (.invokevirtual 37, 3) := by decide +kernel
theorem dX10_placeAt_5 : decode cX10_placeAt 5 = .ok (.aload_n 0, 1) := by decide +kernel
theorem dX10_placeAt_6 : decode cX10_placeAt 6 = .ok (.iload_n 2, 1) := by decide +kernel
theorem dX10_placeAt_7 : decode cX10_placeAt 7 = .ok (.invokevirtual 37, 3) := by decide +kernel
theorem dX10_placeAt_10 : decode cX10_placeAt 10 = .ok (.if_icmp .ne 7, 3) := by decide +kernel
theorem dX10_placeAt_13 : decode cX10_placeAt 13 = .ok (.iconst 1, 1) := by decide +kernel
theorem dX10_placeAt_14 : decode cX10_placeAt 14 = .ok (.goto 9, 3) := by decide +kernel
theorem dX10_placeAt_17 : decode cX10_placeAt 17 = .ok (.aload_n 0, 1) := by decide +kernel
theorem dX10_placeAt_18 : decode cX10_placeAt 18 = .ok (.getfield 7, 3) := by decide +kernel
theorem dX10_placeAt_21 : decode cX10_placeAt 21 = .ok (.iconst 1, 1) := by decide +kernel
theorem dX10_placeAt_22 : decode cX10_placeAt 22 = .ok (.iaload, 1) := by decide +kernel
theorem dX10_placeAt_23 : decode cX10_placeAt 23 = .ok (.istore 4, 2) := by decide +kernel
theorem dX10_placeAt_25 : decode cX10_placeAt 25 = .ok (.iload_n 2, 1) := by decide +kernel
theorem dX10_placeAt_26 : decode cX10_placeAt 26 = .ok (.iload_n 1, 1) := by decide +kernel
theorem dX10_placeAt_27 : decode cX10_placeAt 27 = .ok (.if_icmp .le 12, 3) := by decide +kernel
theorem dX10_placeAt_30 : decode cX10_placeAt 30 = .ok (.iload_n 1, 1) := by decide +kernel
theorem dX10_placeAt_31 : decode cX10_placeAt 31 = .ok (.iload_n 3, 1) := by decide +kernel
theorem dX10_placeAt_32 : decode cX10_placeAt 32 = .ok (.iload 4, 2) := by decide +kernel
theorem dX10_placeAt_34 : decode cX10_placeAt 34 = .ok (.imul, 1) := by decide +kernel
theorem dX10_placeAt_35 : decode cX10_placeAt 35 = .ok (.iadd, 1) := by decide +kernel
theorem dX10_placeAt_36 : decode cX10_placeAt 36 = .ok (.goto 9, 3) := by decide +kernel
theorem dX10_placeAt_39 : decode cX10_placeAt 39 = .ok (.iload_n 1, 1) := by decide +kernel
theorem dX10_placeAt_40 : decode cX10_placeAt 40 = .ok (.iload_n 3, 1) := by decide +kernel
theorem dX10_placeAt_41 : decode cX10_placeAt 41 = .ok (.iload 4, 2) := by decide +kernel
theorem dX10_placeAt_43 : decode cX10_placeAt 43 = .ok (.imul, 1) := by decide +kernel
theorem dX10_placeAt_44 : decode cX10_placeAt 44 = .ok (.isub, 1) := by decide +kernel
theorem dX10_placeAt_45 : decode cX10_placeAt 45 = .ok (.ireturn, 1) := by decide +kernel
theorem dX10_pipe_0 : decode cX10_pipe 0 = .ok (.iload_n 1, 1) := by decide +kernel
theorem dX10_pipe_1 : decode cX10_pipe 1 = .ok (.iconst 0, 1) := by decide +kernel
theorem dX10_pipe_2 : decode cX10_pipe 2 = .ok (.iconst 3, 1) := by decide +kernel
theorem dX10_pipe_3 : decode cX10_pipe 3 = .ok (.invokestatic 29, 3) := by decide +kernel
theorem dX10_pipe_6 : decode cX10_pipe 6 = .ok (.ifCond .eq 27, 3) := by decide +kernel
theorem dX10_pipe_9 : decode cX10_pipe 9 = .ok (.iload_n 2, 1) := by decide +kernel
theorem dX10_pipe_10 : decode cX10_pipe 10 = .ok (.iconst 1, 1) := by decide +kernel
theorem dX10_pipe_11 : decode cX10_pipe 11 = .ok (.iconst 4, 1) := by decide +kernel
theorem dX10_pipe_12 : decode cX10_pipe 12 = .ok (.invokestatic 29, 3) := by decide +kernel
theorem dX10_pipe_15 : decode cX10_pipe 15 = .ok (.ifCond .eq 18, 3) := by decide +kernel
theorem dX10_pipe_18 : decode cX10_pipe 18 = .ok (.iload_n 1, 1) := by decide +kernel
theorem dX10_pipe_19 : decode cX10_pipe 19 = .ok (.iconst 2, 1) := by decide +kernel
theorem dX10_pipe_20 : decode cX10_pipe 20 = .ok (.if_icmp .ne 15, 3) := by decide +kernel
theorem dX10_pipe_23 : decode cX10_pipe 23 = .ok (.iload_n 3, 1) := by decide +kernel
theorem dX10_pipe_24 : decode cX10_pipe 24 = .ok (.iconst 1, 1) := by decide +kernel
theorem dX10_pipe_25 : decode cX10_pipe 25 = .ok (.bipush 100, 2) := by decide +kernel
theorem dX10_pipe_27 : decode cX10_pipe 27 = .ok (.invokestatic 29, 3) := by decide +kernel
theorem dX10_pipe_30 : decode cX10_pipe 30 = .ok (.ifCond .ne 5, 3) := by decide +kernel
theorem dX10_pipe_33 : decode cX10_pipe 33 = .ok (.iconst (-1), 1) := by decide +kernel
theorem dX10_pipe_34 : decode cX10_pipe 34 = .ok (.ireturn, 1) := by decide +kernel
theorem dX10_pipe_35 : decode cX10_pipe 35 = .ok (.aload_n 0, 1) := by decide +kernel
theorem dX10_pipe_36 : decode cX10_pipe 36 = .ok (.getfield 7, 3) := by decide +kernel
theorem dX10_pipe_39 : decode cX10_pipe 39 = .ok (.iconst 2, 1) := by decide +kernel
theorem dX10_pipe_40 : decode cX10_pipe 40 = .ok (.iaload, 1) := by decide +kernel
theorem dX10_pipe_41 : decode cX10_pipe 41 = .ok (.istore 4, 2) := by decide +kernel
theorem dX10_pipe_43 : decode cX10_pipe 43 = .ok (.iload 4, 2) := by decide +kernel
theorem dX10_pipe_45 : decode cX10_pipe 45 = .ok (.ifCond .ne 6, 3) := by decide +kernel
theorem dX10_pipe_48 : decode cX10_pipe 48 = .ok (.bipush (-6), 2) := by decide +kernel
theorem dX10_pipe_50 : decode cX10_pipe 50 = .ok (.ireturn, 1) := by decide +kernel
theorem dX10_pipe_51 : decode cX10_pipe 51 = .ok (.iconst 0, 1) := by decide +kernel
theorem dX10_pipe_52 : decode cX10_pipe 52 = .ok (.istore 5, 2) := by decide +kernel
theorem dX10_pipe_54 : decode cX10_pipe 54 = .ok (.iload 5, 2) := by decide +kernel
theorem dX10_pipe_56 : decode cX10_pipe 56 = .ok (.iload 4, 2) := by decide +kernel
theorem dX10_pipe_58 : decode cX10_pipe 58 = .ok (.if_icmp .ge 73, 3) := by decide +kernel
theorem dX10_pipe_61 : decode cX10_pipe 61 = .ok (.aload_n 0, 1) := by decide +kernel
theorem dX10_pipe_62 : decode cX10_pipe 62 = .ok (.getfield 7, 3) := by decide +kernel
theorem dX10_pipe_65 : decode cX10_pipe 65 = .ok (.iconst 5, 1) := by decide +kernel
theorem dX10_pipe_66 : decode cX10_pipe 66 = .ok (.iaload, 1) := by decide +kernel
theorem dX10_pipe_67 : decode cX10_pipe 67 = .ok (.iload 5, 2) := by decide +kernel
theorem dX10_pipe_69 : decode cX10_pipe 69 = .ok (.aload_n 0, 1) := by decide +kernel
theorem dX10_pipe_70 : decode cX10_pipe 70 = .ok (.getfield 7, 3) := by decide +kernel
theorem dX10_pipe_73 : decode cX10_pipe 73 = .ok (.bipush 6, 2) := by decide +kernel
theorem dX10_pipe_75 : decode cX10_pipe 75 = .ok (.iaload, 1) := by decide +kernel
theorem dX10_pipe_76 : decode cX10_pipe 76 = .ok (.imul, 1) := by decide +kernel
theorem dX10_pipe_77 : decode cX10_pipe 77 = .ok (.isub, 1) := by decide +kernel
theorem dX10_pipe_78 : decode cX10_pipe 78 = .ok (.istore 6, 2) := by decide +kernel
theorem dX10_pipe_80 : decode cX10_pipe 80 = .ok (.iload 6, 2) := by decide +kernel
theorem dX10_pipe_82 : decode cX10_pipe 82 = .ok (.ifCond .lt 37, 3) := by decide +kernel
theorem dX10_pipe_85 : decode cX10_pipe 85 = .ok (.aload_n 0, 1) := by decide +kernel
theorem dX10_pipe_86 : decode cX10_pipe 86 = .ok (.getfield 7, 3) := by decide +kernel
theorem dX10_pipe_89 : decode cX10_pipe 89 = .ok (.bipush 20, 2) := by decide +kernel
theorem dX10_pipe_91 : decode cX10_pipe 91 = .ok (.aload_n 0, 1) := by decide +kernel
theorem dX10_pipe_92 : decode cX10_pipe 92 = .ok (.aload_n 0, 1) := by decide +kernel
theorem dX10_pipe_93 : decode cX10_pipe 93 = .ok (.getfield 7, 3) := by decide +kernel
theorem dX10_pipe_96 : decode cX10_pipe 96 = .ok (.iconst 3, 1) := by decide +kernel
theorem dX10_pipe_97 : decode cX10_pipe 97 = .ok (.iaload, 1) := by decide +kernel
theorem dX10_pipe_98 : decode cX10_pipe 98 = .ok (.aload_n 0, 1) := by decide +kernel
theorem dX10_pipe_99 : decode cX10_pipe 99 = .ok (.getfield 7, 3) := by decide +kernel
theorem dX10_pipe_102 : decode cX10_pipe 102 = .ok (.iconst 4, 1) := by decide +kernel
theorem dX10_pipe_103 : decode cX10_pipe 103 = .ok (.iaload, 1) := by decide +kernel
theorem dX10_pipe_104 : decode cX10_pipe 104 = .ok (.iload 5, 2) := by decide +kernel
theorem dX10_pipe_106 : decode cX10_pipe 106 = .ok (.invokevirtual 47, 3) := by decide +kernel
theorem dX10_pipe_109 : decode cX10_pipe 109 = .ok (.iadd, 1) := by decide +kernel
theorem dX10_pipe_110 : decode cX10_pipe 110 = .ok (.iaload, 1) := by decide +kernel
theorem dX10_pipe_111 : decode cX10_pipe 111 = .ok (.iload 6, 2) := by decide +kernel
theorem dX10_pipe_113 : decode cX10_pipe 113 = .ok (.isub, 1) := by decide +kernel
theorem dX10_pipe_114 : decode cX10_pipe 114 = .ok (.bipush 60, 2) := by decide +kernel
theorem dX10_pipe_116 : decode cX10_pipe 116 = .ok (.if_icmp .ge 9, 3) := by decide +kernel
theorem dX10_pipe_119 : decode cX10_pipe 119 = .ok (.bipush (-100), 2) := by decide +kernel
theorem dX10_pipe_121 : decode cX10_pipe 121 = .ok (.iload 5, 2) := by decide +kernel
theorem dX10_pipe_123 : decode cX10_pipe 123 = .ok (.isub, 1) := by decide +kernel
theorem dX10_pipe_124 : decode cX10_pipe 124 = .ok (.ireturn, 1) := by decide +kernel
theorem dX10_pipe_125 : decode cX10_pipe 125 = .ok (.iinc 5 1, 3) := by decide +kernel
theorem dX10_pipe_128 : decode cX10_pipe 128 = .ok (.goto (-74), 3) := by decide +kernel
theorem dX10_pipe_131 : decode cX10_pipe 131 = .ok (.aload_n 0, 1) := by decide +kernel
theorem dX10_pipe_132 : decode cX10_pipe 132 = .ok (.getfield 7, 3) := by decide +kernel
theorem dX10_pipe_135 : decode cX10_pipe 135 = .ok (.bipush 13, 2) := by decide +kernel
theorem dX10_pipe_137 : decode cX10_pipe 137 = .ok (.iaload, 1) := by decide +kernel
theorem dX10_pipe_138 : decode cX10_pipe 138 = .ok (.bipush 20, 2) := by decide +kernel
theorem dX10_pipe_140 : decode cX10_pipe 140 = .ok (.if_icmp .ne 6, 3) := by decide +kernel
theorem dX10_pipe_143 : decode cX10_pipe 143 = .ok (.bipush (-2), 2) := by decide +kernel
theorem dX10_pipe_145 : decode cX10_pipe 145 = .ok (.ireturn, 1) := by decide +kernel
theorem dX10_pipe_146 : decode cX10_pipe 146 = .ok (.aload_n 0, 1) := by decide +kernel
theorem dX10_pipe_147 : decode cX10_pipe 147 = .ok (.getfield 7, 3) := by decide +kernel
theorem dX10_pipe_150 : decode cX10_pipe 150 = .ok (.bipush 13, 2) := by decide +kernel
theorem dX10_pipe_152 : decode cX10_pipe 152 = .ok (.iaload, 1) := by decide +kernel
theorem dX10_pipe_153 : decode cX10_pipe 153 = .ok (.istore 5, 2) := by decide +kernel
theorem dX10_pipe_155 : decode cX10_pipe 155 = .ok (.aload_n 0, 1) := by decide +kernel
theorem dX10_pipe_156 : decode cX10_pipe 156 = .ok (.getfield 7, 3) := by decide +kernel
theorem dX10_pipe_159 : decode cX10_pipe 159 = .ok (.bipush 13, 2) := by decide +kernel
theorem dX10_pipe_161 : decode cX10_pipe 161 = .ok (.dup2, 1) := by decide +kernel
theorem dX10_pipe_162 : decode cX10_pipe 162 = .ok (.iaload, 1) := by decide +kernel
theorem dX10_pipe_163 : decode cX10_pipe 163 = .ok (.iconst 1, 1) := by decide +kernel
theorem dX10_pipe_164 : decode cX10_pipe 164 = .ok (.iadd, 1) := by decide +kernel
theorem dX10_pipe_165 : decode cX10_pipe 165 = .ok (.iastore, 1) := by decide +kernel
theorem dX10_pipe_166 : decode cX10_pipe 166 = .ok (.aload_n 0, 1) := by decide +kernel
theorem dX10_pipe_167 : decode cX10_pipe 167 = .ok (.iload 5, 2) := by decide +kernel
theorem dX10_pipe_169 : decode cX10_pipe 169 = .ok (.iconst 0, 1) := by decide +kernel
theorem dX10_pipe_170 : decode cX10_pipe 170 = .ok (.iload_n 1, 1) := by decide +kernel
theorem dX10_pipe_171 : decode cX10_pipe 171 = .ok (.invokevirtual 51, 3) := by decide +kernel
theorem dX10_pipe_174 : decode cX10_pipe 174 = .ok (.aload_n 0, 1) := by decide +kernel
theorem dX10_pipe_175 : decode cX10_pipe 175 = .ok (.iload 5, 2) := by decide +kernel
theorem dX10_pipe_177 : decode cX10_pipe 177 = .ok (.iconst 1, 1) := by decide +kernel
theorem dX10_pipe_178 : decode cX10_pipe 178 = .ok (.aload_n 0, 1) := by decide +kernel
theorem dX10_pipe_179 : decode cX10_pipe 179 = .ok (.getfield 7, 3) := by decide +kernel
theorem dX10_pipe_182 : decode cX10_pipe 182 = .ok (.iconst 3, 1) := by decide +kernel
theorem dX10_pipe_183 : decode cX10_pipe 183 = .ok (.iaload, 1) := by decide +kernel
theorem dX10_pipe_184 : decode cX10_pipe 184 = .ok (.invokevirtual 51, 3) := by decide +kernel
theorem dX10_pipe_187 : decode cX10_pipe 187 = .ok (.aload_n 0, 1) := by decide +kernel
theorem dX10_pipe_188 : decode cX10_pipe 188 = .ok (.iload 5, 2) := by decide +kernel
theorem dX10_pipe_190 : decode cX10_pipe 190 = .ok (.iconst 2, 1) := by decide +kernel
theorem dX10_pipe_191 : decode cX10_pipe 191 = .ok (.aload_n 0, 1) := by decide +kernel
theorem dX10_pipe_192 : decode cX10_pipe 192 = .ok (.getfield 7, 3) := by decide +kernel
theorem dX10_pipe_195 : decode cX10_pipe 195 = .ok (.iconst 4, 1) := by decide +kernel
theorem dX10_pipe_196 : decode cX10_pipe 196 = .ok (.iaload, 1) := by decide +kernel
theorem dX10_pipe_197 : decode cX10_pipe 197 = .ok (.invokevirtual 51, 3) := by decide +kernel
theorem dX10_pipe_200 : decode cX10_pipe 200 = .ok (.aload_n 0, 1) := by decide +kernel
theorem dX10_pipe_201 : decode cX10_pipe 201 = .ok (.iload 5, 2) := by decide +kernel
theorem dX10_pipe_203 : decode cX10_pipe 203 = .ok (.iconst 3, 1) := by decide +kernel
theorem dX10_pipe_204 : decode cX10_pipe 204 = .ok (.aload_n 0, 1) := by decide +kernel
theorem dX10_pipe_205 : decode cX10_pipe 205 = .ok (.getfield 7, 3) := by decide +kernel
theorem dX10_pipe_208 : decode cX10_pipe 208 = .ok (.iconst 5, 1) := by decide +kernel
theorem dX10_pipe_209 : decode cX10_pipe 209 = .ok (.iaload, 1) := by decide +kernel
theorem dX10_pipe_210 : decode cX10_pipe 210 = .ok (.invokevirtual 51, 3) := by decide +kernel
theorem dX10_pipe_213 : decode cX10_pipe 213 = .ok (.aload_n 0, 1) := by decide +kernel
theorem dX10_pipe_214 : decode cX10_pipe 214 = .ok (.iload 5, 2) := by decide +kernel
theorem dX10_pipe_216 : decode cX10_pipe 216 = .ok (.iconst 4, 1) := by decide +kernel
theorem dX10_pipe_217 : decode cX10_pipe 217 = .ok (.aload_n 0, 1) := by decide +kernel
theorem dX10_pipe_218 : decode cX10_pipe 218 = .ok (.getfield 7, 3) := by decide +kernel
theorem dX10_pipe_221 : decode cX10_pipe 221 = .ok (.bipush 6, 2) := by decide +kernel
theorem dX10_pipe_223 : decode cX10_pipe 223 = .ok (.iaload, 1) := by decide +kernel
theorem dX10_pipe_224 : decode cX10_pipe 224 = .ok (.invokevirtual 51, 3) := by decide +kernel
theorem dX10_pipe_227 : decode cX10_pipe 227 = .ok (.aload_n 0, 1) := by decide +kernel
theorem dX10_pipe_228 : decode cX10_pipe 228 = .ok (.iload 5, 2) := by decide +kernel
theorem dX10_pipe_230 : decode cX10_pipe 230 = .ok (.iconst 5, 1) := by decide +kernel
theorem dX10_pipe_231 : decode cX10_pipe 231 = .ok (.iload_n 2, 1) := by decide +kernel
theorem dX10_pipe_232 : decode cX10_pipe 232 = .ok (.invokevirtual 51, 3) := by decide +kernel
theorem dX10_pipe_235 : decode cX10_pipe 235 = .ok (.aload_n 0, 1) := by decide +kernel
theorem dX10_pipe_236 : decode cX10_pipe 236 = .ok (.iload 5, 2) := by decide +kernel
theorem dX10_pipe_238 : decode cX10_pipe 238 = .ok (.bipush 6, 2) := by decide +kernel
theorem dX10_pipe_240 : decode cX10_pipe 240 = .ok (.iload_n 1, 1) := by decide +kernel
theorem dX10_pipe_241 : decode cX10_pipe 241 = .ok (.iconst 2, 1) := by decide +kernel
theorem dX10_pipe_242 : decode cX10_pipe 242 = .ok (.if_icmp .ne 7, 3) := by decide +kernel
theorem dX10_pipe_245 : decode cX10_pipe 245 = .ok (.iload_n 3, 1) := by decide +kernel
theorem dX10_pipe_246 : decode cX10_pipe 246 = .ok (.goto 4, 3) := by decide +kernel
theorem dX10_pipe_249 : decode cX10_pipe 249 = .ok (.iconst 0, 1) := by decide +kernel
theorem dX10_pipe_250 : decode cX10_pipe 250 = .ok (.invokevirtual 51, 3) := by decide +kernel
theorem dX10_pipe_253 : decode cX10_pipe 253 = .ok (.aload_n 0, 1) := by decide +kernel
theorem dX10_pipe_254 : decode cX10_pipe 254 = .ok (.iload 5, 2) := by decide +kernel
theorem dX10_pipe_256 : decode cX10_pipe 256 = .ok (.bipush 7, 2) := by decide +kernel
theorem dX10_pipe_258 : decode cX10_pipe 258 = .ok (.iconst (-1), 1) := by decide +kernel
theorem dX10_pipe_259 : decode cX10_pipe 259 = .ok (.invokevirtual 51, 3) := by decide +kernel
theorem dX10_pipe_262 : decode cX10_pipe 262 = .ok (.aload_n 0, 1) := by decide +kernel
theorem dX10_pipe_263 : decode cX10_pipe 263 = .ok (.iload 5, 2) := by decide +kernel
theorem dX10_pipe_265 : decode cX10_pipe 265 = .ok (.bipush 8, 2) := by decide +kernel
theorem dX10_pipe_267 : decode cX10_pipe 267 = .ok (.iconst 0, 1) := by decide +kernel
theorem dX10_pipe_268 : decode cX10_pipe 268 = .ok (.invokevirtual 51, 3) := by decide +kernel
theorem dX10_pipe_271 : decode cX10_pipe 271 = .ok (.aload_n 0, 1) := by decide +kernel
theorem dX10_pipe_272 : decode cX10_pipe 272 = .ok (.iload 5, 2) := by decide +kernel
theorem dX10_pipe_274 : decode cX10_pipe 274 = .ok (.bipush 9, 2) := by decide +kernel
theorem dX10_pipe_276 : decode cX10_pipe 276 = .ok (.iconst 0, 1) := by decide +kernel
theorem dX10_pipe_277 : decode cX10_pipe 277 = .ok (.invokevirtual 51, 3) := by decide +kernel
theorem dX10_pipe_280 : decode cX10_pipe 280 = .ok (.aload_n 0, 1) := by decide +kernel
theorem dX10_pipe_281 : decode cX10_pipe 281 = .ok (.iload 5, 2) := by decide +kernel
theorem dX10_pipe_283 : decode cX10_pipe 283 = .ok (.bipush 10, 2) := by decide +kernel
theorem dX10_pipe_285 : decode cX10_pipe 285 = .ok (.iconst 0, 1) := by decide +kernel
theorem dX10_pipe_286 : decode cX10_pipe 286 = .ok (.invokevirtual 51, 3) := by decide +kernel
theorem dX10_pipe_289 : decode cX10_pipe 289 = .ok (.aload_n 0, 1) := by decide +kernel
theorem dX10_pipe_290 : decode cX10_pipe 290 = .ok (.iload 5, 2) := by decide +kernel
theorem dX10_pipe_292 : decode cX10_pipe 292 = .ok (.bipush 11, 2) := by decide +kernel
theorem dX10_pipe_294 : decode cX10_pipe 294 = .ok (.iload 4, 2) := by decide +kernel
theorem dX10_pipe_296 : decode cX10_pipe 296 = .ok (.invokevirtual 51, 3) := by decide +kernel
theorem dX10_pipe_299 : decode cX10_pipe 299 = .ok (.iload 5, 2) := by decide +kernel
theorem dX10_pipe_301 : decode cX10_pipe 301 = .ok (.ireturn, 1) := by decide +kernel
theorem dX10_stepPlace_0 : decode cX10_stepPlace 0 = .ok (.aload_n 0, 1) := by decide +kernel
theorem dX10_stepPlace_1 : decode cX10_stepPlace 1 = .ok (.aload_n 0, 1) := by decide +kernel
theorem dX10_stepPlace_2 : decode cX10_stepPlace 2 = .ok (.iload_n 1, 1) := by decide +kernel
theorem dX10_stepPlace_3 : decode cX10_stepPlace 3 = .ok (.iconst 1, 1) := by decide +kernel
theorem dX10_stepPlace_4 : decode cX10_stepPlace 4 = .ok (.invokevirtual 55, 3) := by decide +kernel
theorem dX10_stepPlace_7 : decode cX10_stepPlace 7 = .ok (.aload_n 0, 1) := by decide +kernel
theorem dX10_stepPlace_8 : decode cX10_stepPlace 8 = .ok (.iload_n 1, 1) := by decide +kernel
theorem dX10_stepPlace_9 : decode cX10_stepPlace 9 = .ok (.iconst 2, 1) := by decide +kernel
theorem dX10_stepPlace_10 : decode cX10_stepPlace 10 = .ok (.invokevirtual 55, 3) := by decide +kernel
theorem dX10_stepPlace_13 : decode cX10_stepPlace 13 = .ok (.iload_n 2, 1) := by decide +kernel
theorem dX10_stepPlace_14 : decode cX10_stepPlace 14 = .ok (.invokevirtual 47, 3) := by decide +kernel
theorem dX10_stepPlace_17 : decode cX10_stepPlace 17 = .ok (.ireturn, 1) := by decide +kernel
theorem dX10_levelAt_0 : decode cX10_levelAt 0 = .ok (.aload_n 0, 1) := by decide +kernel
theorem dX10_levelAt_1 : decode cX10_levelAt 1 = .ok (.iload_n 1, 1) := by decide +kernel
theorem dX10_levelAt_2 : decode cX10_levelAt 2 = .ok (.iconst 3, 1) := by decide +kernel
theorem dX10_levelAt_3 : decode cX10_levelAt 3 = .ok (.invokevirtual 55, 3) := by decide +kernel
theorem dX10_levelAt_6 : decode cX10_levelAt 6 = .ok (.iload_n 2, 1) := by decide +kernel
theorem dX10_levelAt_7 : decode cX10_levelAt 7 = .ok (.aload_n 0, 1) := by decide +kernel
theorem dX10_levelAt_8 : decode cX10_levelAt 8 = .ok (.iload_n 1, 1) := by decide +kernel
theorem dX10_levelAt_9 : decode cX10_levelAt 9 = .ok (.iconst 4, 1) := by decide +kernel
theorem dX10_levelAt_10 : decode cX10_levelAt 10 = .ok (.invokevirtual 55, 3) := by decide +kernel
theorem dX10_levelAt_13 : decode cX10_levelAt 13 = .ok (.imul, 1) := by decide +kernel
theorem dX10_levelAt_14 : decode cX10_levelAt 14 = .ok (.isub, 1) := by decide +kernel
theorem dX10_levelAt_15 : decode cX10_levelAt 15 = .ok (.ireturn, 1) := by decide +kernel
theorem dX10_stepOf_0 : decode cX10_stepOf 0 = .ok (.iconst (-1), 1) := by decide +kernel
theorem dX10_stepOf_1 : decode cX10_stepOf 1 = .ok (.istore_n 3, 1) := by decide +kernel
theorem dX10_stepOf_2 : decode cX10_stepOf 2 = .ok (.iconst 0, 1) := by decide +kernel
theorem dX10_stepOf_3 : decode cX10_stepOf 3 = .ok (.istore 4, 2) := by decide +kernel
theorem dX10_stepOf_5 : decode cX10_stepOf 5 = .ok (.iload 4, 2) := by decide +kernel
theorem dX10_stepOf_7 : decode cX10_stepOf 7 = .ok (.aload_n 0, 1) := by decide +kernel
theorem dX10_stepOf_8 : decode cX10_stepOf 8 = .ok (.iload_n 1, 1) := by decide +kernel
theorem dX10_stepOf_9 : decode cX10_stepOf 9 = .ok (.bipush 11, 2) := by decide +kernel
theorem dX10_stepOf_11 : decode cX10_stepOf 11 = .ok (.invokevirtual 55, 3) := by decide +kernel
theorem dX10_stepOf_14 : decode cX10_stepOf 14 = .ok (.if_icmp .ge 27, 3) := by decide +kernel
theorem dX10_stepOf_17 : decode cX10_stepOf 17 = .ok (.aload_n 0, 1) := by decide +kernel
theorem dX10_stepOf_18 : decode cX10_stepOf 18 = .ok (.iload_n 1, 1) := by decide +kernel
theorem dX10_stepOf_19 : decode cX10_stepOf 19 = .ok (.iload 4, 2) := by decide +kernel
theorem dX10_stepOf_21 : decode cX10_stepOf 21 = .ok (.invokevirtual 59, 3) := by decide +kernel
theorem dX10_stepOf_24 : decode cX10_stepOf 24 = .ok (.iload_n 2, 1) := by decide +kernel
theorem dX10_stepOf_25 : decode cX10_stepOf 25 = .ok (.if_icmp .ne 8, 3) := by decide +kernel
theorem dX10_stepOf_28 : decode cX10_stepOf 28 = .ok (.iload 4, 2) := by decide +kernel
theorem dX10_stepOf_30 : decode cX10_stepOf 30 = .ok (.goto 4, 3) := by decide +kernel
theorem dX10_stepOf_33 : decode cX10_stepOf 33 = .ok (.iload_n 3, 1) := by decide +kernel
theorem dX10_stepOf_34 : decode cX10_stepOf 34 = .ok (.istore_n 3, 1) := by decide +kernel
theorem dX10_stepOf_35 : decode cX10_stepOf 35 = .ok (.iinc 4 1, 3) := by decide +kernel
theorem dX10_stepOf_38 : decode cX10_stepOf 38 = .ok (.goto (-33), 3) := by decide +kernel
theorem dX10_stepOf_41 : decode cX10_stepOf 41 = .ok (.iload_n 3, 1) := by decide +kernel
theorem dX10_stepOf_42 : decode cX10_stepOf 42 = .ok (.ireturn, 1) := by decide +kernel
theorem dX10_rank_0 : decode cX10_rank 0 = .ok (.iconst 0, 1) := by decide +kernel
theorem dX10_rank_1 : decode cX10_rank 1 = .ok (.istore_n 2, 1) := by decide +kernel
theorem dX10_rank_2 : decode cX10_rank 2 = .ok (.aload_n 0, 1) := by decide +kernel
theorem dX10_rank_3 : decode cX10_rank 3 = .ok (.iload_n 1, 1) := by decide +kernel
theorem dX10_rank_4 : decode cX10_rank 4 = .ok (.bipush 7, 2) := by decide +kernel
theorem dX10_rank_6 : decode cX10_rank 6 = .ok (.invokevirtual 55, 3) := by decide +kernel
theorem dX10_rank_9 : decode cX10_rank 9 = .ok (.istore_n 3, 1) := by decide +kernel
theorem dX10_rank_10 : decode cX10_rank 10 = .ok (.iload_n 3, 1) := by decide +kernel
theorem dX10_rank_11 : decode cX10_rank 11 = .ok (.ifCond .lt 23, 3) := by decide +kernel
theorem dX10_rank_14 : decode cX10_rank 14 = .ok (.iload_n 3, 1) := by decide +kernel
theorem dX10_rank_15 : decode cX10_rank 15 = .ok (.bipush 100, 2) := by decide +kernel
theorem dX10_rank_17 : decode cX10_rank 17 = .ok (.if_icmp .ge 17, 3) := by decide +kernel
theorem dX10_rank_20 : decode cX10_rank 20 = .ok (.iinc 2 1, 3) := by decide +kernel
theorem dX10_rank_23 : decode cX10_rank 23 = .ok (.aload_n 0, 1) := by decide +kernel
theorem dX10_rank_24 : decode cX10_rank 24 = .ok (.iload_n 3, 1) := by decide +kernel
theorem dX10_rank_25 : decode cX10_rank 25 = .ok (.bipush 7, 2) := by decide +kernel
theorem dX10_rank_27 : decode cX10_rank 27 = .ok (.invokevirtual 55, 3) := by decide +kernel
theorem dX10_rank_30 : decode cX10_rank 30 = .ok (.istore_n 3, 1) := by decide +kernel
theorem dX10_rank_31 : decode cX10_rank 31 = .ok (.goto (-21), 3) := by decide +kernel
theorem dX10_rank_34 : decode cX10_rank 34 = .ok (.iload_n 2, 1) := by decide +kernel
theorem dX10_rank_35 : decode cX10_rank 35 = .ok (.ireturn, 1) := by decide +kernel
theorem dX10_join_0 : decode cX10_join 0 = .ok (.aload_n 0, 1) := by decide +kernel
theorem dX10_join_1 : decode cX10_join 1 = .ok (.iload_n 1, 1) := by decide +kernel
theorem dX10_join_2 : decode cX10_join 2 = .ok (.invokevirtual 62, 3) := by decide +kernel
theorem dX10_join_5 : decode cX10_join 5 = .ok (.ifCond .eq 11, 3) := by decide +kernel
theorem dX10_join_8 : decode cX10_join 8 = .ok (.aload_n 0, 1) := by decide +kernel
theorem dX10_join_9 : decode cX10_join 9 = .ok (.iload_n 2, 1) := by decide +kernel
theorem dX10_join_10 : decode cX10_join 10 = .ok (.invokevirtual 62, 3) := by decide +kernel
theorem dX10_join_13 : decode cX10_join 13 = .ok (.ifCond .ne 5, 3) := by decide +kernel
theorem dX10_join_16 : decode cX10_join 16 = .ok (.iconst (-1), 1) := by decide +kernel
theorem dX10_join_17 : decode cX10_join 17 = .ok (.ireturn, 1) := by decide +kernel
theorem dX10_join_18 : decode cX10_join 18 = .ok (.aload_n 0, 1) := by decide +kernel
theorem dX10_join_19 : decode cX10_join 19 = .ok (.iload_n 1, 1) := by decide +kernel
theorem dX10_join_20 : decode cX10_join 20 = .ok (.bipush 11, 2) := by decide +kernel
theorem dX10_join_22 : decode cX10_join 22 = .ok (.invokevirtual 55, 3) := by decide +kernel
theorem dX10_join_25 : decode cX10_join 25 = .ok (.iconst 1, 1) := by decide +kernel
theorem dX10_join_26 : decode cX10_join 26 = .ok (.isub, 1) := by decide +kernel
theorem dX10_join_27 : decode cX10_join 27 = .ok (.istore_n 3, 1) := by decide +kernel
theorem dX10_join_28 : decode cX10_join 28 = .ok (.aload_n 0, 1) := by decide +kernel
theorem dX10_join_29 : decode cX10_join 29 = .ok (.iload_n 2, 1) := by decide +kernel
theorem dX10_join_30 : decode cX10_join 30 = .ok (.aload_n 0, 1) := by decide +kernel
theorem dX10_join_31 : decode cX10_join 31 = .ok (.iload_n 1, 1) := by decide +kernel
theorem dX10_join_32 : decode cX10_join 32 = .ok (.iload_n 3, 1) := by decide +kernel
theorem dX10_join_33 : decode cX10_join 33 = .ok (.invokevirtual 59, 3) := by decide +kernel
theorem dX10_join_36 : decode cX10_join 36 = .ok (.invokevirtual 65, 3) := by decide +kernel
theorem dX10_join_39 : decode cX10_join 39 = .ok (.istore 4, 2) := by decide +kernel
theorem dX10_join_41 : decode cX10_join 41 = .ok (.aload_n 0, 1) := by decide +kernel
theorem dX10_join_42 : decode cX10_join 42 = .ok (.iload_n 1, 1) := by decide +kernel
theorem dX10_join_43 : decode cX10_join 43 = .ok (.iconst 0, 1) := by decide +kernel
theorem dX10_join_44 : decode cX10_join 44 = .ok (.invokevirtual 55, 3) := by decide +kernel
theorem dX10_join_47 : decode cX10_join 47 = .ok (.iconst 3, 1) := by decide +kernel
theorem dX10_join_48 : decode cX10_join 48 = .ok (.if_icmp .eq 19, 3) := by decide +kernel
theorem dX10_join_51 : decode cX10_join 51 = .ok (.aload_n 0, 1) := by decide +kernel
theorem dX10_join_52 : decode cX10_join 52 = .ok (.iload_n 2, 1) := by decide +kernel
theorem dX10_join_53 : decode cX10_join 53 = .ok (.iconst 0, 1) := by decide +kernel
theorem dX10_join_54 : decode cX10_join 54 = .ok (.invokevirtual 55, 3) := by decide +kernel
theorem dX10_join_57 : decode cX10_join 57 = .ok (.iconst 2, 1) := by decide +kernel
theorem dX10_join_58 : decode cX10_join 58 = .ok (.irem, 1) := by decide +kernel
theorem dX10_join_59 : decode cX10_join 59 = .ok (.ifCond .eq 8, 3) := by decide +kernel
theorem dX10_join_62 : decode cX10_join 62 = .ok (.iload 4, 2) := by decide +kernel
theorem dX10_join_64 : decode cX10_join 64 = .ok (.ifCond .ge 6, 3) := by decide +kernel
theorem dX10_join_67 : decode cX10_join 67 = .ok (.bipush (-3), 2) := by decide +kernel
theorem dX10_join_69 : decode cX10_join 69 = .ok (.ireturn, 1) := by decide +kernel
theorem dX10_join_70 : decode cX10_join 70 = .ok (.aload_n 0, 1) := by decide +kernel
theorem dX10_join_71 : decode cX10_join 71 = .ok (.iload_n 1, 1) := by decide +kernel
theorem dX10_join_72 : decode cX10_join 72 = .ok (.iload_n 3, 1) := by decide +kernel
theorem dX10_join_73 : decode cX10_join 73 = .ok (.invokevirtual 68, 3) := by decide +kernel
theorem dX10_join_76 : decode cX10_join 76 = .ok (.aload_n 0, 1) := by decide +kernel
theorem dX10_join_77 : decode cX10_join 77 = .ok (.iload_n 2, 1) := by decide +kernel
theorem dX10_join_78 : decode cX10_join 78 = .ok (.iload 4, 2) := by decide +kernel
theorem dX10_join_80 : decode cX10_join 80 = .ok (.invokevirtual 68, 3) := by decide +kernel
theorem dX10_join_83 : decode cX10_join 83 = .ok (.if_icmp .ge 6, 3) := by decide +kernel
theorem dX10_join_86 : decode cX10_join 86 = .ok (.bipush (-4), 2) := by decide +kernel
theorem dX10_join_88 : decode cX10_join 88 = .ok (.ireturn, 1) := by decide +kernel
theorem dX10_join_89 : decode cX10_join 89 = .ok (.iload_n 2, 1) := by decide +kernel
theorem dX10_join_90 : decode cX10_join 90 = .ok (.istore 5, 2) := by decide +kernel
theorem dX10_join_92 : decode cX10_join 92 = .ok (.iload 5, 2) := by decide +kernel
theorem dX10_join_94 : decode cX10_join 94 = .ok (.ifCond .lt 32, 3) := by decide +kernel
theorem dX10_join_97 : decode cX10_join 97 = .ok (.iload 5, 2) := by decide +kernel
theorem dX10_join_99 : decode cX10_join 99 = .ok (.bipush 100, 2) := by decide +kernel
theorem dX10_join_101 : decode cX10_join 101 = .ok (.if_icmp .ge 25, 3) := by decide +kernel
theorem dX10_join_104 : decode cX10_join 104 = .ok (.iload 5, 2) := by decide +kernel
theorem dX10_join_106 : decode cX10_join 106 = .ok (.iload_n 1, 1) := by decide +kernel
theorem dX10_join_107 : decode cX10_join 107 = .ok (.if_icmp .ne 6, 3) := by decide +kernel
theorem dX10_join_110 : decode cX10_join 110 = .ok (.bipush (-5), 2) := by decide +kernel
theorem dX10_join_112 : decode cX10_join 112 = .ok (.ireturn, 1) := by decide +kernel
theorem dX10_join_113 : decode cX10_join 113 = .ok (.aload_n 0, 1) := by decide +kernel
theorem dX10_join_114 : decode cX10_join 114 = .ok (.iload 5, 2) := by decide +kernel
theorem dX10_join_116 : decode cX10_join 116 = .ok (.bipush 7, 2) := by decide +kernel
theorem dX10_join_118 : decode cX10_join 118 = .ok (.invokevirtual 55, 3) := by decide +kernel
theorem dX10_join_121 : decode cX10_join 121 = .ok (.istore 5, 2) := by decide +kernel
theorem dX10_join_123 : decode cX10_join 123 = .ok (.goto (-31), 3) := by decide +kernel
theorem dX10_join_126 : decode cX10_join 126 = .ok (.aload_n 0, 1) := by decide +kernel
theorem dX10_join_127 : decode cX10_join 127 = .ok (.iload_n 1, 1) := by decide +kernel
theorem dX10_join_128 : decode cX10_join 128 = .ok (.bipush 7, 2) := by decide +kernel
theorem dX10_join_130 : decode cX10_join 130 = .ok (.iload_n 2, 1) := by decide +kernel
theorem dX10_join_131 : decode cX10_join 131 = .ok (.invokevirtual 51, 3) := by decide +kernel
theorem dX10_join_134 : decode cX10_join 134 = .ok (.aload_n 0, 1) := by decide +kernel
theorem dX10_join_135 : decode cX10_join 135 = .ok (.iload_n 1, 1) := by decide +kernel
theorem dX10_join_136 : decode cX10_join 136 = .ok (.invokevirtual 71, 3) := by decide +kernel
theorem dX10_join_139 : decode cX10_join 139 = .ok (.ireturn, 1) := by decide +kernel
theorem dX10_open_0 : decode cX10_open 0 = .ok (.aload_n 0, 1) := by decide +kernel
theorem dX10_open_1 : decode cX10_open 1 = .ok (.iload_n 1, 1) := by decide +kernel
theorem dX10_open_2 : decode cX10_open 2 = .ok (.invokevirtual 62, 3) := by decide +kernel
theorem dX10_open_5 : decode cX10_open 5 = .ok (.ifCond .eq 12, 3) := by decide +kernel
theorem dX10_open_8 : decode cX10_open 8 = .ok (.iload_n 2, 1) := by decide +kernel
theorem dX10_open_9 : decode cX10_open 9 = .ok (.iconst 0, 1) := by decide +kernel
theorem dX10_open_10 : decode cX10_open 10 = .ok (.iconst 3, 1) := by decide +kernel
theorem dX10_open_11 : decode cX10_open 11 = .ok (.invokestatic 29, 3) := by decide +kernel
theorem dX10_open_14 : decode cX10_open 14 = .ok (.ifCond .ne 5, 3) := by decide +kernel
theorem dX10_open_17 : decode cX10_open 17 = .ok (.iconst (-1), 1) := by decide +kernel
theorem dX10_open_18 : decode cX10_open 18 = .ok (.ireturn, 1) := by decide +kernel
theorem dX10_open_19 : decode cX10_open 19 = .ok (.aload_n 0, 1) := by decide +kernel
theorem dX10_open_20 : decode cX10_open 20 = .ok (.iload_n 1, 1) := by decide +kernel
theorem dX10_open_21 : decode cX10_open 21 = .ok (.iconst 0, 1) := by decide +kernel
theorem dX10_open_22 : decode cX10_open 22 = .ok (.invokevirtual 55, 3) := by decide +kernel
theorem dX10_open_25 : decode cX10_open 25 = .ok (.iconst 3, 1) := by decide +kernel
theorem dX10_open_26 : decode cX10_open 26 = .ok (.if_icmp .eq 6, 3) := by decide +kernel
theorem dX10_open_29 : decode cX10_open 29 = .ok (.bipush (-3), 2) := by decide +kernel
theorem dX10_open_31 : decode cX10_open 31 = .ok (.ireturn, 1) := by decide +kernel
theorem dX10_open_32 : decode cX10_open 32 = .ok (.aload_n 0, 1) := by decide +kernel
theorem dX10_open_33 : decode cX10_open 33 = .ok (.iload_n 1, 1) := by decide +kernel
theorem dX10_open_34 : decode cX10_open 34 = .ok (.bipush 7, 2) := by decide +kernel
theorem dX10_open_36 : decode cX10_open 36 = .ok (.bipush 100, 2) := by decide +kernel
theorem dX10_open_38 : decode cX10_open 38 = .ok (.iload_n 2, 1) := by decide +kernel
theorem dX10_open_39 : decode cX10_open 39 = .ok (.iadd, 1) := by decide +kernel
theorem dX10_open_40 : decode cX10_open 40 = .ok (.invokevirtual 51, 3) := by decide +kernel
theorem dX10_open_43 : decode cX10_open 43 = .ok (.iconst 1, 1) := by decide +kernel
theorem dX10_open_44 : decode cX10_open 44 = .ok (.ireturn, 1) := by decide +kernel
theorem dX10_part_0 : decode cX10_part 0 = .ok (.aload_n 0, 1) := by decide +kernel
theorem dX10_part_1 : decode cX10_part 1 = .ok (.iload_n 1, 1) := by decide +kernel
theorem dX10_part_2 : decode cX10_part 2 = .ok (.invokevirtual 62, 3) := by decide +kernel
theorem dX10_part_5 : decode cX10_part 5 = .ok (.ifCond .ne 5, 3) := by decide +kernel
theorem dX10_part_8 : decode cX10_part 8 = .ok (.iconst (-1), 1) := by decide +kernel
theorem dX10_part_9 : decode cX10_part 9 = .ok (.ireturn, 1) := by decide +kernel
theorem dX10_part_10 : decode cX10_part 10 = .ok (.aload_n 0, 1) := by decide +kernel
theorem dX10_part_11 : decode cX10_part 11 = .ok (.iload_n 1, 1) := by decide +kernel
theorem dX10_part_12 : decode cX10_part 12 = .ok (.bipush 7, 2) := by decide +kernel
theorem dX10_part_14 : decode cX10_part 14 = .ok (.invokevirtual 55, 3) := by decide +kernel
theorem dX10_part_17 : decode cX10_part 17 = .ok (.iconst (-1), 1) := by decide +kernel
theorem dX10_part_18 : decode cX10_part 18 = .ok (.if_icmp .ne 7, 3) := by decide +kernel
theorem dX10_part_21 : decode cX10_part 21 = .ok (.iconst 0, 1) := by decide +kernel
theorem dX10_part_22 : decode cX10_part 22 = .ok (.goto 4, 3) := by decide +kernel
theorem dX10_part_25 : decode cX10_part 25 = .ok (.iconst 1, 1) := by decide +kernel
theorem dX10_part_26 : decode cX10_part 26 = .ok (.istore_n 2, 1) := by decide +kernel
theorem dX10_part_27 : decode cX10_part 27 = .ok (.aload_n 0, 1) := by decide +kernel
theorem dX10_part_28 : decode cX10_part 28 = .ok (.iload_n 1, 1) := by decide +kernel
theorem dX10_part_29 : decode cX10_part 29 = .ok (.bipush 7, 2) := by decide +kernel
theorem dX10_part_31 : decode cX10_part 31 = .ok (.iconst (-1), 1) := by decide +kernel
theorem dX10_part_32 : decode cX10_part 32 = .ok (.invokevirtual 51, 3) := by decide +kernel
theorem dX10_part_35 : decode cX10_part 35 = .ok (.iload_n 2, 1) := by decide +kernel
theorem dX10_part_36 : decode cX10_part 36 = .ok (.ireturn, 1) := by decide +kernel
theorem dX10_block_0 : decode cX10_block 0 = .ok (.aload_n 0, 1) := by decide +kernel
theorem dX10_block_1 : decode cX10_block 1 = .ok (.iload_n 1, 1) := by decide +kernel
theorem dX10_block_2 : decode cX10_block 2 = .ok (.invokevirtual 62, 3) := by decide +kernel
theorem dX10_block_5 : decode cX10_block 5 = .ok (.ifCond .ne 5, 3) := by decide +kernel
theorem dX10_block_8 : decode cX10_block 8 = .ok (.iconst (-1), 1) := by decide +kernel
theorem dX10_block_9 : decode cX10_block 9 = .ok (.ireturn, 1) := by decide +kernel
theorem dX10_block_10 : decode cX10_block 10 = .ok (.aload_n 0, 1) := by decide +kernel
theorem dX10_block_11 : decode cX10_block 11 = .ok (.iload_n 1, 1) := by decide +kernel
theorem dX10_block_12 : decode cX10_block 12 = .ok (.bipush 8, 2) := by decide +kernel
theorem dX10_block_14 : decode cX10_block 14 = .ok (.invokevirtual 55, 3) := by decide +kernel
theorem dX10_block_17 : decode cX10_block 17 = .ok (.iconst 1, 1) := by decide +kernel
theorem dX10_block_18 : decode cX10_block 18 = .ok (.if_icmp .ne 7, 3) := by decide +kernel
theorem dX10_block_21 : decode cX10_block 21 = .ok (.iconst 1, 1) := by decide +kernel
theorem dX10_block_22 : decode cX10_block 22 = .ok (.goto 4, 3) := by decide +kernel
theorem dX10_block_25 : decode cX10_block 25 = .ok (.iconst 0, 1) := by decide +kernel
theorem dX10_block_26 : decode cX10_block 26 = .ok (.iload_n 2, 1) := by decide +kernel
theorem dX10_block_27 : decode cX10_block 27 = .ok (.if_icmp .ne 7, 3) := by decide +kernel
theorem dX10_block_30 : decode cX10_block 30 = .ok (.iconst 0, 1) := by decide +kernel
theorem dX10_block_31 : decode cX10_block 31 = .ok (.goto 4, 3) := by decide +kernel
theorem dX10_block_34 : decode cX10_block 34 = .ok (.iconst 1, 1) := by decide +kernel
theorem dX10_block_35 : decode cX10_block 35 = .ok (.istore_n 3, 1) := by decide +kernel
theorem dX10_block_36 : decode cX10_block 36 = .ok (.aload_n 0, 1) := by decide +kernel
theorem dX10_block_37 : decode cX10_block 37 = .ok (.iload_n 1, 1) := by decide +kernel
theorem dX10_block_38 : decode cX10_block 38 = .ok (.bipush 8, 2) := by decide +kernel
theorem dX10_block_40 : decode cX10_block 40 = .ok (.iload_n 2, 1) := by decide +kernel
theorem dX10_block_41 : decode cX10_block 41 = .ok (.ifCond .eq 7, 3) := by decide +kernel
theorem dX10_block_44 : decode cX10_block 44 = .ok (.iconst 1, 1) := by decide +kernel
theorem dX10_block_45 : decode cX10_block 45 = .ok (.goto 4, 3) := by decide +kernel
theorem dX10_block_48 : decode cX10_block 48 = .ok (.iconst 0, 1) := by decide +kernel
theorem dX10_block_49 : decode cX10_block 49 = .ok (.invokevirtual 51, 3) := by decide +kernel
theorem dX10_block_52 : decode cX10_block 52 = .ok (.iload_n 3, 1) := by decide +kernel
theorem dX10_block_53 : decode cX10_block 53 = .ok (.ireturn, 1) := by decide +kernel
end
section
theorem dX10_bears_0 : decode cX10_bears 0 = .ok (.aload_n 0, 1) := by decide +kernel
theorem dX10_bears_1 : decode cX10_bears 1 = .ok (.iload_n 1, 1) := by decide +kernel
theorem dX10_bears_2 : decode cX10_bears 2 = .ok (.iconst 5, 1) := by decide +kernel
theorem dX10_bears_3 : decode cX10_bears 3 = .ok (.invokevirtual 55, 3) := by decide +kernel
theorem dX10_bears_6 : decode cX10_bears 6 = .ok (.aload_n 0, 1) := by decide +kernel
theorem dX10_bears_7 : decode cX10_bears 7 = .ok (.iload_n 1, 1) := by decide +kernel
theorem dX10_bears_8 : decode cX10_bears 8 = .ok (.iconst 5, 1) := by decide +kernel
theorem dX10_bears_9 : decode cX10_bears 9 = .ok (.invokevirtual 55, 3) := by decide +kernel
theorem dX10_bears_12 : decode cX10_bears 12 = .ok (.imul, 1) := by decide +kernel
theorem dX10_bears_13 : decode cX10_bears 13 = .ok (.aload_n 0, 1) := by decide +kernel
theorem dX10_bears_14 : decode cX10_bears 14 = .ok (.iload_n 1, 1) := by decide +kernel
theorem dX10_bears_15 : decode cX10_bears 15 = .ok (.iconst 4, 1) := by decide +kernel
theorem dX10_bears_16 : decode cX10_bears 16 = .ok (.invokevirtual 55, 3) := by decide +kernel
theorem dX10_bears_19 : decode cX10_bears 19 = .ok (.iconst 5, 1) := by decide +kernel
theorem dX10_bears_20 : decode cX10_bears 20 = .ok (.iadd, 1) := by decide +kernel
theorem dX10_bears_21 : decode cX10_bears 21 = .ok (.imul, 1) := by decide +kernel
theorem dX10_bears_22 : decode cX10_bears 22 = .ok (.ireturn, 1) := by decide +kernel
theorem dX10_holds_0 : decode cX10_holds 0 = .ok (.bipush 40, 2) := by decide +kernel
theorem dX10_holds_2 : decode cX10_holds 2 = .ok (.aload_n 0, 1) := by decide +kernel
theorem dX10_holds_3 : decode cX10_holds 3 = .ok (.iload_n 1, 1) := by decide +kernel
theorem dX10_holds_4 : decode cX10_holds 4 = .ok (.iconst 5, 1) := by decide +kernel
theorem dX10_holds_5 : decode cX10_holds 5 = .ok (.invokevirtual 55, 3) := by decide +kernel
theorem dX10_holds_8 : decode cX10_holds 8 = .ok (.imul, 1) := by decide +kernel
theorem dX10_holds_9 : decode cX10_holds 9 = .ok (.aload_n 0, 1) := by decide +kernel
theorem dX10_holds_10 : decode cX10_holds 10 = .ok (.iload_n 1, 1) := by decide +kernel
theorem dX10_holds_11 : decode cX10_holds 11 = .ok (.bipush 11, 2) := by decide +kernel
theorem dX10_holds_13 : decode cX10_holds 13 = .ok (.invokevirtual 55, 3) := by decide +kernel
theorem dX10_holds_16 : decode cX10_holds 16 = .ok (.imul, 1) := by decide +kernel
theorem dX10_holds_17 : decode cX10_holds 17 = .ok (.ireturn, 1) := by decide +kernel
theorem dX10_peak_0 : decode cX10_peak 0 = .ok (.iconst 0, 1) := by decide +kernel
theorem dX10_peak_1 : decode cX10_peak 1 = .ok (.istore_n 2, 1) := by decide +kernel
theorem dX10_peak_2 : decode cX10_peak 2 = .ok (.iconst 0, 1) := by decide +kernel
theorem dX10_peak_3 : decode cX10_peak 3 = .ok (.istore_n 3, 1) := by decide +kernel
theorem dX10_peak_4 : decode cX10_peak 4 = .ok (.iload_n 3, 1) := by decide +kernel
theorem dX10_peak_5 : decode cX10_peak 5 = .ok (.aload_n 0, 1) := by decide +kernel
theorem dX10_peak_6 : decode cX10_peak 6 = .ok (.getfield 7, 3) := by decide +kernel
theorem dX10_peak_9 : decode cX10_peak 9 = .ok (.bipush 13, 2) := by decide +kernel
theorem dX10_peak_11 : decode cX10_peak 11 = .ok (.iaload, 1) := by decide +kernel
theorem dX10_peak_12 : decode cX10_peak 12 = .ok (.if_icmp .ge 32, 3) := by decide +kernel
theorem dX10_peak_15 : decode cX10_peak 15 = .ok (.iload_n 2, 1) := by decide +kernel
theorem dX10_peak_16 : decode cX10_peak 16 = .ok (.aload_n 0, 1) := by decide +kernel
theorem dX10_peak_17 : decode cX10_peak 17 = .ok (.iload_n 3, 1) := by decide +kernel
theorem dX10_peak_18 : decode cX10_peak 18 = .ok (.bipush 7, 2) := by decide +kernel
theorem dX10_peak_20 : decode cX10_peak 20 = .ok (.invokevirtual 55, 3) := by decide +kernel
theorem dX10_peak_23 : decode cX10_peak 23 = .ok (.iload_n 1, 1) := by decide +kernel
theorem dX10_peak_24 : decode cX10_peak 24 = .ok (.if_icmp .ne 11, 3) := by decide +kernel
theorem dX10_peak_27 : decode cX10_peak 27 = .ok (.aload_n 0, 1) := by decide +kernel
theorem dX10_peak_28 : decode cX10_peak 28 = .ok (.iload_n 3, 1) := by decide +kernel
theorem dX10_peak_29 : decode cX10_peak 29 = .ok (.invokevirtual 74, 3) := by decide +kernel
theorem dX10_peak_32 : decode cX10_peak 32 = .ok (.goto 4, 3) := by decide +kernel
theorem dX10_peak_35 : decode cX10_peak 35 = .ok (.iconst 0, 1) := by decide +kernel
theorem dX10_peak_36 : decode cX10_peak 36 = .ok (.iadd, 1) := by decide +kernel
theorem dX10_peak_37 : decode cX10_peak 37 = .ok (.istore_n 2, 1) := by decide +kernel
theorem dX10_peak_38 : decode cX10_peak 38 = .ok (.iinc 3 1, 3) := by decide +kernel
theorem dX10_peak_41 : decode cX10_peak 41 = .ok (.goto (-37), 3) := by decide +kernel
theorem dX10_peak_44 : decode cX10_peak 44 = .ok (.iload_n 2, 1) := by decide +kernel
theorem dX10_peak_45 : decode cX10_peak 45 = .ok (.aload_n 0, 1) := by decide +kernel
theorem dX10_peak_46 : decode cX10_peak 46 = .ok (.iload_n 1, 1) := by decide +kernel
theorem dX10_peak_47 : decode cX10_peak 47 = .ok (.invokevirtual 74, 3) := by decide +kernel
theorem dX10_peak_50 : decode cX10_peak 50 = .ok (.invokestatic 77, 3) := by decide +kernel
theorem dX10_peak_53 : decode cX10_peak 53 = .ok (.ireturn, 1) := by decide +kernel
theorem dX10_of_0 : decode cX10_of 0 = .ok (.aload_n 0, 1) := by decide +kernel
theorem dX10_of_1 : decode cX10_of 1 = .ok (.iload_n 1, 1) := by decide +kernel
theorem dX10_of_2 : decode cX10_of 2 = .ok (.invokevirtual 62, 3) := by decide +kernel
theorem dX10_of_5 : decode cX10_of 5 = .ok (.ifCond .ne 5, 3) := by decide +kernel
theorem dX10_of_8 : decode cX10_of 8 = .ok (.iconst (-1), 1) := by decide +kernel
theorem dX10_of_9 : decode cX10_of 9 = .ok (.ireturn, 1) := by decide +kernel
theorem dX10_of_10 : decode cX10_of 10 = .ok (.iload_n 2, 1) := by decide +kernel
theorem dX10_of_11 : decode cX10_of 11 = .ok (.tableswitch 147 0 11 #[61, 68, 76, 83, 89, 95, 101, 109, 117, 125, 133, 139], 61) := by decide +kernel
theorem dX10_of_72 : decode cX10_of 72 = .ok (.aload_n 0, 1) := by decide +kernel
theorem dX10_of_73 : decode cX10_of 73 = .ok (.iload_n 1, 1) := by decide +kernel
theorem dX10_of_74 : decode cX10_of 74 = .ok (.iconst 0, 1) := by decide +kernel
theorem dX10_of_75 : decode cX10_of 75 = .ok (.invokevirtual 55, 3) := by decide +kernel
theorem dX10_of_78 : decode cX10_of 78 = .ok (.ireturn, 1) := by decide +kernel
theorem dX10_of_79 : decode cX10_of 79 = .ok (.aload_n 0, 1) := by decide +kernel
theorem dX10_of_80 : decode cX10_of 80 = .ok (.iload_n 1, 1) := by decide +kernel
theorem dX10_of_81 : decode cX10_of 81 = .ok (.bipush 11, 2) := by decide +kernel
theorem dX10_of_83 : decode cX10_of 83 = .ok (.invokevirtual 55, 3) := by decide +kernel
theorem dX10_of_86 : decode cX10_of 86 = .ok (.ireturn, 1) := by decide +kernel
theorem dX10_of_87 : decode cX10_of 87 = .ok (.aload_n 0, 1) := by decide +kernel
theorem dX10_of_88 : decode cX10_of 88 = .ok (.iload_n 1, 1) := by decide +kernel
theorem dX10_of_89 : decode cX10_of 89 = .ok (.iconst 5, 1) := by decide +kernel
theorem dX10_of_90 : decode cX10_of 90 = .ok (.invokevirtual 55, 3) := by decide +kernel
theorem dX10_of_93 : decode cX10_of 93 = .ok (.ireturn, 1) := by decide +kernel
theorem dX10_of_94 : decode cX10_of 94 = .ok (.aload_n 0, 1) := by decide +kernel
theorem dX10_of_95 : decode cX10_of 95 = .ok (.iload_n 1, 1) := by decide +kernel
theorem dX10_of_96 : decode cX10_of 96 = .ok (.invokevirtual 74, 3) := by decide +kernel
theorem dX10_of_99 : decode cX10_of 99 = .ok (.ireturn, 1) := by decide +kernel
theorem dX10_of_100 : decode cX10_of 100 = .ok (.aload_n 0, 1) := by decide +kernel
theorem dX10_of_101 : decode cX10_of 101 = .ok (.iload_n 1, 1) := by decide +kernel
theorem dX10_of_102 : decode cX10_of 102 = .ok (.invokevirtual 80, 3) := by decide +kernel
theorem dX10_of_105 : decode cX10_of 105 = .ok (.ireturn, 1) := by decide +kernel
theorem dX10_of_106 : decode cX10_of 106 = .ok (.aload_n 0, 1) := by decide +kernel
theorem dX10_of_107 : decode cX10_of 107 = .ok (.iload_n 1, 1) := by decide +kernel
theorem dX10_of_108 : decode cX10_of 108 = .ok (.invokevirtual 71, 3) := by decide +kernel
theorem dX10_of_111 : decode cX10_of 111 = .ok (.ireturn, 1) := by decide +kernel
theorem dX10_of_112 : decode cX10_of 112 = .ok (.aload_n 0, 1) := by decide +kernel
theorem dX10_of_113 : decode cX10_of 113 = .ok (.iload_n 1, 1) := by decide +kernel
theorem dX10_of_114 : decode cX10_of 114 = .ok (.bipush 7, 2) := by decide +kernel
theorem dX10_of_116 : decode cX10_of 116 = .ok (.invokevirtual 55, 3) := by decide +kernel
theorem dX10_of_119 : decode cX10_of 119 = .ok (.ireturn, 1) := by decide +kernel
theorem dX10_of_120 : decode cX10_of 120 = .ok (.aload_n 0, 1) := by decide +kernel
theorem dX10_of_121 : decode cX10_of 121 = .ok (.iload_n 1, 1) := by decide +kernel
theorem dX10_of_122 : decode cX10_of 122 = .ok (.bipush 8, 2) := by decide +kernel
theorem dX10_of_124 : decode cX10_of 124 = .ok (.invokevirtual 55, 3) := by decide +kernel
theorem dX10_of_127 : decode cX10_of 127 = .ok (.ireturn, 1) := by decide +kernel
theorem dX10_of_128 : decode cX10_of 128 = .ok (.aload_n 0, 1) := by decide +kernel
theorem dX10_of_129 : decode cX10_of 129 = .ok (.iload_n 1, 1) := by decide +kernel
theorem dX10_of_130 : decode cX10_of 130 = .ok (.bipush 9, 2) := by decide +kernel
theorem dX10_of_132 : decode cX10_of 132 = .ok (.invokevirtual 55, 3) := by decide +kernel
theorem dX10_of_135 : decode cX10_of 135 = .ok (.ireturn, 1) := by decide +kernel
theorem dX10_of_136 : decode cX10_of 136 = .ok (.aload_n 0, 1) := by decide +kernel
theorem dX10_of_137 : decode cX10_of 137 = .ok (.iload_n 1, 1) := by decide +kernel
theorem dX10_of_138 : decode cX10_of 138 = .ok (.bipush 6, 2) := by decide +kernel
theorem dX10_of_140 : decode cX10_of 140 = .ok (.invokevirtual 55, 3) := by decide +kernel
theorem dX10_of_143 : decode cX10_of 143 = .ok (.ireturn, 1) := by decide +kernel
theorem dX10_of_144 : decode cX10_of 144 = .ok (.aload_n 0, 1) := by decide +kernel
theorem dX10_of_145 : decode cX10_of 145 = .ok (.iload_n 1, 1) := by decide +kernel
theorem dX10_of_146 : decode cX10_of 146 = .ok (.invokevirtual 83, 3) := by decide +kernel
theorem dX10_of_149 : decode cX10_of 149 = .ok (.ireturn, 1) := by decide +kernel
theorem dX10_of_150 : decode cX10_of 150 = .ok (.aload_n 0, 1) := by decide +kernel
theorem dX10_of_151 : decode cX10_of 151 = .ok (.iload_n 1, 1) := by decide +kernel
theorem dX10_of_152 : decode cX10_of 152 = .ok (.bipush 10, 2) := by decide +kernel
theorem dX10_of_154 : decode cX10_of 154 = .ok (.invokevirtual 55, 3) := by decide +kernel
theorem dX10_of_157 : decode cX10_of 157 = .ok (.ireturn, 1) := by decide +kernel
theorem dX10_of_158 : decode cX10_of 158 = .ok (.iconst (-1), 1) := by decide +kernel
theorem dX10_of_159 : decode cX10_of 159 = .ok (.ireturn, 1) := by decide +kernel
theorem dX10_step_0 : decode cX10_step 0 = .ok (.aload_n 0, 1) := by decide +kernel
theorem dX10_step_1 : decode cX10_step 1 = .ok (.iload_n 1, 1) := by decide +kernel
theorem dX10_step_2 : decode cX10_step 2 = .ok (.invokevirtual 62, 3) := by decide +kernel
theorem dX10_step_5 : decode cX10_step 5 = .ok (.ifCond .eq 29, 3) := by decide +kernel
theorem dX10_step_8 : decode cX10_step 8 = .ok (.iload_n 2, 1) := by decide +kernel
theorem dX10_step_9 : decode cX10_step 9 = .ok (.iconst 0, 1) := by decide +kernel
theorem dX10_step_10 : decode cX10_step 10 = .ok (.aload_n 0, 1) := by decide +kernel
theorem dX10_step_11 : decode cX10_step 11 = .ok (.iload_n 1, 1) := by decide +kernel
theorem dX10_step_12 : decode cX10_step 12 = .ok (.bipush 11, 2) := by decide +kernel
theorem dX10_step_14 : decode cX10_step 14 = .ok (.invokevirtual 55, 3) := by decide +kernel
theorem dX10_step_17 : decode cX10_step 17 = .ok (.iconst 1, 1) := by decide +kernel
theorem dX10_step_18 : decode cX10_step 18 = .ok (.isub, 1) := by decide +kernel
theorem dX10_step_19 : decode cX10_step 19 = .ok (.invokestatic 29, 3) := by decide +kernel
theorem dX10_step_22 : decode cX10_step 22 = .ok (.ifCond .eq 12, 3) := by decide +kernel
theorem dX10_step_25 : decode cX10_step 25 = .ok (.iload_n 3, 1) := by decide +kernel
theorem dX10_step_26 : decode cX10_step 26 = .ok (.iconst 0, 1) := by decide +kernel
theorem dX10_step_27 : decode cX10_step 27 = .ok (.iconst 2, 1) := by decide +kernel
theorem dX10_step_28 : decode cX10_step 28 = .ok (.invokestatic 29, 3) := by decide +kernel
theorem dX10_step_31 : decode cX10_step 31 = .ok (.ifCond .ne 7, 3) := by decide +kernel
theorem dX10_step_34 : decode cX10_step 34 = .ok (.sipush (-10000), 3) := by decide +kernel
theorem dX10_step_37 : decode cX10_step 37 = .ok (.ireturn, 1) := by decide +kernel
theorem dX10_step_38 : decode cX10_step 38 = .ok (.aload_n 0, 1) := by decide +kernel
theorem dX10_step_39 : decode cX10_step 39 = .ok (.iload_n 1, 1) := by decide +kernel
theorem dX10_step_40 : decode cX10_step 40 = .ok (.iload_n 2, 1) := by decide +kernel
theorem dX10_step_41 : decode cX10_step 41 = .ok (.invokevirtual 59, 3) := by decide +kernel
theorem dX10_step_44 : decode cX10_step 44 = .ok (.istore 4, 2) := by decide +kernel
theorem dX10_step_46 : decode cX10_step 46 = .ok (.iload_n 3, 1) := by decide +kernel
theorem dX10_step_47 : decode cX10_step 47 = .ok (.ifCond .ne 8, 3) := by decide +kernel
theorem dX10_step_50 : decode cX10_step 50 = .ok (.iload 4, 2) := by decide +kernel
theorem dX10_step_52 : decode cX10_step 52 = .ok (.goto 34, 3) := by decide +kernel
theorem dX10_step_55 : decode cX10_step 55 = .ok (.iload_n 3, 1) := by decide +kernel
theorem dX10_step_56 : decode cX10_step 56 = .ok (.iconst 1, 1) := by decide +kernel
theorem dX10_step_57 : decode cX10_step 57 = .ok (.if_icmp .ne 12, 3) := by decide +kernel
theorem dX10_step_60 : decode cX10_step 60 = .ok (.aload_n 0, 1) := by decide +kernel
theorem dX10_step_61 : decode cX10_step 61 = .ok (.iload_n 1, 1) := by decide +kernel
theorem dX10_step_62 : decode cX10_step 62 = .ok (.iload_n 2, 1) := by decide +kernel
theorem dX10_step_63 : decode cX10_step 63 = .ok (.invokevirtual 68, 3) := by decide +kernel
theorem dX10_step_66 : decode cX10_step 66 = .ok (.goto 20, 3) := by decide +kernel
theorem dX10_step_69 : decode cX10_step 69 = .ok (.aload_n 0, 1) := by decide +kernel
theorem dX10_step_70 : decode cX10_step 70 = .ok (.getfield 7, 3) := by decide +kernel
theorem dX10_step_73 : decode cX10_step 73 = .ok (.bipush 20, 2) := by decide +kernel
theorem dX10_step_75 : decode cX10_step 75 = .ok (.iload 4, 2) := by decide +kernel
theorem dX10_step_77 : decode cX10_step 77 = .ok (.iadd, 1) := by decide +kernel
theorem dX10_step_78 : decode cX10_step 78 = .ok (.iaload, 1) := by decide +kernel
theorem dX10_step_79 : decode cX10_step 79 = .ok (.aload_n 0, 1) := by decide +kernel
theorem dX10_step_80 : decode cX10_step 80 = .ok (.iload_n 1, 1) := by decide +kernel
theorem dX10_step_81 : decode cX10_step 81 = .ok (.iload_n 2, 1) := by decide +kernel
theorem dX10_step_82 : decode cX10_step 82 = .ok (.invokevirtual 68, 3) := by decide +kernel
theorem dX10_step_85 : decode cX10_step 85 = .ok (.isub, 1) := by decide +kernel
theorem dX10_step_86 : decode cX10_step 86 = .ok (.ireturn, 1) := by decide +kernel
theorem dX10_rain_0 : decode cX10_rain 0 = .ok (.iload_n 1, 1) := by decide +kernel
theorem dX10_rain_1 : decode cX10_rain 1 = .ok (.iconst (-1), 1) := by decide +kernel
theorem dX10_rain_2 : decode cX10_rain 2 = .ok (.if_icmp .eq 11, 3) := by decide +kernel
theorem dX10_rain_5 : decode cX10_rain 5 = .ok (.aload_n 0, 1) := by decide +kernel
theorem dX10_rain_6 : decode cX10_rain 6 = .ok (.iload_n 1, 1) := by decide +kernel
theorem dX10_rain_7 : decode cX10_rain 7 = .ok (.invokevirtual 33, 3) := by decide +kernel
theorem dX10_rain_10 : decode cX10_rain 10 = .ok (.ifCond .eq 14, 3) := by decide +kernel
theorem dX10_rain_13 : decode cX10_rain 13 = .ok (.iload_n 2, 1) := by decide +kernel
theorem dX10_rain_14 : decode cX10_rain 14 = .ok (.iconst 0, 1) := by decide +kernel
theorem dX10_rain_15 : decode cX10_rain 15 = .ok (.sipush 300, 3) := by decide +kernel
theorem dX10_rain_18 : decode cX10_rain 18 = .ok (.invokestatic 29, 3) := by decide +kernel
theorem dX10_rain_21 : decode cX10_rain 21 = .ok (.ifCond .ne 5, 3) := by decide +kernel
theorem dX10_rain_24 : decode cX10_rain 24 = .ok (.iconst (-1), 1) := by decide +kernel
theorem dX10_rain_25 : decode cX10_rain 25 = .ok (.ireturn, 1) := by decide +kernel
theorem dX10_rain_26 : decode cX10_rain 26 = .ok (.iconst 0, 1) := by decide +kernel
theorem dX10_rain_27 : decode cX10_rain 27 = .ok (.istore_n 3, 1) := by decide +kernel
theorem dX10_rain_28 : decode cX10_rain 28 = .ok (.iload_n 3, 1) := by decide +kernel
theorem dX10_rain_29 : decode cX10_rain 29 = .ok (.aload_n 0, 1) := by decide +kernel
theorem dX10_rain_30 : decode cX10_rain 30 = .ok (.invokevirtual 25, 3) := by decide +kernel
theorem dX10_rain_33 : decode cX10_rain 33 = .ok (.if_icmp .ge 43, 3) := by decide +kernel
theorem dX10_rain_36 : decode cX10_rain 36 = .ok (.aload_n 0, 1) := by decide +kernel
theorem dX10_rain_37 : decode cX10_rain 37 = .ok (.getfield 7, 3) := by decide +kernel
theorem dX10_rain_40 : decode cX10_rain 40 = .ok (.sipush 180, 3) := by decide +kernel
theorem dX10_rain_43 : decode cX10_rain 43 = .ok (.iload_n 3, 1) := by decide +kernel
theorem dX10_rain_44 : decode cX10_rain 44 = .ok (.iadd, 1) := by decide +kernel
theorem dX10_rain_45 : decode cX10_rain 45 = .ok (.iload_n 1, 1) := by decide +kernel
theorem dX10_rain_46 : decode cX10_rain 46 = .ok (.iconst (-1), 1) := by decide +kernel
theorem dX10_rain_47 : decode cX10_rain 47 = .ok (.if_icmp .eq 8, 3) := by decide +kernel
theorem dX10_rain_50 : decode cX10_rain 50 = .ok (.iload_n 1, 1) := by decide +kernel
theorem dX10_rain_51 : decode cX10_rain 51 = .ok (.iload_n 3, 1) := by decide +kernel
theorem dX10_rain_52 : decode cX10_rain 52 = .ok (.if_icmp .ne 7, 3) := by decide +kernel
theorem dX10_rain_55 : decode cX10_rain 55 = .ok (.iload_n 2, 1) := by decide +kernel
theorem dX10_rain_56 : decode cX10_rain 56 = .ok (.goto 13, 3) := by decide +kernel
theorem dX10_rain_59 : decode cX10_rain 59 = .ok (.aload_n 0, 1) := by decide +kernel
theorem dX10_rain_60 : decode cX10_rain 60 = .ok (.getfield 7, 3) := by decide +kernel
theorem dX10_rain_63 : decode cX10_rain 63 = .ok (.sipush 180, 3) := by decide +kernel
theorem dX10_rain_66 : decode cX10_rain 66 = .ok (.iload_n 3, 1) := by decide +kernel
theorem dX10_rain_67 : decode cX10_rain 67 = .ok (.iadd, 1) := by decide +kernel
theorem dX10_rain_68 : decode cX10_rain 68 = .ok (.iaload, 1) := by decide +kernel
theorem dX10_rain_69 : decode cX10_rain 69 = .ok (.iastore, 1) := by decide +kernel
theorem dX10_rain_70 : decode cX10_rain 70 = .ok (.iinc 3 1, 3) := by decide +kernel
theorem dX10_rain_73 : decode cX10_rain 73 = .ok (.goto (-45), 3) := by decide +kernel
theorem dX10_rain_76 : decode cX10_rain 76 = .ok (.iconst 1, 1) := by decide +kernel
theorem dX10_rain_77 : decode cX10_rain 77 = .ok (.ireturn, 1) := by decide +kernel
theorem dX10_fall_0 : decode cX10_fall 0 = .ok (.iconst 0, 1) := by decide +kernel
theorem dX10_fall_1 : decode cX10_fall 1 = .ok (.istore_n 1, 1) := by decide +kernel
theorem dX10_fall_2 : decode cX10_fall 2 = .ok (.iload_n 1, 1) := by decide +kernel
theorem dX10_fall_3 : decode cX10_fall 3 = .ok (.aload_n 0, 1) := by decide +kernel
theorem dX10_fall_4 : decode cX10_fall 4 = .ok (.invokevirtual 25, 3) := by decide +kernel
theorem dX10_fall_7 : decode cX10_fall 7 = .ok (.if_icmp .ge 123, 3) := by decide +kernel
theorem dX10_fall_10 : decode cX10_fall 10 = .ok (.aload_n 0, 1) := by decide +kernel
theorem dX10_fall_11 : decode cX10_fall 11 = .ok (.getfield 7, 3) := by decide +kernel
theorem dX10_fall_14 : decode cX10_fall 14 = .ok (.bipush 100, 2) := by decide +kernel
theorem dX10_fall_16 : decode cX10_fall 16 = .ok (.iload_n 1, 1) := by decide +kernel
theorem dX10_fall_17 : decode cX10_fall 17 = .ok (.iadd, 1) := by decide +kernel
theorem dX10_fall_18 : decode cX10_fall 18 = .ok (.dup2, 1) := by decide +kernel
theorem dX10_fall_19 : decode cX10_fall 19 = .ok (.iaload, 1) := by decide +kernel
theorem dX10_fall_20 : decode cX10_fall 20 = .ok (.aload_n 0, 1) := by decide +kernel
theorem dX10_fall_21 : decode cX10_fall 21 = .ok (.getfield 7, 3) := by decide +kernel
theorem dX10_fall_24 : decode cX10_fall 24 = .ok (.sipush 180, 3) := by decide +kernel
theorem dX10_fall_27 : decode cX10_fall 27 = .ok (.iload_n 1, 1) := by decide +kernel
theorem dX10_fall_28 : decode cX10_fall 28 = .ok (.iadd, 1) := by decide +kernel
theorem dX10_fall_29 : decode cX10_fall 29 = .ok (.iaload, 1) := by decide +kernel
theorem dX10_fall_30 : decode cX10_fall 30 = .ok (.iadd, 1) := by decide +kernel
theorem dX10_fall_31 : decode cX10_fall 31 = .ok (.iastore, 1) := by decide +kernel
theorem dX10_fall_32 : decode cX10_fall 32 = .ok (.aload_n 0, 1) := by decide +kernel
theorem dX10_fall_33 : decode cX10_fall 33 = .ok (.getfield 7, 3) := by decide +kernel
theorem dX10_fall_36 : decode cX10_fall 36 = .ok (.bipush 8, 2) := by decide +kernel
theorem dX10_fall_38 : decode cX10_fall 38 = .ok (.dup2, 1) := by decide +kernel
theorem dX10_fall_39 : decode cX10_fall 39 = .ok (.iaload, 1) := by decide +kernel
theorem dX10_fall_40 : decode cX10_fall 40 = .ok (.aload_n 0, 1) := by decide +kernel
theorem dX10_fall_41 : decode cX10_fall 41 = .ok (.getfield 7, 3) := by decide +kernel
theorem dX10_fall_44 : decode cX10_fall 44 = .ok (.sipush 180, 3) := by decide +kernel
theorem dX10_fall_47 : decode cX10_fall 47 = .ok (.iload_n 1, 1) := by decide +kernel
theorem dX10_fall_48 : decode cX10_fall 48 = .ok (.iadd, 1) := by decide +kernel
theorem dX10_fall_49 : decode cX10_fall 49 = .ok (.iaload, 1) := by decide +kernel
theorem dX10_fall_50 : decode cX10_fall 50 = .ok (.iadd, 1) := by decide +kernel
theorem dX10_fall_51 : decode cX10_fall 51 = .ok (.iastore, 1) := by decide +kernel
theorem dX10_fall_52 : decode cX10_fall 52 = .ok (.aload_n 0, 1) := by decide +kernel
theorem dX10_fall_53 : decode cX10_fall 53 = .ok (.iload_n 1, 1) := by decide +kernel
theorem dX10_fall_54 : decode cX10_fall 54 = .ok (.iconst 2, 1) := by decide +kernel
theorem dX10_fall_55 : decode cX10_fall 55 = .ok (.invokevirtual 86, 3) := by decide +kernel
theorem dX10_fall_58 : decode cX10_fall 58 = .ok (.aload_n 0, 1) := by decide +kernel
theorem dX10_fall_59 : decode cX10_fall 59 = .ok (.getfield 7, 3) := by decide +kernel
theorem dX10_fall_62 : decode cX10_fall 62 = .ok (.sipush 140, 3) := by decide +kernel
theorem dX10_fall_65 : decode cX10_fall 65 = .ok (.iload_n 1, 1) := by decide +kernel
theorem dX10_fall_66 : decode cX10_fall 66 = .ok (.iadd, 1) := by decide +kernel
theorem dX10_fall_67 : decode cX10_fall 67 = .ok (.iaload, 1) := by decide +kernel
theorem dX10_fall_68 : decode cX10_fall 68 = .ok (.isub, 1) := by decide +kernel
theorem dX10_fall_69 : decode cX10_fall 69 = .ok (.istore_n 2, 1) := by decide +kernel
theorem dX10_fall_70 : decode cX10_fall 70 = .ok (.aload_n 0, 1) := by decide +kernel
theorem dX10_fall_71 : decode cX10_fall 71 = .ok (.getfield 7, 3) := by decide +kernel
theorem dX10_fall_74 : decode cX10_fall 74 = .ok (.bipush 100, 2) := by decide +kernel
theorem dX10_fall_76 : decode cX10_fall 76 = .ok (.iload_n 1, 1) := by decide +kernel
theorem dX10_fall_77 : decode cX10_fall 77 = .ok (.iadd, 1) := by decide +kernel
theorem dX10_fall_78 : decode cX10_fall 78 = .ok (.iaload, 1) := by decide +kernel
theorem dX10_fall_79 : decode cX10_fall 79 = .ok (.aload_n 0, 1) := by decide +kernel
theorem dX10_fall_80 : decode cX10_fall 80 = .ok (.iload_n 1, 1) := by decide +kernel
theorem dX10_fall_81 : decode cX10_fall 81 = .ok (.iconst 0, 1) := by decide +kernel
theorem dX10_fall_82 : decode cX10_fall 82 = .ok (.invokevirtual 86, 3) := by decide +kernel
theorem dX10_fall_85 : decode cX10_fall 85 = .ok (.invokestatic 77, 3) := by decide +kernel
theorem dX10_fall_88 : decode cX10_fall 88 = .ok (.iload_n 2, 1) := by decide +kernel
theorem dX10_fall_89 : decode cX10_fall 89 = .ok (.invokestatic 77, 3) := by decide +kernel
theorem dX10_fall_92 : decode cX10_fall 92 = .ok (.istore_n 3, 1) := by decide +kernel
theorem dX10_fall_93 : decode cX10_fall 93 = .ok (.iload_n 3, 1) := by decide +kernel
theorem dX10_fall_94 : decode cX10_fall 94 = .ok (.ifCond .le 30, 3) := by decide +kernel
theorem dX10_fall_97 : decode cX10_fall 97 = .ok (.aload_n 0, 1) := by decide +kernel
theorem dX10_fall_98 : decode cX10_fall 98 = .ok (.getfield 7, 3) := by decide +kernel
theorem dX10_fall_101 : decode cX10_fall 101 = .ok (.bipush 100, 2) := by decide +kernel
theorem dX10_fall_103 : decode cX10_fall 103 = .ok (.iload_n 1, 1) := by decide +kernel
theorem dX10_fall_104 : decode cX10_fall 104 = .ok (.iadd, 1) := by decide +kernel
theorem dX10_fall_105 : decode cX10_fall 105 = .ok (.dup2, 1) := by decide +kernel
theorem dX10_fall_106 : decode cX10_fall 106 = .ok (.iaload, 1) := by decide +kernel
theorem dX10_fall_107 : decode cX10_fall 107 = .ok (.iload_n 3, 1) := by decide +kernel
theorem dX10_fall_108 : decode cX10_fall 108 = .ok (.isub, 1) := by decide +kernel
theorem dX10_fall_109 : decode cX10_fall 109 = .ok (.iastore, 1) := by decide +kernel
theorem dX10_fall_110 : decode cX10_fall 110 = .ok (.aload_n 0, 1) := by decide +kernel
theorem dX10_fall_111 : decode cX10_fall 111 = .ok (.getfield 7, 3) := by decide +kernel
theorem dX10_fall_114 : decode cX10_fall 114 = .ok (.sipush 140, 3) := by decide +kernel
theorem dX10_fall_117 : decode cX10_fall 117 = .ok (.iload_n 1, 1) := by decide +kernel
theorem dX10_fall_118 : decode cX10_fall 118 = .ok (.iadd, 1) := by decide +kernel
theorem dX10_fall_119 : decode cX10_fall 119 = .ok (.dup2, 1) := by decide +kernel
theorem dX10_fall_120 : decode cX10_fall 120 = .ok (.iaload, 1) := by decide +kernel
theorem dX10_fall_121 : decode cX10_fall 121 = .ok (.iload_n 3, 1) := by decide +kernel
theorem dX10_fall_122 : decode cX10_fall 122 = .ok (.iadd, 1) := by decide +kernel
theorem dX10_fall_123 : decode cX10_fall 123 = .ok (.iastore, 1) := by decide +kernel
theorem dX10_fall_124 : decode cX10_fall 124 = .ok (.iinc 1 1, 3) := by decide +kernel
theorem dX10_fall_127 : decode cX10_fall 127 = .ok (.goto (-125), 3) := by decide +kernel
theorem dX10_fall_130 : decode cX10_fall 130 = .ok (.return_, 1) := by decide +kernel
theorem dX10_isLateral_0 : decode cX10_isLateral 0 = .ok (.aload_n 0, 1) := by decide +kernel
theorem dX10_isLateral_1 : decode cX10_isLateral 1 = .ok (.iload_n 1, 1) := by decide +kernel
theorem dX10_isLateral_2 : decode cX10_isLateral 2 = .ok (.iconst 0, 1) := by decide +kernel
theorem dX10_isLateral_3 : decode cX10_isLateral 3 = .ok (.invokevirtual 55, 3) := by decide +kernel
theorem dX10_isLateral_6 : decode cX10_isLateral 6 = .ok (.iconst 2, 1) := by decide +kernel
theorem dX10_isLateral_7 : decode cX10_isLateral 7 = .ok (.irem, 1) := by decide +kernel
theorem dX10_isLateral_8 : decode cX10_isLateral 8 = .ok (.ifCond .ne 7, 3) := by decide +kernel
theorem dX10_isLateral_11 : decode cX10_isLateral 11 = .ok (.iconst 1, 1) := by decide +kernel
theorem dX10_isLateral_12 : decode cX10_isLateral 12 = .ok (.goto 4, 3) := by decide +kernel
theorem dX10_isLateral_15 : decode cX10_isLateral 15 = .ok (.iconst 0, 1) := by decide +kernel
theorem dX10_isLateral_16 : decode cX10_isLateral 16 = .ok (.ireturn, 1) := by decide +kernel
theorem dX10_seep_0 : decode cX10_seep 0 = .ok (.iconst 0, 1) := by decide +kernel
theorem dX10_seep_1 : decode cX10_seep 1 = .ok (.istore_n 1, 1) := by decide +kernel
theorem dX10_seep_2 : decode cX10_seep 2 = .ok (.iload_n 1, 1) := by decide +kernel
theorem dX10_seep_3 : decode cX10_seep 3 = .ok (.aload_n 0, 1) := by decide +kernel
theorem dX10_seep_4 : decode cX10_seep 4 = .ok (.invokevirtual 25, 3) := by decide +kernel
theorem dX10_seep_7 : decode cX10_seep 7 = .ok (.if_icmp .ge 155, 3) := by decide +kernel
theorem dX10_seep_10 : decode cX10_seep 10 = .ok (.iconst 0, 1) := by decide +kernel
theorem dX10_seep_11 : decode cX10_seep 11 = .ok (.istore_n 2, 1) := by decide +kernel
theorem dX10_seep_12 : decode cX10_seep 12 = .ok (.iload_n 2, 1) := by decide +kernel
theorem dX10_seep_13 : decode cX10_seep 13 = .ok (.aload_n 0, 1) := by decide +kernel
theorem dX10_seep_14 : decode cX10_seep 14 = .ok (.getfield 7, 3) := by decide +kernel
theorem dX10_seep_17 : decode cX10_seep 17 = .ok (.bipush 13, 2) := by decide +kernel
theorem dX10_seep_19 : decode cX10_seep 19 = .ok (.iaload, 1) := by decide +kernel
theorem dX10_seep_20 : decode cX10_seep 20 = .ok (.if_icmp .ge 136, 3) := by decide +kernel
theorem dX10_seep_23 : decode cX10_seep 23 = .ok (.aload_n 0, 1) := by decide +kernel
theorem dX10_seep_24 : decode cX10_seep 24 = .ok (.iload_n 2, 1) := by decide +kernel
theorem dX10_seep_25 : decode cX10_seep 25 = .ok (.iconst 0, 1) := by decide +kernel
theorem dX10_seep_26 : decode cX10_seep 26 = .ok (.invokevirtual 55, 3) := by decide +kernel
theorem dX10_seep_29 : decode cX10_seep 29 = .ok (.iconst 2, 1) := by decide +kernel
theorem dX10_seep_30 : decode cX10_seep 30 = .ok (.if_icmp .ne 17, 3) := by decide +kernel
theorem dX10_seep_33 : decode cX10_seep 33 = .ok (.aload_n 0, 1) := by decide +kernel
theorem dX10_seep_34 : decode cX10_seep 34 = .ok (.iload_n 2, 1) := by decide +kernel
theorem dX10_seep_35 : decode cX10_seep 35 = .ok (.bipush 6, 2) := by decide +kernel
theorem dX10_seep_37 : decode cX10_seep 37 = .ok (.invokevirtual 55, 3) := by decide +kernel
theorem dX10_seep_40 : decode cX10_seep 40 = .ok (.ifCond .ne 7, 3) := by decide +kernel
theorem dX10_seep_43 : decode cX10_seep 43 = .ok (.iconst 1, 1) := by decide +kernel
theorem dX10_seep_44 : decode cX10_seep 44 = .ok (.goto 4, 3) := by decide +kernel
theorem dX10_seep_47 : decode cX10_seep 47 = .ok (.iconst 0, 1) := by decide +kernel
theorem dX10_seep_48 : decode cX10_seep 48 = .ok (.istore_n 3, 1) := by decide +kernel
theorem dX10_seep_49 : decode cX10_seep 49 = .ok (.aload_n 0, 1) := by decide +kernel
theorem dX10_seep_50 : decode cX10_seep 50 = .ok (.iload_n 2, 1) := by decide +kernel
theorem dX10_seep_51 : decode cX10_seep 51 = .ok (.invokevirtual 89, 3) := by decide +kernel
theorem dX10_seep_54 : decode cX10_seep 54 = .ok (.ifCond .eq 96, 3) := by decide +kernel
theorem dX10_seep_57 : decode cX10_seep 57 = .ok (.aload_n 0, 1) := by decide +kernel
theorem dX10_seep_58 : decode cX10_seep 58 = .ok (.iload_n 2, 1) := by decide +kernel
theorem dX10_seep_59 : decode cX10_seep 59 = .ok (.iload_n 1, 1) := by decide +kernel
theorem dX10_seep_60 : decode cX10_seep 60 = .ok (.invokevirtual 65, 3) := by decide +kernel
theorem dX10_seep_63 : decode cX10_seep 63 = .ok (.ifCond .lt 87, 3) := by decide +kernel
theorem dX10_seep_66 : decode cX10_seep 66 = .ok (.aload_n 0, 1) := by decide +kernel
theorem dX10_seep_67 : decode cX10_seep 67 = .ok (.iload_n 2, 1) := by decide +kernel
theorem dX10_seep_68 : decode cX10_seep 68 = .ok (.bipush 8, 2) := by decide +kernel
theorem dX10_seep_70 : decode cX10_seep 70 = .ok (.invokevirtual 55, 3) := by decide +kernel
theorem dX10_seep_73 : decode cX10_seep 73 = .ok (.ifCond .ne 77, 3) := by decide +kernel
theorem dX10_seep_76 : decode cX10_seep 76 = .ok (.iload_n 3, 1) := by decide +kernel
theorem dX10_seep_77 : decode cX10_seep 77 = .ok (.ifCond .ne 73, 3) := by decide +kernel
theorem dX10_seep_80 : decode cX10_seep 80 = .ok (.aload_n 0, 1) := by decide +kernel
theorem dX10_seep_81 : decode cX10_seep 81 = .ok (.getfield 7, 3) := by decide +kernel
theorem dX10_seep_84 : decode cX10_seep 84 = .ok (.sipush 140, 3) := by decide +kernel
theorem dX10_seep_87 : decode cX10_seep 87 = .ok (.iload_n 1, 1) := by decide +kernel
theorem dX10_seep_88 : decode cX10_seep 88 = .ok (.iadd, 1) := by decide +kernel
theorem dX10_seep_89 : decode cX10_seep 89 = .ok (.iaload, 1) := by decide +kernel
theorem dX10_seep_90 : decode cX10_seep 90 = .ok (.aload_n 0, 1) := by decide +kernel
theorem dX10_seep_91 : decode cX10_seep 91 = .ok (.iload_n 1, 1) := by decide +kernel
theorem dX10_seep_92 : decode cX10_seep 92 = .ok (.iconst 1, 1) := by decide +kernel
theorem dX10_seep_93 : decode cX10_seep 93 = .ok (.invokevirtual 86, 3) := by decide +kernel
theorem dX10_seep_96 : decode cX10_seep 96 = .ok (.imul, 1) := by decide +kernel
theorem dX10_seep_97 : decode cX10_seep 97 = .ok (.bipush 100, 2) := by decide +kernel
theorem dX10_seep_99 : decode cX10_seep 99 = .ok (.idiv, 1) := by decide +kernel
theorem dX10_seep_100 : decode cX10_seep 100 = .ok (.aload_n 0, 1) := by decide +kernel
theorem dX10_seep_101 : decode cX10_seep 101 = .ok (.iload_n 2, 1) := by decide +kernel
theorem dX10_seep_102 : decode cX10_seep 102 = .ok (.invokevirtual 80, 3) := by decide +kernel
theorem dX10_seep_105 : decode cX10_seep 105 = .ok (.aload_n 0, 1) := by decide +kernel
theorem dX10_seep_106 : decode cX10_seep 106 = .ok (.iload_n 2, 1) := by decide +kernel
theorem dX10_seep_107 : decode cX10_seep 107 = .ok (.bipush 9, 2) := by decide +kernel
theorem dX10_seep_109 : decode cX10_seep 109 = .ok (.invokevirtual 55, 3) := by decide +kernel
theorem dX10_seep_112 : decode cX10_seep 112 = .ok (.isub, 1) := by decide +kernel
theorem dX10_seep_113 : decode cX10_seep 113 = .ok (.invokestatic 77, 3) := by decide +kernel
theorem dX10_seep_116 : decode cX10_seep 116 = .ok (.istore 4, 2) := by decide +kernel
theorem dX10_seep_118 : decode cX10_seep 118 = .ok (.aload_n 0, 1) := by decide +kernel
theorem dX10_seep_119 : decode cX10_seep 119 = .ok (.getfield 7, 3) := by decide +kernel
theorem dX10_seep_122 : decode cX10_seep 122 = .ok (.sipush 140, 3) := by decide +kernel
theorem dX10_seep_125 : decode cX10_seep 125 = .ok (.iload_n 1, 1) := by decide +kernel
theorem dX10_seep_126 : decode cX10_seep 126 = .ok (.iadd, 1) := by decide +kernel
theorem dX10_seep_127 : decode cX10_seep 127 = .ok (.dup2, 1) := by decide +kernel
theorem dX10_seep_128 : decode cX10_seep 128 = .ok (.iaload, 1) := by decide +kernel
theorem dX10_seep_129 : decode cX10_seep 129 = .ok (.iload 4, 2) := by decide +kernel
theorem dX10_seep_131 : decode cX10_seep 131 = .ok (.isub, 1) := by decide +kernel
theorem dX10_seep_132 : decode cX10_seep 132 = .ok (.iastore, 1) := by decide +kernel
theorem dX10_seep_133 : decode cX10_seep 133 = .ok (.aload_n 0, 1) := by decide +kernel
theorem dX10_seep_134 : decode cX10_seep 134 = .ok (.iload_n 2, 1) := by decide +kernel
theorem dX10_seep_135 : decode cX10_seep 135 = .ok (.bipush 9, 2) := by decide +kernel
theorem dX10_seep_137 : decode cX10_seep 137 = .ok (.aload_n 0, 1) := by decide +kernel
theorem dX10_seep_138 : decode cX10_seep 138 = .ok (.iload_n 2, 1) := by decide +kernel
theorem dX10_seep_139 : decode cX10_seep 139 = .ok (.bipush 9, 2) := by decide +kernel
theorem dX10_seep_141 : decode cX10_seep 141 = .ok (.invokevirtual 55, 3) := by decide +kernel
theorem dX10_seep_144 : decode cX10_seep 144 = .ok (.iload 4, 2) := by decide +kernel
theorem dX10_seep_146 : decode cX10_seep 146 = .ok (.iadd, 1) := by decide +kernel
theorem dX10_seep_147 : decode cX10_seep 147 = .ok (.invokevirtual 51, 3) := by decide +kernel
theorem dX10_seep_150 : decode cX10_seep 150 = .ok (.iinc 2 1, 3) := by decide +kernel
theorem dX10_seep_153 : decode cX10_seep 153 = .ok (.goto (-141), 3) := by decide +kernel
theorem dX10_seep_156 : decode cX10_seep 156 = .ok (.iinc 1 1, 3) := by decide +kernel
theorem dX10_seep_159 : decode cX10_seep 159 = .ok (.goto (-157), 3) := by decide +kernel
theorem dX10_seep_162 : decode cX10_seep 162 = .ok (.return_, 1) := by decide +kernel
theorem dX10_pass_0 : decode cX10_pass 0 = .ok (.aload_n 0, 1) := by decide +kernel
theorem dX10_pass_1 : decode cX10_pass 1 = .ok (.iload_n 1, 1) := by decide +kernel
theorem dX10_pass_2 : decode cX10_pass 2 = .ok (.bipush 7, 2) := by decide +kernel
theorem dX10_pass_4 : decode cX10_pass 4 = .ok (.invokevirtual 55, 3) := by decide +kernel
theorem dX10_pass_7 : decode cX10_pass 7 = .ok (.istore_n 2, 1) := by decide +kernel
theorem dX10_pass_8 : decode cX10_pass 8 = .ok (.iload_n 2, 1) := by decide +kernel
theorem dX10_pass_9 : decode cX10_pass 9 = .ok (.bipush 100, 2) := by decide +kernel
theorem dX10_pass_11 : decode cX10_pass 11 = .ok (.if_icmp .lt 37, 3) := by decide +kernel
theorem dX10_pass_14 : decode cX10_pass 14 = .ok (.aload_n 0, 1) := by decide +kernel
theorem dX10_pass_15 : decode cX10_pass 15 = .ok (.getfield 7, 3) := by decide +kernel
theorem dX10_pass_18 : decode cX10_pass 18 = .ok (.sipush 320, 3) := by decide +kernel
theorem dX10_pass_21 : decode cX10_pass 21 = .ok (.iload_n 2, 1) := by decide +kernel
theorem dX10_pass_22 : decode cX10_pass 22 = .ok (.iadd, 1) := by decide +kernel
theorem dX10_pass_23 : decode cX10_pass 23 = .ok (.bipush 100, 2) := by decide +kernel
theorem dX10_pass_25 : decode cX10_pass 25 = .ok (.isub, 1) := by decide +kernel
theorem dX10_pass_26 : decode cX10_pass 26 = .ok (.iaload, 1) := by decide +kernel
theorem dX10_pass_27 : decode cX10_pass 27 = .ok (.aload_n 0, 1) := by decide +kernel
theorem dX10_pass_28 : decode cX10_pass 28 = .ok (.iload_n 1, 1) := by decide +kernel
theorem dX10_pass_29 : decode cX10_pass 29 = .ok (.aload_n 0, 1) := by decide +kernel
theorem dX10_pass_30 : decode cX10_pass 30 = .ok (.iload_n 1, 1) := by decide +kernel
theorem dX10_pass_31 : decode cX10_pass 31 = .ok (.bipush 11, 2) := by decide +kernel
theorem dX10_pass_33 : decode cX10_pass 33 = .ok (.invokevirtual 55, 3) := by decide +kernel
theorem dX10_pass_36 : decode cX10_pass 36 = .ok (.iconst 1, 1) := by decide +kernel
theorem dX10_pass_37 : decode cX10_pass 37 = .ok (.isub, 1) := by decide +kernel
theorem dX10_pass_38 : decode cX10_pass 38 = .ok (.invokevirtual 68, 3) := by decide +kernel
theorem dX10_pass_41 : decode cX10_pass 41 = .ok (.if_icmp .le 7, 3) := by decide +kernel
theorem dX10_pass_44 : decode cX10_pass 44 = .ok (.iconst 1, 1) := by decide +kernel
theorem dX10_pass_45 : decode cX10_pass 45 = .ok (.goto 4, 3) := by decide +kernel
theorem dX10_pass_48 : decode cX10_pass 48 = .ok (.iconst 0, 1) := by decide +kernel
theorem dX10_pass_49 : decode cX10_pass 49 = .ok (.istore_n 3, 1) := by decide +kernel
theorem dX10_pass_50 : decode cX10_pass 50 = .ok (.aload_n 0, 1) := by decide +kernel
theorem dX10_pass_51 : decode cX10_pass 51 = .ok (.iload_n 1, 1) := by decide +kernel
theorem dX10_pass_52 : decode cX10_pass 52 = .ok (.bipush 10, 2) := by decide +kernel
theorem dX10_pass_54 : decode cX10_pass 54 = .ok (.iconst 0, 1) := by decide +kernel
theorem dX10_pass_55 : decode cX10_pass 55 = .ok (.invokevirtual 51, 3) := by decide +kernel
theorem dX10_pass_58 : decode cX10_pass 58 = .ok (.aload_n 0, 1) := by decide +kernel
theorem dX10_pass_59 : decode cX10_pass 59 = .ok (.iload_n 1, 1) := by decide +kernel
theorem dX10_pass_60 : decode cX10_pass 60 = .ok (.bipush 8, 2) := by decide +kernel
theorem dX10_pass_62 : decode cX10_pass 62 = .ok (.invokevirtual 55, 3) := by decide +kernel
theorem dX10_pass_65 : decode cX10_pass 65 = .ok (.iconst 1, 1) := by decide +kernel
theorem dX10_pass_66 : decode cX10_pass 66 = .ok (.if_icmp .eq 11, 3) := by decide +kernel
theorem dX10_pass_69 : decode cX10_pass 69 = .ok (.iload_n 2, 1) := by decide +kernel
theorem dX10_pass_70 : decode cX10_pass 70 = .ok (.ifCond .lt 7, 3) := by decide +kernel
theorem dX10_pass_73 : decode cX10_pass 73 = .ok (.iload_n 3, 1) := by decide +kernel
theorem dX10_pass_74 : decode cX10_pass 74 = .ok (.ifCond .eq 5, 3) := by decide +kernel
theorem dX10_pass_77 : decode cX10_pass 77 = .ok (.iconst 0, 1) := by decide +kernel
theorem dX10_pass_78 : decode cX10_pass 78 = .ok (.ireturn, 1) := by decide +kernel
theorem dX10_pass_79 : decode cX10_pass 79 = .ok (.aload_n 0, 1) := by decide +kernel
theorem dX10_pass_80 : decode cX10_pass 80 = .ok (.iload_n 1, 1) := by decide +kernel
theorem dX10_pass_81 : decode cX10_pass 81 = .ok (.bipush 9, 2) := by decide +kernel
theorem dX10_pass_83 : decode cX10_pass 83 = .ok (.invokevirtual 55, 3) := by decide +kernel
theorem dX10_pass_86 : decode cX10_pass 86 = .ok (.aload_n 0, 1) := by decide +kernel
theorem dX10_pass_87 : decode cX10_pass 87 = .ok (.iload_n 1, 1) := by decide +kernel
theorem dX10_pass_88 : decode cX10_pass 88 = .ok (.invokevirtual 74, 3) := by decide +kernel
theorem dX10_pass_91 : decode cX10_pass 91 = .ok (.invokestatic 77, 3) := by decide +kernel
theorem dX10_pass_94 : decode cX10_pass 94 = .ok (.istore 4, 2) := by decide +kernel
theorem dX10_pass_96 : decode cX10_pass 96 = .ok (.iload_n 2, 1) := by decide +kernel
theorem dX10_pass_97 : decode cX10_pass 97 = .ok (.bipush 100, 2) := by decide +kernel
theorem dX10_pass_99 : decode cX10_pass 99 = .ok (.if_icmp .ge 43, 3) := by decide +kernel
theorem dX10_pass_102 : decode cX10_pass 102 = .ok (.iload 4, 2) := by decide +kernel
theorem dX10_pass_104 : decode cX10_pass 104 = .ok (.aload_n 0, 1) := by decide +kernel
theorem dX10_pass_105 : decode cX10_pass 105 = .ok (.iload_n 2, 1) := by decide +kernel
theorem dX10_pass_106 : decode cX10_pass 106 = .ok (.invokevirtual 80, 3) := by decide +kernel
theorem dX10_pass_109 : decode cX10_pass 109 = .ok (.aload_n 0, 1) := by decide +kernel
theorem dX10_pass_110 : decode cX10_pass 110 = .ok (.iload_n 2, 1) := by decide +kernel
theorem dX10_pass_111 : decode cX10_pass 111 = .ok (.bipush 9, 2) := by decide +kernel
theorem dX10_pass_113 : decode cX10_pass 113 = .ok (.invokevirtual 55, 3) := by decide +kernel
theorem dX10_pass_116 : decode cX10_pass 116 = .ok (.isub, 1) := by decide +kernel
theorem dX10_pass_117 : decode cX10_pass 117 = .ok (.invokestatic 77, 3) := by decide +kernel
theorem dX10_pass_120 : decode cX10_pass 120 = .ok (.istore 4, 2) := by decide +kernel
theorem dX10_pass_122 : decode cX10_pass 122 = .ok (.aload_n 0, 1) := by decide +kernel
theorem dX10_pass_123 : decode cX10_pass 123 = .ok (.iload_n 2, 1) := by decide +kernel
theorem dX10_pass_124 : decode cX10_pass 124 = .ok (.bipush 9, 2) := by decide +kernel
theorem dX10_pass_126 : decode cX10_pass 126 = .ok (.aload_n 0, 1) := by decide +kernel
theorem dX10_pass_127 : decode cX10_pass 127 = .ok (.iload_n 2, 1) := by decide +kernel
theorem dX10_pass_128 : decode cX10_pass 128 = .ok (.bipush 9, 2) := by decide +kernel
theorem dX10_pass_130 : decode cX10_pass 130 = .ok (.invokevirtual 55, 3) := by decide +kernel
theorem dX10_pass_133 : decode cX10_pass 133 = .ok (.iload 4, 2) := by decide +kernel
theorem dX10_pass_135 : decode cX10_pass 135 = .ok (.iadd, 1) := by decide +kernel
theorem dX10_pass_136 : decode cX10_pass 136 = .ok (.invokevirtual 51, 3) := by decide +kernel
theorem dX10_pass_139 : decode cX10_pass 139 = .ok (.goto 20, 3) := by decide +kernel
theorem dX10_pass_142 : decode cX10_pass 142 = .ok (.aload_n 0, 1) := by decide +kernel
theorem dX10_pass_143 : decode cX10_pass 143 = .ok (.getfield 7, 3) := by decide +kernel
theorem dX10_pass_146 : decode cX10_pass 146 = .ok (.bipush 9, 2) := by decide +kernel
theorem dX10_pass_148 : decode cX10_pass 148 = .ok (.iload_n 2, 1) := by decide +kernel
theorem dX10_pass_149 : decode cX10_pass 149 = .ok (.iadd, 1) := by decide +kernel
theorem dX10_pass_150 : decode cX10_pass 150 = .ok (.bipush 100, 2) := by decide +kernel
theorem dX10_pass_152 : decode cX10_pass 152 = .ok (.isub, 1) := by decide +kernel
theorem dX10_pass_153 : decode cX10_pass 153 = .ok (.dup2, 1) := by decide +kernel
theorem dX10_pass_154 : decode cX10_pass 154 = .ok (.iaload, 1) := by decide +kernel
theorem dX10_pass_155 : decode cX10_pass 155 = .ok (.iload 4, 2) := by decide +kernel
theorem dX10_pass_157 : decode cX10_pass 157 = .ok (.iadd, 1) := by decide +kernel
theorem dX10_pass_158 : decode cX10_pass 158 = .ok (.iastore, 1) := by decide +kernel
theorem dX10_pass_159 : decode cX10_pass 159 = .ok (.aload_n 0, 1) := by decide +kernel
theorem dX10_pass_160 : decode cX10_pass 160 = .ok (.iload_n 1, 1) := by decide +kernel
theorem dX10_pass_161 : decode cX10_pass 161 = .ok (.bipush 9, 2) := by decide +kernel
theorem dX10_pass_163 : decode cX10_pass 163 = .ok (.aload_n 0, 1) := by decide +kernel
theorem dX10_pass_164 : decode cX10_pass 164 = .ok (.iload_n 1, 1) := by decide +kernel
theorem dX10_pass_165 : decode cX10_pass 165 = .ok (.bipush 9, 2) := by decide +kernel
theorem dX10_pass_167 : decode cX10_pass 167 = .ok (.invokevirtual 55, 3) := by decide +kernel
theorem dX10_pass_170 : decode cX10_pass 170 = .ok (.iload 4, 2) := by decide +kernel
theorem dX10_pass_172 : decode cX10_pass 172 = .ok (.isub, 1) := by decide +kernel
theorem dX10_pass_173 : decode cX10_pass 173 = .ok (.invokevirtual 51, 3) := by decide +kernel
theorem dX10_pass_176 : decode cX10_pass 176 = .ok (.aload_n 0, 1) := by decide +kernel
theorem dX10_pass_177 : decode cX10_pass 177 = .ok (.iload_n 1, 1) := by decide +kernel
theorem dX10_pass_178 : decode cX10_pass 178 = .ok (.bipush 10, 2) := by decide +kernel
theorem dX10_pass_180 : decode cX10_pass 180 = .ok (.iload 4, 2) := by decide +kernel
theorem dX10_pass_182 : decode cX10_pass 182 = .ok (.invokevirtual 51, 3) := by decide +kernel
theorem dX10_pass_185 : decode cX10_pass 185 = .ok (.iload_n 2, 1) := by decide +kernel
theorem dX10_pass_186 : decode cX10_pass 186 = .ok (.bipush 100, 2) := by decide +kernel
theorem dX10_pass_188 : decode cX10_pass 188 = .ok (.if_icmp .ge 7, 3) := by decide +kernel
theorem dX10_pass_191 : decode cX10_pass 191 = .ok (.iconst 0, 1) := by decide +kernel
theorem dX10_pass_192 : decode cX10_pass 192 = .ok (.goto 5, 3) := by decide +kernel
theorem dX10_pass_195 : decode cX10_pass 195 = .ok (.iload 4, 2) := by decide +kernel
theorem dX10_pass_197 : decode cX10_pass 197 = .ok (.ireturn, 1) := by decide +kernel
theorem dX10_hour_0 : decode cX10_hour 0 = .ok (.aload_n 0, 1) := by decide +kernel
theorem dX10_hour_1 : decode cX10_hour 1 = .ok (.invokevirtual 92, 3) := by decide +kernel
theorem dX10_hour_4 : decode cX10_hour 4 = .ok (.aload_n 0, 1) := by decide +kernel
theorem dX10_hour_5 : decode cX10_hour 5 = .ok (.invokevirtual 95, 3) := by decide +kernel
theorem dX10_hour_8 : decode cX10_hour 8 = .ok (.iconst 0, 1) := by decide +kernel
theorem dX10_hour_9 : decode cX10_hour 9 = .ok (.istore_n 1, 1) := by decide +kernel
theorem dX10_hour_10 : decode cX10_hour 10 = .ok (.iconst 0, 1) := by decide +kernel
theorem dX10_hour_11 : decode cX10_hour 11 = .ok (.istore_n 2, 1) := by decide +kernel
theorem dX10_hour_12 : decode cX10_hour 12 = .ok (.iload_n 2, 1) := by decide +kernel
theorem dX10_hour_13 : decode cX10_hour 13 = .ok (.bipush 20, 2) := by decide +kernel
theorem dX10_hour_15 : decode cX10_hour 15 = .ok (.if_icmp .ge 49, 3) := by decide +kernel
theorem dX10_hour_18 : decode cX10_hour 18 = .ok (.iconst 0, 1) := by decide +kernel
theorem dX10_hour_19 : decode cX10_hour 19 = .ok (.istore_n 3, 1) := by decide +kernel
theorem dX10_hour_20 : decode cX10_hour 20 = .ok (.iload_n 3, 1) := by decide +kernel
theorem dX10_hour_21 : decode cX10_hour 21 = .ok (.aload_n 0, 1) := by decide +kernel
theorem dX10_hour_22 : decode cX10_hour 22 = .ok (.getfield 7, 3) := by decide +kernel
theorem dX10_hour_25 : decode cX10_hour 25 = .ok (.bipush 13, 2) := by decide +kernel
theorem dX10_hour_27 : decode cX10_hour 27 = .ok (.iaload, 1) := by decide +kernel
theorem dX10_hour_28 : decode cX10_hour 28 = .ok (.if_icmp .ge 30, 3) := by decide +kernel
theorem dX10_hour_31 : decode cX10_hour 31 = .ok (.iload_n 1, 1) := by decide +kernel
theorem dX10_hour_32 : decode cX10_hour 32 = .ok (.aload_n 0, 1) := by decide +kernel
theorem dX10_hour_33 : decode cX10_hour 33 = .ok (.iload_n 3, 1) := by decide +kernel
theorem dX10_hour_34 : decode cX10_hour 34 = .ok (.invokevirtual 71, 3) := by decide +kernel
theorem dX10_hour_37 : decode cX10_hour 37 = .ok (.iload_n 2, 1) := by decide +kernel
theorem dX10_hour_38 : decode cX10_hour 38 = .ok (.if_icmp .ne 11, 3) := by decide +kernel
theorem dX10_hour_41 : decode cX10_hour 41 = .ok (.aload_n 0, 1) := by decide +kernel
theorem dX10_hour_42 : decode cX10_hour 42 = .ok (.iload_n 3, 1) := by decide +kernel
theorem dX10_hour_43 : decode cX10_hour 43 = .ok (.invokevirtual 98, 3) := by decide +kernel
theorem dX10_hour_46 : decode cX10_hour 46 = .ok (.goto 4, 3) := by decide +kernel
theorem dX10_hour_49 : decode cX10_hour 49 = .ok (.iconst 0, 1) := by decide +kernel
theorem dX10_hour_50 : decode cX10_hour 50 = .ok (.iadd, 1) := by decide +kernel
theorem dX10_hour_51 : decode cX10_hour 51 = .ok (.istore_n 1, 1) := by decide +kernel
theorem dX10_hour_52 : decode cX10_hour 52 = .ok (.iinc 3 1, 3) := by decide +kernel
theorem dX10_hour_55 : decode cX10_hour 55 = .ok (.goto (-35), 3) := by decide +kernel
theorem dX10_hour_58 : decode cX10_hour 58 = .ok (.iinc 2 1, 3) := by decide +kernel
theorem dX10_hour_61 : decode cX10_hour 61 = .ok (.goto (-49), 3) := by decide +kernel
theorem dX10_hour_64 : decode cX10_hour 64 = .ok (.iconst 0, 1) := by decide +kernel
theorem dX10_hour_65 : decode cX10_hour 65 = .ok (.istore_n 2, 1) := by decide +kernel
theorem dX10_hour_66 : decode cX10_hour 66 = .ok (.iload_n 2, 1) := by decide +kernel
theorem dX10_hour_67 : decode cX10_hour 67 = .ok (.aload_n 0, 1) := by decide +kernel
theorem dX10_hour_68 : decode cX10_hour 68 = .ok (.getfield 7, 3) := by decide +kernel
theorem dX10_hour_71 : decode cX10_hour 71 = .ok (.bipush 13, 2) := by decide +kernel
theorem dX10_hour_73 : decode cX10_hour 73 = .ok (.iaload, 1) := by decide +kernel
theorem dX10_hour_74 : decode cX10_hour 74 = .ok (.if_icmp .ge 39, 3) := by decide +kernel
theorem dX10_hour_77 : decode cX10_hour 77 = .ok (.aload_n 0, 1) := by decide +kernel
theorem dX10_hour_78 : decode cX10_hour 78 = .ok (.iload_n 2, 1) := by decide +kernel
theorem dX10_hour_79 : decode cX10_hour 79 = .ok (.bipush 6, 2) := by decide +kernel
theorem dX10_hour_81 : decode cX10_hour 81 = .ok (.aload_n 0, 1) := by decide +kernel
theorem dX10_hour_82 : decode cX10_hour 82 = .ok (.iload_n 2, 1) := by decide +kernel
theorem dX10_hour_83 : decode cX10_hour 83 = .ok (.bipush 6, 2) := by decide +kernel
theorem dX10_hour_85 : decode cX10_hour 85 = .ok (.invokevirtual 55, 3) := by decide +kernel
theorem dX10_hour_88 : decode cX10_hour 88 = .ok (.ifCond .le 15, 3) := by decide +kernel
theorem dX10_hour_91 : decode cX10_hour 91 = .ok (.aload_n 0, 1) := by decide +kernel
theorem dX10_hour_92 : decode cX10_hour 92 = .ok (.iload_n 2, 1) := by decide +kernel
theorem dX10_hour_93 : decode cX10_hour 93 = .ok (.bipush 6, 2) := by decide +kernel
theorem dX10_hour_95 : decode cX10_hour 95 = .ok (.invokevirtual 55, 3) := by decide +kernel
theorem dX10_hour_98 : decode cX10_hour 98 = .ok (.iconst 1, 1) := by decide +kernel
theorem dX10_hour_99 : decode cX10_hour 99 = .ok (.isub, 1) := by decide +kernel
theorem dX10_hour_100 : decode cX10_hour 100 = .ok (.goto 4, 3) := by decide +kernel
theorem dX10_hour_103 : decode cX10_hour 103 = .ok (.iconst 0, 1) := by decide +kernel
theorem dX10_hour_104 : decode cX10_hour 104 = .ok (.invokevirtual 51, 3) := by decide +kernel
theorem dX10_hour_107 : decode cX10_hour 107 = .ok (.iinc 2 1, 3) := by decide +kernel
theorem dX10_hour_110 : decode cX10_hour 110 = .ok (.goto (-44), 3) := by decide +kernel
theorem dX10_hour_113 : decode cX10_hour 113 = .ok (.aload_n 0, 1) := by decide +kernel
theorem dX10_hour_114 : decode cX10_hour 114 = .ok (.getfield 7, 3) := by decide +kernel
theorem dX10_hour_117 : decode cX10_hour 117 = .ok (.bipush 7, 2) := by decide +kernel
theorem dX10_hour_119 : decode cX10_hour 119 = .ok (.dup2, 1) := by decide +kernel
theorem dX10_hour_120 : decode cX10_hour 120 = .ok (.iaload, 1) := by decide +kernel
theorem dX10_hour_121 : decode cX10_hour 121 = .ok (.iconst 1, 1) := by decide +kernel
theorem dX10_hour_122 : decode cX10_hour 122 = .ok (.iadd, 1) := by decide +kernel
theorem dX10_hour_123 : decode cX10_hour 123 = .ok (.iastore, 1) := by decide +kernel
theorem dX10_hour_124 : decode cX10_hour 124 = .ok (.iload_n 1, 1) := by decide +kernel
theorem dX10_hour_125 : decode cX10_hour 125 = .ok (.ireturn, 1) := by decide +kernel
theorem dX10_hours_0 : decode cX10_hours 0 = .ok (.iload_n 1, 1) := by decide +kernel
theorem dX10_hours_1 : decode cX10_hours 1 = .ok (.iconst 1, 1) := by decide +kernel
theorem dX10_hours_2 : decode cX10_hours 2 = .ok (.bipush 50, 2) := by decide +kernel
theorem dX10_hours_4 : decode cX10_hours 4 = .ok (.invokestatic 29, 3) := by decide +kernel
theorem dX10_hours_7 : decode cX10_hours 7 = .ok (.ifCond .ne 5, 3) := by decide +kernel
theorem dX10_hours_10 : decode cX10_hours 10 = .ok (.iconst (-1), 1) := by decide +kernel
theorem dX10_hours_11 : decode cX10_hours 11 = .ok (.ireturn, 1) := by decide +kernel
theorem dX10_hours_12 : decode cX10_hours 12 = .ok (.iconst 0, 1) := by decide +kernel
theorem dX10_hours_13 : decode cX10_hours 13 = .ok (.istore_n 2, 1) := by decide +kernel
theorem dX10_hours_14 : decode cX10_hours 14 = .ok (.iconst 0, 1) := by decide +kernel
theorem dX10_hours_15 : decode cX10_hours 15 = .ok (.istore_n 3, 1) := by decide +kernel
theorem dX10_hours_16 : decode cX10_hours 16 = .ok (.iload_n 3, 1) := by decide +kernel
theorem dX10_hours_17 : decode cX10_hours 17 = .ok (.iload_n 1, 1) := by decide +kernel
theorem dX10_hours_18 : decode cX10_hours 18 = .ok (.if_icmp .ge 16, 3) := by decide +kernel
theorem dX10_hours_21 : decode cX10_hours 21 = .ok (.iload_n 2, 1) := by decide +kernel
theorem dX10_hours_22 : decode cX10_hours 22 = .ok (.aload_n 0, 1) := by decide +kernel
theorem dX10_hours_23 : decode cX10_hours 23 = .ok (.invokevirtual 101, 3) := by decide +kernel
theorem dX10_hours_26 : decode cX10_hours 26 = .ok (.iadd, 1) := by decide +kernel
theorem dX10_hours_27 : decode cX10_hours 27 = .ok (.istore_n 2, 1) := by decide +kernel
theorem dX10_hours_28 : decode cX10_hours 28 = .ok (.iinc 3 1, 3) := by decide +kernel
theorem dX10_hours_31 : decode cX10_hours 31 = .ok (.goto (-15), 3) := by decide +kernel
theorem dX10_hours_34 : decode cX10_hours 34 = .ok (.iload_n 2, 1) := by decide +kernel
theorem dX10_hours_35 : decode cX10_hours 35 = .ok (.ireturn, 1) := by decide +kernel
theorem dX10_isReached_0 : decode cX10_isReached 0 = .ok (.iconst 0, 1) := by decide +kernel
theorem dX10_isReached_1 : decode cX10_isReached 1 = .ok (.istore_n 2, 1) := by decide +kernel
theorem dX10_isReached_2 : decode cX10_isReached 2 = .ok (.iconst 0, 1) := by decide +kernel
theorem dX10_isReached_3 : decode cX10_isReached 3 = .ok (.istore_n 3, 1) := by decide +kernel
theorem dX10_isReached_4 : decode cX10_isReached 4 = .ok (.iload_n 3, 1) := by decide +kernel
theorem dX10_isReached_5 : decode cX10_isReached 5 = .ok (.aload_n 0, 1) := by decide +kernel
theorem dX10_isReached_6 : decode cX10_isReached 6 = .ok (.getfield 7, 3) := by decide +kernel
theorem dX10_isReached_9 : decode cX10_isReached 9 = .ok (.bipush 13, 2) := by decide +kernel
theorem dX10_isReached_11 : decode cX10_isReached 11 = .ok (.iaload, 1) := by decide +kernel
theorem dX10_isReached_12 : decode cX10_isReached 12 = .ok (.if_icmp .ge 106, 3) := by decide +kernel
theorem dX10_isReached_15 : decode cX10_isReached 15 = .ok (.iconst 0, 1) := by decide +kernel
theorem dX10_isReached_16 : decode cX10_isReached 16 = .ok (.istore 4, 2) := by decide +kernel
theorem dX10_isReached_18 : decode cX10_isReached 18 = .ok (.iload 4, 2) := by decide +kernel
theorem dX10_isReached_20 : decode cX10_isReached 20 = .ok (.aload_n 0, 1) := by decide +kernel
theorem dX10_isReached_21 : decode cX10_isReached 21 = .ok (.iload_n 3, 1) := by decide +kernel
theorem dX10_isReached_22 : decode cX10_isReached 22 = .ok (.bipush 11, 2) := by decide +kernel
theorem dX10_isReached_24 : decode cX10_isReached 24 = .ok (.invokevirtual 55, 3) := by decide +kernel
theorem dX10_isReached_27 : decode cX10_isReached 27 = .ok (.if_icmp .ge 85, 3) := by decide +kernel
theorem dX10_isReached_30 : decode cX10_isReached 30 = .ok (.aload_n 0, 1) := by decide +kernel
theorem dX10_isReached_31 : decode cX10_isReached 31 = .ok (.iload_n 3, 1) := by decide +kernel
theorem dX10_isReached_32 : decode cX10_isReached 32 = .ok (.invokevirtual 89, 3) := by decide +kernel
theorem dX10_isReached_35 : decode cX10_isReached 35 = .ok (.ifCond .eq 77, 3) := by decide +kernel
theorem dX10_isReached_38 : decode cX10_isReached 38 = .ok (.aload_n 0, 1) := by decide +kernel
theorem dX10_isReached_39 : decode cX10_isReached 39 = .ok (.iload_n 1, 1) := by decide +kernel
theorem dX10_isReached_40 : decode cX10_isReached 40 = .ok (.invokevirtual 37, 3) := by decide +kernel
theorem dX10_isReached_43 : decode cX10_isReached 43 = .ok (.aload_n 0, 1) := by decide +kernel
theorem dX10_isReached_44 : decode cX10_isReached 44 = .ok (.aload_n 0, 1) := by decide +kernel
theorem dX10_isReached_45 : decode cX10_isReached 45 = .ok (.iload_n 3, 1) := by decide +kernel
theorem dX10_isReached_46 : decode cX10_isReached 46 = .ok (.iload 4, 2) := by decide +kernel
theorem dX10_isReached_48 : decode cX10_isReached 48 = .ok (.invokevirtual 59, 3) := by decide +kernel
theorem dX10_isReached_51 : decode cX10_isReached 51 = .ok (.invokevirtual 37, 3) := by decide +kernel
theorem dX10_isReached_54 : decode cX10_isReached 54 = .ok (.isub, 1) := by decide +kernel
theorem dX10_isReached_55 : decode cX10_isReached 55 = .ok (.istore 5, 2) := by decide +kernel
theorem dX10_isReached_57 : decode cX10_isReached 57 = .ok (.aload_n 0, 1) := by decide +kernel
theorem dX10_isReached_58 : decode cX10_isReached 58 = .ok (.iload_n 1, 1) := by decide +kernel
theorem dX10_isReached_59 : decode cX10_isReached 59 = .ok (.invokevirtual 41, 3) := by decide +kernel
theorem dX10_isReached_62 : decode cX10_isReached 62 = .ok (.aload_n 0, 1) := by decide +kernel
theorem dX10_isReached_63 : decode cX10_isReached 63 = .ok (.aload_n 0, 1) := by decide +kernel
theorem dX10_isReached_64 : decode cX10_isReached 64 = .ok (.iload_n 3, 1) := by decide +kernel
theorem dX10_isReached_65 : decode cX10_isReached 65 = .ok (.iload 4, 2) := by decide +kernel
theorem dX10_isReached_67 : decode cX10_isReached 67 = .ok (.invokevirtual 59, 3) := by decide +kernel
theorem dX10_isReached_70 : decode cX10_isReached 70 = .ok (.invokevirtual 41, 3) := by decide +kernel
theorem dX10_isReached_73 : decode cX10_isReached 73 = .ok (.isub, 1) := by decide +kernel
theorem dX10_isReached_74 : decode cX10_isReached 74 = .ok (.istore 6, 2) := by decide +kernel
theorem dX10_isReached_76 : decode cX10_isReached 76 = .ok (.iload_n 2, 1) := by decide +kernel
theorem dX10_isReached_77 : decode cX10_isReached 77 = .ok (.ifCond .ne 23, 3) := by decide +kernel
theorem dX10_isReached_80 : decode cX10_isReached 80 = .ok (.iload 5, 2) := by decide +kernel
theorem dX10_isReached_82 : decode cX10_isReached 82 = .ok (.iload 5, 2) := by decide +kernel
theorem dX10_isReached_84 : decode cX10_isReached 84 = .ok (.imul, 1) := by decide +kernel
theorem dX10_isReached_85 : decode cX10_isReached 85 = .ok (.iload 6, 2) := by decide +kernel
theorem dX10_isReached_87 : decode cX10_isReached 87 = .ok (.iload 6, 2) := by decide +kernel
theorem dX10_isReached_89 : decode cX10_isReached 89 = .ok (.imul, 1) := by decide +kernel
theorem dX10_isReached_90 : decode cX10_isReached 90 = .ok (.iadd, 1) := by decide +kernel
theorem dX10_isReached_91 : decode cX10_isReached 91 = .ok (.aload_n 0, 1) := by decide +kernel
theorem dX10_isReached_92 : decode cX10_isReached 92 = .ok (.iload_n 1, 1) := by decide +kernel
theorem dX10_isReached_93 : decode cX10_isReached 93 = .ok (.iconst 3, 1) := by decide +kernel
theorem dX10_isReached_94 : decode cX10_isReached 94 = .ok (.invokevirtual 86, 3) := by decide +kernel
theorem dX10_isReached_97 : decode cX10_isReached 97 = .ok (.if_icmp .gt 7, 3) := by decide +kernel
theorem dX10_isReached_100 : decode cX10_isReached 100 = .ok (.iconst 1, 1) := by decide +kernel
theorem dX10_isReached_101 : decode cX10_isReached 101 = .ok (.goto 4, 3) := by decide +kernel
theorem dX10_isReached_104 : decode cX10_isReached 104 = .ok (.iconst 0, 1) := by decide +kernel
theorem dX10_isReached_105 : decode cX10_isReached 105 = .ok (.istore_n 2, 1) := by decide +kernel
theorem dX10_isReached_106 : decode cX10_isReached 106 = .ok (.iinc 4 1, 3) := by decide +kernel
theorem dX10_isReached_109 : decode cX10_isReached 109 = .ok (.goto (-91), 3) := by decide +kernel
theorem dX10_isReached_112 : decode cX10_isReached 112 = .ok (.iinc 3 1, 3) := by decide +kernel
theorem dX10_isReached_115 : decode cX10_isReached 115 = .ok (.goto (-111), 3) := by decide +kernel
theorem dX10_isReached_118 : decode cX10_isReached 118 = .ok (.iload_n 2, 1) := by decide +kernel
theorem dX10_isReached_119 : decode cX10_isReached 119 = .ok (.ireturn, 1) := by decide +kernel
theorem dX10_at_0 : decode cX10_at 0 = .ok (.aload_n 0, 1) := by decide +kernel
theorem dX10_at_1 : decode cX10_at 1 = .ok (.iload_n 1, 1) := by decide +kernel
theorem dX10_at_2 : decode cX10_at 2 = .ok (.invokevirtual 33, 3) := by decide +kernel
theorem dX10_at_5 : decode cX10_at 5 = .ok (.ifCond .ne 5, 3) := by decide +kernel
theorem dX10_at_8 : decode cX10_at 8 = .ok (.iconst (-1), 1) := by decide +kernel
theorem dX10_at_9 : decode cX10_at 9 = .ok (.ireturn, 1) := by decide +kernel
theorem dX10_at_10 : decode cX10_at 10 = .ok (.iload_n 2, 1) := by decide +kernel
theorem dX10_at_11 : decode cX10_at 11 = .ok (.tableswitch 103 0 5 #[37, 47, 57, 67, 78, 89], 37) := by decide +kernel
theorem dX10_at_48 : decode cX10_at 48 = .ok (.aload_n 0, 1) := by decide +kernel
theorem dX10_at_49 : decode cX10_at 49 = .ok (.getfield 7, 3) := by decide +kernel
theorem dX10_at_52 : decode cX10_at 52 = .ok (.bipush 20, 2) := by decide +kernel
theorem dX10_at_54 : decode cX10_at 54 = .ok (.iload_n 1, 1) := by decide +kernel
theorem dX10_at_55 : decode cX10_at 55 = .ok (.iadd, 1) := by decide +kernel
theorem dX10_at_56 : decode cX10_at 56 = .ok (.iaload, 1) := by decide +kernel
theorem dX10_at_57 : decode cX10_at 57 = .ok (.ireturn, 1) := by decide +kernel
theorem dX10_at_58 : decode cX10_at 58 = .ok (.aload_n 0, 1) := by decide +kernel
theorem dX10_at_59 : decode cX10_at 59 = .ok (.getfield 7, 3) := by decide +kernel
theorem dX10_at_62 : decode cX10_at 62 = .ok (.bipush 60, 2) := by decide +kernel
theorem dX10_at_64 : decode cX10_at 64 = .ok (.iload_n 1, 1) := by decide +kernel
theorem dX10_at_65 : decode cX10_at 65 = .ok (.iadd, 1) := by decide +kernel
theorem dX10_at_66 : decode cX10_at 66 = .ok (.iaload, 1) := by decide +kernel
theorem dX10_at_67 : decode cX10_at 67 = .ok (.ireturn, 1) := by decide +kernel
theorem dX10_at_68 : decode cX10_at 68 = .ok (.aload_n 0, 1) := by decide +kernel
theorem dX10_at_69 : decode cX10_at 69 = .ok (.getfield 7, 3) := by decide +kernel
theorem dX10_at_72 : decode cX10_at 72 = .ok (.bipush 100, 2) := by decide +kernel
theorem dX10_at_74 : decode cX10_at 74 = .ok (.iload_n 1, 1) := by decide +kernel
theorem dX10_at_75 : decode cX10_at 75 = .ok (.iadd, 1) := by decide +kernel
theorem dX10_at_76 : decode cX10_at 76 = .ok (.iaload, 1) := by decide +kernel
theorem dX10_at_77 : decode cX10_at 77 = .ok (.ireturn, 1) := by decide +kernel
theorem dX10_at_78 : decode cX10_at 78 = .ok (.aload_n 0, 1) := by decide +kernel
theorem dX10_at_79 : decode cX10_at 79 = .ok (.getfield 7, 3) := by decide +kernel
theorem dX10_at_82 : decode cX10_at 82 = .ok (.sipush 140, 3) := by decide +kernel
theorem dX10_at_85 : decode cX10_at 85 = .ok (.iload_n 1, 1) := by decide +kernel
theorem dX10_at_86 : decode cX10_at 86 = .ok (.iadd, 1) := by decide +kernel
theorem dX10_at_87 : decode cX10_at 87 = .ok (.iaload, 1) := by decide +kernel
theorem dX10_at_88 : decode cX10_at 88 = .ok (.ireturn, 1) := by decide +kernel
theorem dX10_at_89 : decode cX10_at 89 = .ok (.aload_n 0, 1) := by decide +kernel
theorem dX10_at_90 : decode cX10_at 90 = .ok (.getfield 7, 3) := by decide +kernel
theorem dX10_at_93 : decode cX10_at 93 = .ok (.sipush 180, 3) := by decide +kernel
theorem dX10_at_96 : decode cX10_at 96 = .ok (.iload_n 1, 1) := by decide +kernel
theorem dX10_at_97 : decode cX10_at 97 = .ok (.iadd, 1) := by decide +kernel
theorem dX10_at_98 : decode cX10_at 98 = .ok (.iaload, 1) := by decide +kernel
theorem dX10_at_99 : decode cX10_at 99 = .ok (.ireturn, 1) := by decide +kernel
theorem dX10_at_100 : decode cX10_at 100 = .ok (.aload_n 0, 1) := by decide +kernel
theorem dX10_at_101 : decode cX10_at 101 = .ok (.iload_n 1, 1) := by decide +kernel
theorem dX10_at_102 : decode cX10_at 102 = .ok (.invokevirtual 104, 3) := by decide +kernel
theorem dX10_at_105 : decode cX10_at 105 = .ok (.ifCond .eq 7, 3) := by decide +kernel
theorem dX10_at_108 : decode cX10_at 108 = .ok (.iconst 1, 1) := by decide +kernel
theorem dX10_at_109 : decode cX10_at 109 = .ok (.goto 4, 3) := by decide +kernel
theorem dX10_at_112 : decode cX10_at 112 = .ok (.iconst 0, 1) := by decide +kernel
theorem dX10_at_113 : decode cX10_at 113 = .ok (.ireturn, 1) := by decide +kernel
theorem dX10_at_114 : decode cX10_at 114 = .ok (.iconst (-1), 1) := by decide +kernel
theorem dX10_at_115 : decode cX10_at 115 = .ok (.ireturn, 1) := by decide +kernel
theorem dX10_sum_0 : decode cX10_sum 0 = .ok (.iconst 0, 1) := by decide +kernel
theorem dX10_sum_1 : decode cX10_sum 1 = .ok (.istore_n 2, 1) := by decide +kernel
theorem dX10_sum_2 : decode cX10_sum 2 = .ok (.iconst 0, 1) := by decide +kernel
theorem dX10_sum_3 : decode cX10_sum 3 = .ok (.istore_n 3, 1) := by decide +kernel
theorem dX10_sum_4 : decode cX10_sum 4 = .ok (.iload_n 3, 1) := by decide +kernel
theorem dX10_sum_5 : decode cX10_sum 5 = .ok (.aload_n 0, 1) := by decide +kernel
theorem dX10_sum_6 : decode cX10_sum 6 = .ok (.invokevirtual 25, 3) := by decide +kernel
theorem dX10_sum_9 : decode cX10_sum 9 = .ok (.if_icmp .ge 20, 3) := by decide +kernel
theorem dX10_sum_12 : decode cX10_sum 12 = .ok (.iload_n 2, 1) := by decide +kernel
theorem dX10_sum_13 : decode cX10_sum 13 = .ok (.aload_n 0, 1) := by decide +kernel
theorem dX10_sum_14 : decode cX10_sum 14 = .ok (.getfield 7, 3) := by decide +kernel
theorem dX10_sum_17 : decode cX10_sum 17 = .ok (.iload_n 1, 1) := by decide +kernel
theorem dX10_sum_18 : decode cX10_sum 18 = .ok (.iload_n 3, 1) := by decide +kernel
theorem dX10_sum_19 : decode cX10_sum 19 = .ok (.iadd, 1) := by decide +kernel
theorem dX10_sum_20 : decode cX10_sum 20 = .ok (.iaload, 1) := by decide +kernel
theorem dX10_sum_21 : decode cX10_sum 21 = .ok (.iadd, 1) := by decide +kernel
theorem dX10_sum_22 : decode cX10_sum 22 = .ok (.istore_n 2, 1) := by decide +kernel
theorem dX10_sum_23 : decode cX10_sum 23 = .ok (.iinc 3 1, 3) := by decide +kernel
theorem dX10_sum_26 : decode cX10_sum 26 = .ok (.goto (-22), 3) := by decide +kernel
theorem dX10_sum_29 : decode cX10_sum 29 = .ok (.iload_n 2, 1) := by decide +kernel
theorem dX10_sum_30 : decode cX10_sum 30 = .ok (.ireturn, 1) := by decide +kernel
theorem dX10_sumOfPipes_0 : decode cX10_sumOfPipes 0 = .ok (.iconst 0, 1) := by decide +kernel
theorem dX10_sumOfPipes_1 : decode cX10_sumOfPipes 1 = .ok (.istore_n 2, 1) := by decide +kernel
theorem dX10_sumOfPipes_2 : decode cX10_sumOfPipes 2 = .ok (.iconst 0, 1) := by decide +kernel
theorem dX10_sumOfPipes_3 : decode cX10_sumOfPipes 3 = .ok (.istore_n 3, 1) := by decide +kernel
theorem dX10_sumOfPipes_4 : decode cX10_sumOfPipes 4 = .ok (.iload_n 3, 1) := by decide +kernel
theorem dX10_sumOfPipes_5 : decode cX10_sumOfPipes 5 = .ok (.aload_n 0, 1) := by decide +kernel
theorem dX10_sumOfPipes_6 : decode cX10_sumOfPipes 6 = .ok (.getfield 7, 3) := by decide +kernel
theorem dX10_sumOfPipes_9 : decode cX10_sumOfPipes 9 = .ok (.bipush 13, 2) := by decide +kernel
theorem dX10_sumOfPipes_11 : decode cX10_sumOfPipes 11 = .ok (.iaload, 1) := by decide +kernel
theorem dX10_sumOfPipes_12 : decode cX10_sumOfPipes 12 = .ok (.if_icmp .ge 18, 3) := by decide +kernel
theorem dX10_sumOfPipes_15 : decode cX10_sumOfPipes 15 = .ok (.iload_n 2, 1) := by decide +kernel
theorem dX10_sumOfPipes_16 : decode cX10_sumOfPipes 16 = .ok (.aload_n 0, 1) := by decide +kernel
theorem dX10_sumOfPipes_17 : decode cX10_sumOfPipes 17 = .ok (.iload_n 3, 1) := by decide +kernel
theorem dX10_sumOfPipes_18 : decode cX10_sumOfPipes 18 = .ok (.iload_n 1, 1) := by decide +kernel
theorem dX10_sumOfPipes_19 : decode cX10_sumOfPipes 19 = .ok (.invokevirtual 55, 3) := by decide +kernel
theorem dX10_sumOfPipes_22 : decode cX10_sumOfPipes 22 = .ok (.iadd, 1) := by decide +kernel
theorem dX10_sumOfPipes_23 : decode cX10_sumOfPipes 23 = .ok (.istore_n 2, 1) := by decide +kernel
theorem dX10_sumOfPipes_24 : decode cX10_sumOfPipes 24 = .ok (.iinc 3 1, 3) := by decide +kernel
theorem dX10_sumOfPipes_27 : decode cX10_sumOfPipes 27 = .ok (.goto (-23), 3) := by decide +kernel
theorem dX10_sumOfPipes_30 : decode cX10_sumOfPipes 30 = .ok (.iload_n 2, 1) := by decide +kernel
theorem dX10_sumOfPipes_31 : decode cX10_sumOfPipes 31 = .ok (.ireturn, 1) := by decide +kernel
theorem dX10_all_0 : decode cX10_all 0 = .ok (.iload_n 1, 1) := by decide +kernel
theorem dX10_all_1 : decode cX10_all 1 = .ok (.tableswitch 89 0 7 #[47, 54, 62, 69, 69, 69, 69, 81], 47) := by decide +kernel
theorem dX10_all_48 : decode cX10_all 48 = .ok (.aload_n 0, 1) := by decide +kernel
theorem dX10_all_49 : decode cX10_all 49 = .ok (.bipush 100, 2) := by decide +kernel
theorem dX10_all_51 : decode cX10_all 51 = .ok (.invokevirtual 107, 3) := by decide +kernel
theorem dX10_all_54 : decode cX10_all 54 = .ok (.ireturn, 1) := by decide +kernel
theorem dX10_all_55 : decode cX10_all 55 = .ok (.aload_n 0, 1) := by decide +kernel
theorem dX10_all_56 : decode cX10_all 56 = .ok (.sipush 140, 3) := by decide +kernel
theorem dX10_all_59 : decode cX10_all 59 = .ok (.invokevirtual 107, 3) := by decide +kernel
theorem dX10_all_62 : decode cX10_all 62 = .ok (.ireturn, 1) := by decide +kernel
theorem dX10_all_63 : decode cX10_all 63 = .ok (.aload_n 0, 1) := by decide +kernel
theorem dX10_all_64 : decode cX10_all 64 = .ok (.bipush 9, 2) := by decide +kernel
theorem dX10_all_66 : decode cX10_all 66 = .ok (.invokevirtual 110, 3) := by decide +kernel
theorem dX10_all_69 : decode cX10_all 69 = .ok (.ireturn, 1) := by decide +kernel
theorem dX10_all_70 : decode cX10_all 70 = .ok (.aload_n 0, 1) := by decide +kernel
theorem dX10_all_71 : decode cX10_all 71 = .ok (.getfield 7, 3) := by decide +kernel
theorem dX10_all_74 : decode cX10_all 74 = .ok (.bipush 9, 2) := by decide +kernel
theorem dX10_all_76 : decode cX10_all 76 = .ok (.iload_n 1, 1) := by decide +kernel
theorem dX10_all_77 : decode cX10_all 77 = .ok (.iadd, 1) := by decide +kernel
theorem dX10_all_78 : decode cX10_all 78 = .ok (.iconst 3, 1) := by decide +kernel
theorem dX10_all_79 : decode cX10_all 79 = .ok (.isub, 1) := by decide +kernel
theorem dX10_all_80 : decode cX10_all 80 = .ok (.iaload, 1) := by decide +kernel
theorem dX10_all_81 : decode cX10_all 81 = .ok (.ireturn, 1) := by decide +kernel
theorem dX10_all_82 : decode cX10_all 82 = .ok (.aload_n 0, 1) := by decide +kernel
theorem dX10_all_83 : decode cX10_all 83 = .ok (.getfield 7, 3) := by decide +kernel
theorem dX10_all_86 : decode cX10_all 86 = .ok (.bipush 8, 2) := by decide +kernel
theorem dX10_all_88 : decode cX10_all 88 = .ok (.iaload, 1) := by decide +kernel
theorem dX10_all_89 : decode cX10_all 89 = .ok (.ireturn, 1) := by decide +kernel
theorem dX10_all_90 : decode cX10_all 90 = .ok (.iconst (-1), 1) := by decide +kernel
theorem dX10_all_91 : decode cX10_all 91 = .ok (.ireturn, 1) := by decide +kernel
theorem dX10_dryMany_0 : decode cX10_dryMany 0 = .ok (.iconst 0, 1) := by decide +kernel
theorem dX10_dryMany_1 : decode cX10_dryMany 1 = .ok (.istore_n 1, 1) := by decide +kernel
theorem dX10_dryMany_2 : decode cX10_dryMany 2 = .ok (.iconst 0, 1) := by decide +kernel
theorem dX10_dryMany_3 : decode cX10_dryMany 3 = .ok (.istore_n 2, 1) := by decide +kernel
theorem dX10_dryMany_4 : decode cX10_dryMany 4 = .ok (.iload_n 2, 1) := by decide +kernel
theorem dX10_dryMany_5 : decode cX10_dryMany 5 = .ok (.aload_n 0, 1) := by decide +kernel
theorem dX10_dryMany_6 : decode cX10_dryMany 6 = .ok (.invokevirtual 25, 3) := by decide +kernel
theorem dX10_dryMany_9 : decode cX10_dryMany 9 = .ok (.if_icmp .ge 25, 3) := by decide +kernel
theorem dX10_dryMany_12 : decode cX10_dryMany 12 = .ok (.iload_n 1, 1) := by decide +kernel
theorem dX10_dryMany_13 : decode cX10_dryMany 13 = .ok (.aload_n 0, 1) := by decide +kernel
theorem dX10_dryMany_14 : decode cX10_dryMany 14 = .ok (.iload_n 2, 1) := by decide +kernel
theorem dX10_dryMany_15 : decode cX10_dryMany 15 = .ok (.invokevirtual 104, 3) := by decide +kernel
theorem dX10_dryMany_18 : decode cX10_dryMany 18 = .ok (.ifCond .eq 7, 3) := by decide +kernel
theorem dX10_dryMany_21 : decode cX10_dryMany 21 = .ok (.iconst 0, 1) := by decide +kernel
theorem dX10_dryMany_22 : decode cX10_dryMany 22 = .ok (.goto 4, 3) := by decide +kernel
theorem dX10_dryMany_25 : decode cX10_dryMany 25 = .ok (.iconst 1, 1) := by decide +kernel
theorem dX10_dryMany_26 : decode cX10_dryMany 26 = .ok (.iadd, 1) := by decide +kernel
theorem dX10_dryMany_27 : decode cX10_dryMany 27 = .ok (.istore_n 1, 1) := by decide +kernel
theorem dX10_dryMany_28 : decode cX10_dryMany 28 = .ok (.iinc 2 1, 3) := by decide +kernel
theorem dX10_dryMany_31 : decode cX10_dryMany 31 = .ok (.goto (-27), 3) := by decide +kernel
theorem dX10_dryMany_34 : decode cX10_dryMany 34 = .ok (.iload_n 1, 1) := by decide +kernel
theorem dX10_dryMany_35 : decode cX10_dryMany 35 = .ok (.ireturn, 1) := by decide +kernel
theorem dX10_many_0 : decode cX10_many 0 = .ok (.iload_n 1, 1) := by decide +kernel
theorem dX10_many_1 : decode cX10_many 1 = .ok (.tableswitch 92 0 6 #[43, 48, 56, 64, 69, 77, 85], 43) := by decide +kernel
theorem dX10_many_44 : decode cX10_many 44 = .ok (.aload_n 0, 1) := by decide +kernel
theorem dX10_many_45 : decode cX10_many 45 = .ok (.invokevirtual 25, 3) := by decide +kernel
theorem dX10_many_48 : decode cX10_many 48 = .ok (.ireturn, 1) := by decide +kernel
theorem dX10_many_49 : decode cX10_many 49 = .ok (.aload_n 0, 1) := by decide +kernel
theorem dX10_many_50 : decode cX10_many 50 = .ok (.getfield 7, 3) := by decide +kernel
theorem dX10_many_53 : decode cX10_many 53 = .ok (.bipush 13, 2) := by decide +kernel
theorem dX10_many_55 : decode cX10_many 55 = .ok (.iaload, 1) := by decide +kernel
theorem dX10_many_56 : decode cX10_many 56 = .ok (.ireturn, 1) := by decide +kernel
theorem dX10_many_57 : decode cX10_many 57 = .ok (.aload_n 0, 1) := by decide +kernel
theorem dX10_many_58 : decode cX10_many 58 = .ok (.getfield 7, 3) := by decide +kernel
theorem dX10_many_61 : decode cX10_many 61 = .ok (.bipush 7, 2) := by decide +kernel
theorem dX10_many_63 : decode cX10_many 63 = .ok (.iaload, 1) := by decide +kernel
theorem dX10_many_64 : decode cX10_many 64 = .ok (.ireturn, 1) := by decide +kernel
theorem dX10_many_65 : decode cX10_many 65 = .ok (.aload_n 0, 1) := by decide +kernel
theorem dX10_many_66 : decode cX10_many 66 = .ok (.invokevirtual 113, 3) := by decide +kernel
theorem dX10_many_69 : decode cX10_many 69 = .ok (.ireturn, 1) := by decide +kernel
theorem dX10_many_70 : decode cX10_many 70 = .ok (.aload_n 0, 1) := by decide +kernel
theorem dX10_many_71 : decode cX10_many 71 = .ok (.sipush 220, 3) := by decide +kernel
theorem dX10_many_74 : decode cX10_many 74 = .ok (.invokevirtual 107, 3) := by decide +kernel
theorem dX10_many_77 : decode cX10_many 77 = .ok (.ireturn, 1) := by decide +kernel
theorem dX10_many_78 : decode cX10_many 78 = .ok (.aload_n 0, 1) := by decide +kernel
theorem dX10_many_79 : decode cX10_many 79 = .ok (.sipush 260, 3) := by decide +kernel
theorem dX10_many_82 : decode cX10_many 82 = .ok (.invokevirtual 107, 3) := by decide +kernel
theorem dX10_many_85 : decode cX10_many 85 = .ok (.ireturn, 1) := by decide +kernel
theorem dX10_many_86 : decode cX10_many 86 = .ok (.aload_n 0, 1) := by decide +kernel
theorem dX10_many_87 : decode cX10_many 87 = .ok (.bipush 8, 2) := by decide +kernel
theorem dX10_many_89 : decode cX10_many 89 = .ok (.invokevirtual 110, 3) := by decide +kernel
theorem dX10_many_92 : decode cX10_many 92 = .ok (.ireturn, 1) := by decide +kernel
theorem dX10_many_93 : decode cX10_many 93 = .ok (.iconst (-1), 1) := by decide +kernel
theorem dX10_many_94 : decode cX10_many 94 = .ok (.ireturn, 1) := by decide +kernel
theorem dX10_dry_0 : decode cX10_dry 0 = .ok (.iload_n 1, 1) := by decide +kernel
theorem dX10_dry_1 : decode cX10_dry 1 = .ok (.istore_n 2, 1) := by decide +kernel
theorem dX10_dry_2 : decode cX10_dry 2 = .ok (.iconst 0, 1) := by decide +kernel
theorem dX10_dry_3 : decode cX10_dry 3 = .ok (.istore_n 3, 1) := by decide +kernel
theorem dX10_dry_4 : decode cX10_dry 4 = .ok (.iload_n 3, 1) := by decide +kernel
theorem dX10_dry_5 : decode cX10_dry 5 = .ok (.aload_n 0, 1) := by decide +kernel
theorem dX10_dry_6 : decode cX10_dry 6 = .ok (.invokevirtual 25, 3) := by decide +kernel
theorem dX10_dry_9 : decode cX10_dry 9 = .ok (.if_icmp .ge 26, 3) := by decide +kernel
theorem dX10_dry_12 : decode cX10_dry 12 = .ok (.aload_n 0, 1) := by decide +kernel
theorem dX10_dry_13 : decode cX10_dry 13 = .ok (.iload_n 3, 1) := by decide +kernel
theorem dX10_dry_14 : decode cX10_dry 14 = .ok (.invokevirtual 104, 3) := by decide +kernel
theorem dX10_dry_17 : decode cX10_dry 17 = .ok (.ifCond .ne 12, 3) := by decide +kernel
theorem dX10_dry_20 : decode cX10_dry 20 = .ok (.iload_n 2, 1) := by decide +kernel
theorem dX10_dry_21 : decode cX10_dry 21 = .ok (.ifCond .ne 5, 3) := by decide +kernel
theorem dX10_dry_24 : decode cX10_dry 24 = .ok (.iload_n 3, 1) := by decide +kernel
theorem dX10_dry_25 : decode cX10_dry 25 = .ok (.ireturn, 1) := by decide +kernel
theorem dX10_dry_26 : decode cX10_dry 26 = .ok (.iinc 2 (-1), 3) := by decide +kernel
theorem dX10_dry_29 : decode cX10_dry 29 = .ok (.iinc 3 1, 3) := by decide +kernel
theorem dX10_dry_32 : decode cX10_dry 32 = .ok (.goto (-28), 3) := by decide +kernel
theorem dX10_dry_35 : decode cX10_dry 35 = .ok (.bipush (-6), 2) := by decide +kernel
theorem dX10_dry_37 : decode cX10_dry 37 = .ok (.ireturn, 1) := by decide +kernel
theorem dX10_set_0 : decode cX10_set 0 = .ok (.aload_n 0, 1) := by decide +kernel
theorem dX10_set_1 : decode cX10_set 1 = .ok (.iload_n 2, 1) := by decide +kernel
theorem dX10_set_2 : decode cX10_set 2 = .ok (.invokevirtual 33, 3) := by decide +kernel
theorem dX10_set_5 : decode cX10_set 5 = .ok (.ifCond .ne 5, 3) := by decide +kernel
theorem dX10_set_8 : decode cX10_set 8 = .ok (.iconst (-1), 1) := by decide +kernel
theorem dX10_set_9 : decode cX10_set 9 = .ok (.ireturn, 1) := by decide +kernel
theorem dX10_set_10 : decode cX10_set 10 = .ok (.aload_n 0, 1) := by decide +kernel
theorem dX10_set_11 : decode cX10_set 11 = .ok (.getfield 7, 3) := by decide +kernel
theorem dX10_set_14 : decode cX10_set 14 = .ok (.iload_n 1, 1) := by decide +kernel
theorem dX10_set_15 : decode cX10_set 15 = .ok (.iload_n 2, 1) := by decide +kernel
theorem dX10_set_16 : decode cX10_set 16 = .ok (.iadd, 1) := by decide +kernel
theorem dX10_set_17 : decode cX10_set 17 = .ok (.iaload, 1) := by decide +kernel
theorem dX10_set_18 : decode cX10_set 18 = .ok (.iconst 1, 1) := by decide +kernel
theorem dX10_set_19 : decode cX10_set 19 = .ok (.if_icmp .ne 7, 3) := by decide +kernel
theorem dX10_set_22 : decode cX10_set 22 = .ok (.iconst 1, 1) := by decide +kernel
theorem dX10_set_23 : decode cX10_set 23 = .ok (.goto 4, 3) := by decide +kernel
theorem dX10_set_26 : decode cX10_set 26 = .ok (.iconst 0, 1) := by decide +kernel
theorem dX10_set_27 : decode cX10_set 27 = .ok (.iload_n 3, 1) := by decide +kernel
theorem dX10_set_28 : decode cX10_set 28 = .ok (.if_icmp .ne 7, 3) := by decide +kernel
theorem dX10_set_31 : decode cX10_set 31 = .ok (.iconst 0, 1) := by decide +kernel
theorem dX10_set_32 : decode cX10_set 32 = .ok (.goto 4, 3) := by decide +kernel
theorem dX10_set_35 : decode cX10_set 35 = .ok (.iconst 1, 1) := by decide +kernel
theorem dX10_set_36 : decode cX10_set 36 = .ok (.istore 4, 2) := by decide +kernel
theorem dX10_set_38 : decode cX10_set 38 = .ok (.aload_n 0, 1) := by decide +kernel
theorem dX10_set_39 : decode cX10_set 39 = .ok (.getfield 7, 3) := by decide +kernel
theorem dX10_set_42 : decode cX10_set 42 = .ok (.iload_n 1, 1) := by decide +kernel
theorem dX10_set_43 : decode cX10_set 43 = .ok (.iload_n 2, 1) := by decide +kernel
theorem dX10_set_44 : decode cX10_set 44 = .ok (.iadd, 1) := by decide +kernel
theorem dX10_set_45 : decode cX10_set 45 = .ok (.iload_n 3, 1) := by decide +kernel
theorem dX10_set_46 : decode cX10_set 46 = .ok (.ifCond .eq 7, 3) := by decide +kernel
theorem dX10_set_49 : decode cX10_set 49 = .ok (.iconst 1, 1) := by decide +kernel
theorem dX10_set_50 : decode cX10_set 50 = .ok (.goto 4, 3) := by decide +kernel
theorem dX10_set_53 : decode cX10_set 53 = .ok (.iconst 0, 1) := by decide +kernel
theorem dX10_set_54 : decode cX10_set 54 = .ok (.iastore, 1) := by decide +kernel
theorem dX10_set_55 : decode cX10_set 55 = .ok (.iload 4, 2) := by decide +kernel
theorem dX10_set_57 : decode cX10_set 57 = .ok (.ireturn, 1) := by decide +kernel
end
section
theorem dX10_mark_0 : decode cX10_mark 0 = .ok (.aload_n 0, 1) := by decide +kernel
theorem dX10_mark_1 : decode cX10_mark 1 = .ok (.sipush 220, 3) := by decide +kernel
theorem dX10_mark_4 : decode cX10_mark 4 = .ok (.iload_n 1, 1) := by decide +kernel
theorem dX10_mark_5 : decode cX10_mark 5 = .ok (.iload_n 2, 1) := by decide +kernel
theorem dX10_mark_6 : decode cX10_mark 6 = .ok (.invokevirtual 116, 3) := by decide +kernel
theorem dX10_mark_9 : decode cX10_mark 9 = .ok (.ireturn, 1) := by decide +kernel
theorem dX10_cost_0 : decode cX10_cost 0 = .ok (.bipush 10, 2) := by decide +kernel
theorem dX10_cost_2 : decode cX10_cost 2 = .ok (.aload_n 0, 1) := by decide +kernel
theorem dX10_cost_3 : decode cX10_cost 3 = .ok (.iload_n 1, 1) := by decide +kernel
theorem dX10_cost_4 : decode cX10_cost 4 = .ok (.invokevirtual 37, 3) := by decide +kernel
theorem dX10_cost_7 : decode cX10_cost 7 = .ok (.aload_n 0, 1) := by decide +kernel
theorem dX10_cost_8 : decode cX10_cost 8 = .ok (.iload_n 2, 1) := by decide +kernel
theorem dX10_cost_9 : decode cX10_cost 9 = .ok (.invokevirtual 37, 3) := by decide +kernel
theorem dX10_cost_12 : decode cX10_cost 12 = .ok (.isub, 1) := by decide +kernel
theorem dX10_cost_13 : decode cX10_cost 13 = .ok (.invokestatic 44, 3) := by decide +kernel
theorem dX10_cost_16 : decode cX10_cost 16 = .ok (.aload_n 0, 1) := by decide +kernel
theorem dX10_cost_17 : decode cX10_cost 17 = .ok (.iload_n 1, 1) := by decide +kernel
theorem dX10_cost_18 : decode cX10_cost 18 = .ok (.invokevirtual 41, 3) := by decide +kernel
theorem dX10_cost_21 : decode cX10_cost 21 = .ok (.aload_n 0, 1) := by decide +kernel
theorem dX10_cost_22 : decode cX10_cost 22 = .ok (.iload_n 2, 1) := by decide +kernel
theorem dX10_cost_23 : decode cX10_cost 23 = .ok (.invokevirtual 41, 3) := by decide +kernel
theorem dX10_cost_26 : decode cX10_cost 26 = .ok (.isub, 1) := by decide +kernel
theorem dX10_cost_27 : decode cX10_cost 27 = .ok (.invokestatic 44, 3) := by decide +kernel
theorem dX10_cost_30 : decode cX10_cost 30 = .ok (.iadd, 1) := by decide +kernel
theorem dX10_cost_31 : decode cX10_cost 31 = .ok (.imul, 1) := by decide +kernel
theorem dX10_cost_32 : decode cX10_cost 32 = .ok (.aload_n 0, 1) := by decide +kernel
theorem dX10_cost_33 : decode cX10_cost 33 = .ok (.getfield 7, 3) := by decide +kernel
theorem dX10_cost_36 : decode cX10_cost 36 = .ok (.bipush 20, 2) := by decide +kernel
theorem dX10_cost_38 : decode cX10_cost 38 = .ok (.iload_n 1, 1) := by decide +kernel
theorem dX10_cost_39 : decode cX10_cost 39 = .ok (.iadd, 1) := by decide +kernel
theorem dX10_cost_40 : decode cX10_cost 40 = .ok (.iaload, 1) := by decide +kernel
theorem dX10_cost_41 : decode cX10_cost 41 = .ok (.aload_n 0, 1) := by decide +kernel
theorem dX10_cost_42 : decode cX10_cost 42 = .ok (.getfield 7, 3) := by decide +kernel
theorem dX10_cost_45 : decode cX10_cost 45 = .ok (.bipush 20, 2) := by decide +kernel
theorem dX10_cost_47 : decode cX10_cost 47 = .ok (.iload_n 2, 1) := by decide +kernel
theorem dX10_cost_48 : decode cX10_cost 48 = .ok (.iadd, 1) := by decide +kernel
theorem dX10_cost_49 : decode cX10_cost 49 = .ok (.iaload, 1) := by decide +kernel
theorem dX10_cost_50 : decode cX10_cost 50 = .ok (.isub, 1) := by decide +kernel
theorem dX10_cost_51 : decode cX10_cost 51 = .ok (.invokestatic 44, 3) := by decide +kernel
theorem dX10_cost_54 : decode cX10_cost 54 = .ok (.iadd, 1) := by decide +kernel
theorem dX10_cost_55 : decode cX10_cost 55 = .ok (.ireturn, 1) := by decide +kernel
theorem dX10_takePair_0 : decode cX10_takePair 0 = .ok (.iconst (-1), 1) := by decide +kernel
theorem dX10_takePair_1 : decode cX10_takePair 1 = .ok (.istore_n 1, 1) := by decide +kernel
theorem dX10_takePair_2 : decode cX10_takePair 2 = .ok (.iconst 0, 1) := by decide +kernel
theorem dX10_takePair_3 : decode cX10_takePair 3 = .ok (.istore_n 2, 1) := by decide +kernel
theorem dX10_takePair_4 : decode cX10_takePair 4 = .ok (.iload_n 2, 1) := by decide +kernel
theorem dX10_takePair_5 : decode cX10_takePair 5 = .ok (.aload_n 0, 1) := by decide +kernel
theorem dX10_takePair_6 : decode cX10_takePair 6 = .ok (.invokevirtual 25, 3) := by decide +kernel
theorem dX10_takePair_9 : decode cX10_takePair 9 = .ok (.if_icmp .ge 114, 3) := by decide +kernel
theorem dX10_takePair_12 : decode cX10_takePair 12 = .ok (.iload_n 2, 1) := by decide +kernel
theorem dX10_takePair_13 : decode cX10_takePair 13 = .ok (.iconst 1, 1) := by decide +kernel
theorem dX10_takePair_14 : decode cX10_takePair 14 = .ok (.iadd, 1) := by decide +kernel
theorem dX10_takePair_15 : decode cX10_takePair 15 = .ok (.istore_n 3, 1) := by decide +kernel
theorem dX10_takePair_16 : decode cX10_takePair 16 = .ok (.iload_n 3, 1) := by decide +kernel
theorem dX10_takePair_17 : decode cX10_takePair 17 = .ok (.aload_n 0, 1) := by decide +kernel
theorem dX10_takePair_18 : decode cX10_takePair 18 = .ok (.invokevirtual 25, 3) := by decide +kernel
theorem dX10_takePair_21 : decode cX10_takePair 21 = .ok (.if_icmp .ge 96, 3) := by decide +kernel
theorem dX10_takePair_24 : decode cX10_takePair 24 = .ok (.aload_n 0, 1) := by decide +kernel
theorem dX10_takePair_25 : decode cX10_takePair 25 = .ok (.getfield 7, 3) := by decide +kernel
theorem dX10_takePair_28 : decode cX10_takePair 28 = .ok (.sipush 220, 3) := by decide +kernel
theorem dX10_takePair_31 : decode cX10_takePair 31 = .ok (.iload_n 2, 1) := by decide +kernel
theorem dX10_takePair_32 : decode cX10_takePair 32 = .ok (.iadd, 1) := by decide +kernel
theorem dX10_takePair_33 : decode cX10_takePair 33 = .ok (.iaload, 1) := by decide +kernel
theorem dX10_takePair_34 : decode cX10_takePair 34 = .ok (.iconst 1, 1) := by decide +kernel
theorem dX10_takePair_35 : decode cX10_takePair 35 = .ok (.if_icmp .ne 36, 3) := by decide +kernel
theorem dX10_takePair_38 : decode cX10_takePair 38 = .ok (.aload_n 0, 1) := by decide +kernel
theorem dX10_takePair_39 : decode cX10_takePair 39 = .ok (.getfield 7, 3) := by decide +kernel
theorem dX10_takePair_42 : decode cX10_takePair 42 = .ok (.sipush 220, 3) := by decide +kernel
theorem dX10_takePair_45 : decode cX10_takePair 45 = .ok (.iload_n 3, 1) := by decide +kernel
theorem dX10_takePair_46 : decode cX10_takePair 46 = .ok (.iadd, 1) := by decide +kernel
theorem dX10_takePair_47 : decode cX10_takePair 47 = .ok (.iaload, 1) := by decide +kernel
theorem dX10_takePair_48 : decode cX10_takePair 48 = .ok (.iconst 1, 1) := by decide +kernel
theorem dX10_takePair_49 : decode cX10_takePair 49 = .ok (.if_icmp .ne 22, 3) := by decide +kernel
theorem dX10_takePair_52 : decode cX10_takePair 52 = .ok (.aload_n 0, 1) := by decide +kernel
theorem dX10_takePair_53 : decode cX10_takePair 53 = .ok (.getfield 19, 3) := by decide +kernel
theorem dX10_takePair_56 : decode cX10_takePair 56 = .ok (.iload_n 2, 1) := by decide +kernel
theorem dX10_takePair_57 : decode cX10_takePair 57 = .ok (.iaload, 1) := by decide +kernel
theorem dX10_takePair_58 : decode cX10_takePair 58 = .ok (.aload_n 0, 1) := by decide +kernel
theorem dX10_takePair_59 : decode cX10_takePair 59 = .ok (.getfield 19, 3) := by decide +kernel
theorem dX10_takePair_62 : decode cX10_takePair 62 = .ok (.iload_n 3, 1) := by decide +kernel
theorem dX10_takePair_63 : decode cX10_takePair 63 = .ok (.iaload, 1) := by decide +kernel
theorem dX10_takePair_64 : decode cX10_takePair 64 = .ok (.if_icmp .eq 7, 3) := by decide +kernel
theorem dX10_takePair_67 : decode cX10_takePair 67 = .ok (.iconst 1, 1) := by decide +kernel
theorem dX10_takePair_68 : decode cX10_takePair 68 = .ok (.goto 4, 3) := by decide +kernel
theorem dX10_takePair_71 : decode cX10_takePair 71 = .ok (.iconst 0, 1) := by decide +kernel
theorem dX10_takePair_72 : decode cX10_takePair 72 = .ok (.istore 4, 2) := by decide +kernel
theorem dX10_takePair_74 : decode cX10_takePair 74 = .ok (.iload 4, 2) := by decide +kernel
theorem dX10_takePair_76 : decode cX10_takePair 76 = .ok (.ifCond .eq 35, 3) := by decide +kernel
theorem dX10_takePair_79 : decode cX10_takePair 79 = .ok (.iload_n 1, 1) := by decide +kernel
theorem dX10_takePair_80 : decode cX10_takePair 80 = .ok (.ifCond .lt 24, 3) := by decide +kernel
theorem dX10_takePair_83 : decode cX10_takePair 83 = .ok (.aload_n 0, 1) := by decide +kernel
theorem dX10_takePair_84 : decode cX10_takePair 84 = .ok (.iload_n 2, 1) := by decide +kernel
theorem dX10_takePair_85 : decode cX10_takePair 85 = .ok (.iload_n 3, 1) := by decide +kernel
theorem dX10_takePair_86 : decode cX10_takePair 86 = .ok (.invokevirtual 120, 3) := by decide +kernel
theorem dX10_takePair_89 : decode cX10_takePair 89 = .ok (.aload_n 0, 1) := by decide +kernel
theorem dX10_takePair_90 : decode cX10_takePair 90 = .ok (.iload_n 1, 1) := by decide +kernel
theorem dX10_takePair_91 : decode cX10_takePair 91 = .ok (.bipush 100, 2) := by decide +kernel
theorem dX10_takePair_93 : decode cX10_takePair 93 = .ok (.idiv, 1) := by decide +kernel
theorem dX10_takePair_94 : decode cX10_takePair 94 = .ok (.iload_n 1, 1) := by decide +kernel
theorem dX10_takePair_95 : decode cX10_takePair 95 = .ok (.bipush 100, 2) := by decide +kernel
theorem dX10_takePair_97 : decode cX10_takePair 97 = .ok (.irem, 1) := by decide +kernel
theorem dX10_takePair_98 : decode cX10_takePair 98 = .ok (.invokevirtual 120, 3) := by decide +kernel
theorem dX10_takePair_101 : decode cX10_takePair 101 = .ok (.if_icmp .ge 10, 3) := by decide +kernel
theorem dX10_takePair_104 : decode cX10_takePair 104 = .ok (.bipush 100, 2) := by decide +kernel
theorem dX10_takePair_106 : decode cX10_takePair 106 = .ok (.iload_n 2, 1) := by decide +kernel
theorem dX10_takePair_107 : decode cX10_takePair 107 = .ok (.imul, 1) := by decide +kernel
theorem dX10_takePair_108 : decode cX10_takePair 108 = .ok (.iload_n 3, 1) := by decide +kernel
theorem dX10_takePair_109 : decode cX10_takePair 109 = .ok (.iadd, 1) := by decide +kernel
theorem dX10_takePair_110 : decode cX10_takePair 110 = .ok (.istore_n 1, 1) := by decide +kernel
theorem dX10_takePair_111 : decode cX10_takePair 111 = .ok (.iinc 3 1, 3) := by decide +kernel
theorem dX10_takePair_114 : decode cX10_takePair 114 = .ok (.goto (-98), 3) := by decide +kernel
theorem dX10_takePair_117 : decode cX10_takePair 117 = .ok (.iinc 2 1, 3) := by decide +kernel
theorem dX10_takePair_120 : decode cX10_takePair 120 = .ok (.goto (-116), 3) := by decide +kernel
theorem dX10_takePair_123 : decode cX10_takePair 123 = .ok (.iload_n 1, 1) := by decide +kernel
theorem dX10_takePair_124 : decode cX10_takePair 124 = .ok (.ifCond .ge 5, 3) := by decide +kernel
theorem dX10_takePair_127 : decode cX10_takePair 127 = .ok (.iconst 0, 1) := by decide +kernel
theorem dX10_takePair_128 : decode cX10_takePair 128 = .ok (.ireturn, 1) := by decide +kernel
theorem dX10_takePair_129 : decode cX10_takePair 129 = .ok (.aload_n 0, 1) := by decide +kernel
theorem dX10_takePair_130 : decode cX10_takePair 130 = .ok (.getfield 19, 3) := by decide +kernel
theorem dX10_takePair_133 : decode cX10_takePair 133 = .ok (.iload_n 1, 1) := by decide +kernel
theorem dX10_takePair_134 : decode cX10_takePair 134 = .ok (.bipush 100, 2) := by decide +kernel
theorem dX10_takePair_136 : decode cX10_takePair 136 = .ok (.irem, 1) := by decide +kernel
theorem dX10_takePair_137 : decode cX10_takePair 137 = .ok (.iaload, 1) := by decide +kernel
theorem dX10_takePair_138 : decode cX10_takePair 138 = .ok (.istore_n 2, 1) := by decide +kernel
theorem dX10_takePair_139 : decode cX10_takePair 139 = .ok (.iconst 0, 1) := by decide +kernel
theorem dX10_takePair_140 : decode cX10_takePair 140 = .ok (.istore_n 3, 1) := by decide +kernel
theorem dX10_takePair_141 : decode cX10_takePair 141 = .ok (.iload_n 3, 1) := by decide +kernel
theorem dX10_takePair_142 : decode cX10_takePair 142 = .ok (.aload_n 0, 1) := by decide +kernel
theorem dX10_takePair_143 : decode cX10_takePair 143 = .ok (.invokevirtual 25, 3) := by decide +kernel
theorem dX10_takePair_146 : decode cX10_takePair 146 = .ok (.if_icmp .ge 43, 3) := by decide +kernel
theorem dX10_takePair_149 : decode cX10_takePair 149 = .ok (.aload_n 0, 1) := by decide +kernel
theorem dX10_takePair_150 : decode cX10_takePair 150 = .ok (.getfield 19, 3) := by decide +kernel
theorem dX10_takePair_153 : decode cX10_takePair 153 = .ok (.iload_n 3, 1) := by decide +kernel
theorem dX10_takePair_154 : decode cX10_takePair 154 = .ok (.aload_n 0, 1) := by decide +kernel
theorem dX10_takePair_155 : decode cX10_takePair 155 = .ok (.getfield 19, 3) := by decide +kernel
theorem dX10_takePair_158 : decode cX10_takePair 158 = .ok (.iload_n 3, 1) := by decide +kernel
theorem dX10_takePair_159 : decode cX10_takePair 159 = .ok (.iaload, 1) := by decide +kernel
theorem dX10_takePair_160 : decode cX10_takePair 160 = .ok (.iload_n 2, 1) := by decide +kernel
theorem dX10_takePair_161 : decode cX10_takePair 161 = .ok (.if_icmp .ne 15, 3) := by decide +kernel
theorem dX10_takePair_164 : decode cX10_takePair 164 = .ok (.aload_n 0, 1) := by decide +kernel
theorem dX10_takePair_165 : decode cX10_takePair 165 = .ok (.getfield 19, 3) := by decide +kernel
theorem dX10_takePair_168 : decode cX10_takePair 168 = .ok (.iload_n 1, 1) := by decide +kernel
theorem dX10_takePair_169 : decode cX10_takePair 169 = .ok (.bipush 100, 2) := by decide +kernel
theorem dX10_takePair_171 : decode cX10_takePair 171 = .ok (.idiv, 1) := by decide +kernel
theorem dX10_takePair_172 : decode cX10_takePair 172 = .ok (.iaload, 1) := by decide +kernel
theorem dX10_takePair_173 : decode cX10_takePair 173 = .ok (.goto 9, 3) := by decide +kernel
theorem dX10_takePair_176 : decode cX10_takePair 176 = .ok (.aload_n 0, 1) := by decide +kernel
theorem dX10_takePair_177 : decode cX10_takePair 177 = .ok (.getfield 19, 3) := by decide +kernel
theorem dX10_takePair_180 : decode cX10_takePair 180 = .ok (.iload_n 3, 1) := by decide +kernel
theorem dX10_takePair_181 : decode cX10_takePair 181 = .ok (.iaload, 1) := by decide +kernel
theorem dX10_takePair_182 : decode cX10_takePair 182 = .ok (.iastore, 1) := by decide +kernel
theorem dX10_takePair_183 : decode cX10_takePair 183 = .ok (.iinc 3 1, 3) := by decide +kernel
theorem dX10_takePair_186 : decode cX10_takePair 186 = .ok (.goto (-45), 3) := by decide +kernel
theorem dX10_takePair_189 : decode cX10_takePair 189 = .ok (.aload_n 0, 1) := by decide +kernel
theorem dX10_takePair_190 : decode cX10_takePair 190 = .ok (.getfield 22, 3) := by decide +kernel
theorem dX10_takePair_193 : decode cX10_takePair 193 = .ok (.aload_n 0, 1) := by decide +kernel
theorem dX10_takePair_194 : decode cX10_takePair 194 = .ok (.getfield 123, 3) := by decide +kernel
theorem dX10_takePair_197 : decode cX10_takePair 197 = .ok (.iload_n 1, 1) := by decide +kernel
theorem dX10_takePair_198 : decode cX10_takePair 198 = .ok (.iastore, 1) := by decide +kernel
theorem dX10_takePair_199 : decode cX10_takePair 199 = .ok (.aload_n 0, 1) := by decide +kernel
theorem dX10_takePair_200 : decode cX10_takePair 200 = .ok (.dup, 1) := by decide +kernel
theorem dX10_takePair_201 : decode cX10_takePair 201 = .ok (.getfield 123, 3) := by decide +kernel
theorem dX10_takePair_204 : decode cX10_takePair 204 = .ok (.iconst 1, 1) := by decide +kernel
theorem dX10_takePair_205 : decode cX10_takePair 205 = .ok (.iadd, 1) := by decide +kernel
theorem dX10_takePair_206 : decode cX10_takePair 206 = .ok (.putfield 123, 3) := by decide +kernel
theorem dX10_takePair_209 : decode cX10_takePair 209 = .ok (.iconst 1, 1) := by decide +kernel
theorem dX10_takePair_210 : decode cX10_takePair 210 = .ok (.ireturn, 1) := by decide +kernel
theorem dX10_findTree_0 : decode cX10_findTree 0 = .ok (.aload_n 0, 1) := by decide +kernel
theorem dX10_findTree_1 : decode cX10_findTree 1 = .ok (.iconst 0, 1) := by decide +kernel
theorem dX10_findTree_2 : decode cX10_findTree 2 = .ok (.putfield 123, 3) := by decide +kernel
theorem dX10_findTree_5 : decode cX10_findTree 5 = .ok (.iconst 0, 1) := by decide +kernel
theorem dX10_findTree_6 : decode cX10_findTree 6 = .ok (.istore_n 1, 1) := by decide +kernel
theorem dX10_findTree_7 : decode cX10_findTree 7 = .ok (.iload_n 1, 1) := by decide +kernel
theorem dX10_findTree_8 : decode cX10_findTree 8 = .ok (.bipush 36, 2) := by decide +kernel
theorem dX10_findTree_10 : decode cX10_findTree 10 = .ok (.if_icmp .ge 16, 3) := by decide +kernel
theorem dX10_findTree_13 : decode cX10_findTree 13 = .ok (.aload_n 0, 1) := by decide +kernel
theorem dX10_findTree_14 : decode cX10_findTree 14 = .ok (.getfield 19, 3) := by decide +kernel
theorem dX10_findTree_17 : decode cX10_findTree 17 = .ok (.iload_n 1, 1) := by decide +kernel
theorem dX10_findTree_18 : decode cX10_findTree 18 = .ok (.iload_n 1, 1) := by decide +kernel
theorem dX10_findTree_19 : decode cX10_findTree 19 = .ok (.iastore, 1) := by decide +kernel
theorem dX10_findTree_20 : decode cX10_findTree 20 = .ok (.iinc 1 1, 3) := by decide +kernel
theorem dX10_findTree_23 : decode cX10_findTree 23 = .ok (.goto (-16), 3) := by decide +kernel
theorem dX10_findTree_26 : decode cX10_findTree 26 = .ok (.iconst 1, 1) := by decide +kernel
theorem dX10_findTree_27 : decode cX10_findTree 27 = .ok (.istore_n 1, 1) := by decide +kernel
theorem dX10_findTree_28 : decode cX10_findTree 28 = .ok (.iload_n 1, 1) := by decide +kernel
theorem dX10_findTree_29 : decode cX10_findTree 29 = .ok (.ifCond .eq 11, 3) := by decide +kernel
theorem dX10_findTree_32 : decode cX10_findTree 32 = .ok (.aload_n 0, 1) := by decide +kernel
theorem dX10_findTree_33 : decode cX10_findTree 33 = .ok (.invokevirtual 127, 3) := by decide +kernel
theorem dX10_findTree_36 : decode cX10_findTree 36 = .ok (.istore_n 1, 1) := by decide +kernel
theorem dX10_findTree_37 : decode cX10_findTree 37 = .ok (.goto (-9), 3) := by decide +kernel
theorem dX10_findTree_40 : decode cX10_findTree 40 = .ok (.return_, 1) := by decide +kernel
theorem dX10_tree_0 : decode cX10_tree 0 = .ok (.aload_n 0, 1) := by decide +kernel
theorem dX10_tree_1 : decode cX10_tree 1 = .ok (.invokevirtual 131, 3) := by decide +kernel
theorem dX10_tree_4 : decode cX10_tree 4 = .ok (.iconst 0, 1) := by decide +kernel
theorem dX10_tree_5 : decode cX10_tree 5 = .ok (.istore_n 1, 1) := by decide +kernel
theorem dX10_tree_6 : decode cX10_tree 6 = .ok (.iconst 0, 1) := by decide +kernel
theorem dX10_tree_7 : decode cX10_tree 7 = .ok (.istore_n 2, 1) := by decide +kernel
theorem dX10_tree_8 : decode cX10_tree 8 = .ok (.iload_n 2, 1) := by decide +kernel
theorem dX10_tree_9 : decode cX10_tree 9 = .ok (.aload_n 0, 1) := by decide +kernel
theorem dX10_tree_10 : decode cX10_tree 10 = .ok (.getfield 123, 3) := by decide +kernel
theorem dX10_tree_13 : decode cX10_tree 13 = .ok (.if_icmp .ge 34, 3) := by decide +kernel
theorem dX10_tree_16 : decode cX10_tree 16 = .ok (.iload_n 1, 1) := by decide +kernel
theorem dX10_tree_17 : decode cX10_tree 17 = .ok (.aload_n 0, 1) := by decide +kernel
theorem dX10_tree_18 : decode cX10_tree 18 = .ok (.aload_n 0, 1) := by decide +kernel
theorem dX10_tree_19 : decode cX10_tree 19 = .ok (.getfield 22, 3) := by decide +kernel
theorem dX10_tree_22 : decode cX10_tree 22 = .ok (.iload_n 2, 1) := by decide +kernel
theorem dX10_tree_23 : decode cX10_tree 23 = .ok (.iaload, 1) := by decide +kernel
theorem dX10_tree_24 : decode cX10_tree 24 = .ok (.bipush 100, 2) := by decide +kernel
theorem dX10_tree_26 : decode cX10_tree 26 = .ok (.idiv, 1) := by decide +kernel
theorem dX10_tree_27 : decode cX10_tree 27 = .ok (.aload_n 0, 1) := by decide +kernel
theorem dX10_tree_28 : decode cX10_tree 28 = .ok (.getfield 22, 3) := by decide +kernel
theorem dX10_tree_31 : decode cX10_tree 31 = .ok (.iload_n 2, 1) := by decide +kernel
theorem dX10_tree_32 : decode cX10_tree 32 = .ok (.iaload, 1) := by decide +kernel
theorem dX10_tree_33 : decode cX10_tree 33 = .ok (.bipush 100, 2) := by decide +kernel
theorem dX10_tree_35 : decode cX10_tree 35 = .ok (.irem, 1) := by decide +kernel
theorem dX10_tree_36 : decode cX10_tree 36 = .ok (.invokevirtual 120, 3) := by decide +kernel
theorem dX10_tree_39 : decode cX10_tree 39 = .ok (.iadd, 1) := by decide +kernel
theorem dX10_tree_40 : decode cX10_tree 40 = .ok (.istore_n 1, 1) := by decide +kernel
theorem dX10_tree_41 : decode cX10_tree 41 = .ok (.iinc 2 1, 3) := by decide +kernel
theorem dX10_tree_44 : decode cX10_tree 44 = .ok (.goto (-36), 3) := by decide +kernel
theorem dX10_tree_47 : decode cX10_tree 47 = .ok (.iload_n 1, 1) := by decide +kernel
theorem dX10_tree_48 : decode cX10_tree 48 = .ok (.ireturn, 1) := by decide +kernel
theorem dX10_pair_0 : decode cX10_pair 0 = .ok (.aload_n 0, 1) := by decide +kernel
theorem dX10_pair_1 : decode cX10_pair 1 = .ok (.invokevirtual 131, 3) := by decide +kernel
theorem dX10_pair_4 : decode cX10_pair 4 = .ok (.iload_n 1, 1) := by decide +kernel
theorem dX10_pair_5 : decode cX10_pair 5 = .ok (.iconst 0, 1) := by decide +kernel
theorem dX10_pair_6 : decode cX10_pair 6 = .ok (.aload_n 0, 1) := by decide +kernel
theorem dX10_pair_7 : decode cX10_pair 7 = .ok (.getfield 123, 3) := by decide +kernel
theorem dX10_pair_10 : decode cX10_pair 10 = .ok (.iconst 1, 1) := by decide +kernel
theorem dX10_pair_11 : decode cX10_pair 11 = .ok (.isub, 1) := by decide +kernel
theorem dX10_pair_12 : decode cX10_pair 12 = .ok (.invokestatic 29, 3) := by decide +kernel
theorem dX10_pair_15 : decode cX10_pair 15 = .ok (.ifCond .eq 12, 3) := by decide +kernel
theorem dX10_pair_18 : decode cX10_pair 18 = .ok (.aload_n 0, 1) := by decide +kernel
theorem dX10_pair_19 : decode cX10_pair 19 = .ok (.getfield 22, 3) := by decide +kernel
theorem dX10_pair_22 : decode cX10_pair 22 = .ok (.iload_n 1, 1) := by decide +kernel
theorem dX10_pair_23 : decode cX10_pair 23 = .ok (.iaload, 1) := by decide +kernel
theorem dX10_pair_24 : decode cX10_pair 24 = .ok (.goto 5, 3) := by decide +kernel
theorem dX10_pair_27 : decode cX10_pair 27 = .ok (.bipush (-6), 2) := by decide +kernel
theorem dX10_pair_29 : decode cX10_pair 29 = .ok (.ireturn, 1) := by decide +kernel
theorem dX10_sight_0 : decode cX10_sight 0 = .ok (.aload_n 0, 1) := by decide +kernel
theorem dX10_sight_1 : decode cX10_sight 1 = .ok (.sipush 260, 3) := by decide +kernel
theorem dX10_sight_4 : decode cX10_sight 4 = .ok (.iload_n 1, 1) := by decide +kernel
theorem dX10_sight_5 : decode cX10_sight 5 = .ok (.iload_n 2, 1) := by decide +kernel
theorem dX10_sight_6 : decode cX10_sight 6 = .ok (.invokevirtual 116, 3) := by decide +kernel
theorem dX10_sight_9 : decode cX10_sight 9 = .ok (.ireturn, 1) := by decide +kernel
theorem dX10_see_0 : decode cX10_see 0 = .ok (.iconst 0, 1) := by decide +kernel
theorem dX10_see_1 : decode cX10_see 1 = .ok (.istore_n 1, 1) := by decide +kernel
theorem dX10_see_2 : decode cX10_see 2 = .ok (.iconst 0, 1) := by decide +kernel
theorem dX10_see_3 : decode cX10_see 3 = .ok (.istore_n 2, 1) := by decide +kernel
theorem dX10_see_4 : decode cX10_see 4 = .ok (.iload_n 2, 1) := by decide +kernel
theorem dX10_see_5 : decode cX10_see 5 = .ok (.aload_n 0, 1) := by decide +kernel
theorem dX10_see_6 : decode cX10_see 6 = .ok (.invokevirtual 25, 3) := by decide +kernel
theorem dX10_see_9 : decode cX10_see 9 = .ok (.if_icmp .ge 49, 3) := by decide +kernel
theorem dX10_see_12 : decode cX10_see 12 = .ok (.aload_n 0, 1) := by decide +kernel
theorem dX10_see_13 : decode cX10_see 13 = .ok (.getfield 7, 3) := by decide +kernel
theorem dX10_see_16 : decode cX10_see 16 = .ok (.sipush 260, 3) := by decide +kernel
theorem dX10_see_19 : decode cX10_see 19 = .ok (.iload_n 2, 1) := by decide +kernel
theorem dX10_see_20 : decode cX10_see 20 = .ok (.iadd, 1) := by decide +kernel
theorem dX10_see_21 : decode cX10_see 21 = .ok (.aload_n 0, 1) := by decide +kernel
theorem dX10_see_22 : decode cX10_see 22 = .ok (.getfield 7, 3) := by decide +kernel
theorem dX10_see_25 : decode cX10_see 25 = .ok (.bipush 100, 2) := by decide +kernel
theorem dX10_see_27 : decode cX10_see 27 = .ok (.iload_n 2, 1) := by decide +kernel
theorem dX10_see_28 : decode cX10_see 28 = .ok (.iadd, 1) := by decide +kernel
theorem dX10_see_29 : decode cX10_see 29 = .ok (.iaload, 1) := by decide +kernel
theorem dX10_see_30 : decode cX10_see 30 = .ok (.ifCond .le 7, 3) := by decide +kernel
theorem dX10_see_33 : decode cX10_see 33 = .ok (.iconst 1, 1) := by decide +kernel
theorem dX10_see_34 : decode cX10_see 34 = .ok (.goto 4, 3) := by decide +kernel
theorem dX10_see_37 : decode cX10_see 37 = .ok (.iconst 0, 1) := by decide +kernel
theorem dX10_see_38 : decode cX10_see 38 = .ok (.iastore, 1) := by decide +kernel
theorem dX10_see_39 : decode cX10_see 39 = .ok (.iload_n 1, 1) := by decide +kernel
theorem dX10_see_40 : decode cX10_see 40 = .ok (.aload_n 0, 1) := by decide +kernel
theorem dX10_see_41 : decode cX10_see 41 = .ok (.getfield 7, 3) := by decide +kernel
theorem dX10_see_44 : decode cX10_see 44 = .ok (.sipush 260, 3) := by decide +kernel
theorem dX10_see_47 : decode cX10_see 47 = .ok (.iload_n 2, 1) := by decide +kernel
theorem dX10_see_48 : decode cX10_see 48 = .ok (.iadd, 1) := by decide +kernel
theorem dX10_see_49 : decode cX10_see 49 = .ok (.iaload, 1) := by decide +kernel
theorem dX10_see_50 : decode cX10_see 50 = .ok (.iadd, 1) := by decide +kernel
theorem dX10_see_51 : decode cX10_see 51 = .ok (.istore_n 1, 1) := by decide +kernel
theorem dX10_see_52 : decode cX10_see 52 = .ok (.iinc 2 1, 3) := by decide +kernel
theorem dX10_see_55 : decode cX10_see 55 = .ok (.goto (-51), 3) := by decide +kernel
theorem dX10_see_58 : decode cX10_see 58 = .ok (.iload_n 1, 1) := by decide +kernel
theorem dX10_see_59 : decode cX10_see 59 = .ok (.ireturn, 1) := by decide +kernel
theorem dX10_copy_0 : decode cX10_copy 0 = .ok (.iconst 0, 1) := by decide +kernel
theorem dX10_copy_1 : decode cX10_copy 1 = .ok (.istore_n 2, 1) := by decide +kernel
theorem dX10_copy_2 : decode cX10_copy 2 = .ok (.iload_n 2, 1) := by decide +kernel
theorem dX10_copy_3 : decode cX10_copy 3 = .ok (.sipush 800, 3) := by decide +kernel
theorem dX10_copy_6 : decode cX10_copy 6 = .ok (.if_icmp .ge 15, 3) := by decide +kernel
theorem dX10_copy_9 : decode cX10_copy 9 = .ok (.aload_n 1, 1) := by decide +kernel
theorem dX10_copy_10 : decode cX10_copy 10 = .ok (.iload_n 2, 1) := by decide +kernel
theorem dX10_copy_11 : decode cX10_copy 11 = .ok (.aload_n 0, 1) := by decide +kernel
theorem dX10_copy_12 : decode cX10_copy 12 = .ok (.iload_n 2, 1) := by decide +kernel
theorem dX10_copy_13 : decode cX10_copy 13 = .ok (.iaload, 1) := by decide +kernel
theorem dX10_copy_14 : decode cX10_copy 14 = .ok (.iastore, 1) := by decide +kernel
theorem dX10_copy_15 : decode cX10_copy 15 = .ok (.iinc 2 1, 3) := by decide +kernel
theorem dX10_copy_18 : decode cX10_copy 18 = .ok (.goto (-16), 3) := by decide +kernel
theorem dX10_copy_21 : decode cX10_copy 21 = .ok (.return_, 1) := by decide +kernel
theorem dX10_fits_0 : decode cX10_fits 0 = .ok (.aload_n 0, 1) := by decide +kernel
theorem dX10_fits_1 : decode cX10_fits 1 = .ok (.getfield 7, 3) := by decide +kernel
theorem dX10_fits_4 : decode cX10_fits 4 = .ok (.aload_n 0, 1) := by decide +kernel
theorem dX10_fits_5 : decode cX10_fits 5 = .ok (.getfield 16, 3) := by decide +kernel
theorem dX10_fits_8 : decode cX10_fits 8 = .ok (.invokestatic 134, 3) := by decide +kernel
theorem dX10_fits_11 : decode cX10_fits 11 = .ok (.iload_n 2, 1) := by decide +kernel
theorem dX10_fits_12 : decode cX10_fits 12 = .ok (.ifCond .lt 11, 3) := by decide +kernel
theorem dX10_fits_15 : decode cX10_fits 15 = .ok (.aload_n 0, 1) := by decide +kernel
theorem dX10_fits_16 : decode cX10_fits 16 = .ok (.iload_n 2, 1) := by decide +kernel
theorem dX10_fits_17 : decode cX10_fits 17 = .ok (.bipush 8, 2) := by decide +kernel
theorem dX10_fits_19 : decode cX10_fits 19 = .ok (.iconst 1, 1) := by decide +kernel
theorem dX10_fits_20 : decode cX10_fits 20 = .ok (.invokevirtual 51, 3) := by decide +kernel
theorem dX10_fits_23 : decode cX10_fits 23 = .ok (.iload_n 3, 1) := by decide +kernel
theorem dX10_fits_24 : decode cX10_fits 24 = .ok (.ifCond .lt 11, 3) := by decide +kernel
theorem dX10_fits_27 : decode cX10_fits 27 = .ok (.aload_n 0, 1) := by decide +kernel
theorem dX10_fits_28 : decode cX10_fits 28 = .ok (.iload_n 3, 1) := by decide +kernel
theorem dX10_fits_29 : decode cX10_fits 29 = .ok (.bipush 8, 2) := by decide +kernel
theorem dX10_fits_31 : decode cX10_fits 31 = .ok (.iconst 1, 1) := by decide +kernel
theorem dX10_fits_32 : decode cX10_fits 32 = .ok (.invokevirtual 51, 3) := by decide +kernel
theorem dX10_fits_35 : decode cX10_fits 35 = .ok (.iconst 0, 1) := by decide +kernel
theorem dX10_fits_36 : decode cX10_fits 36 = .ok (.istore 4, 2) := by decide +kernel
theorem dX10_fits_38 : decode cX10_fits 38 = .ok (.iload 4, 2) := by decide +kernel
theorem dX10_fits_40 : decode cX10_fits 40 = .ok (.iload_n 1, 1) := by decide +kernel
theorem dX10_fits_41 : decode cX10_fits 41 = .ok (.if_icmp .ge 15, 3) := by decide +kernel
theorem dX10_fits_44 : decode cX10_fits 44 = .ok (.aload_n 0, 1) := by decide +kernel
theorem dX10_fits_45 : decode cX10_fits 45 = .ok (.invokevirtual 101, 3) := by decide +kernel
theorem dX10_fits_48 : decode cX10_fits 48 = .ok (.istore 5, 2) := by decide +kernel
theorem dX10_fits_50 : decode cX10_fits 50 = .ok (.iinc 4 1, 3) := by decide +kernel
theorem dX10_fits_53 : decode cX10_fits 53 = .ok (.goto (-15), 3) := by decide +kernel
theorem dX10_fits_56 : decode cX10_fits 56 = .ok (.iconst 1, 1) := by decide +kernel
theorem dX10_fits_57 : decode cX10_fits 57 = .ok (.istore 4, 2) := by decide +kernel
theorem dX10_fits_59 : decode cX10_fits 59 = .ok (.iconst 0, 1) := by decide +kernel
theorem dX10_fits_60 : decode cX10_fits 60 = .ok (.istore 5, 2) := by decide +kernel
theorem dX10_fits_62 : decode cX10_fits 62 = .ok (.iload 5, 2) := by decide +kernel
theorem dX10_fits_64 : decode cX10_fits 64 = .ok (.aload_n 0, 1) := by decide +kernel
theorem dX10_fits_65 : decode cX10_fits 65 = .ok (.invokevirtual 25, 3) := by decide +kernel
theorem dX10_fits_68 : decode cX10_fits 68 = .ok (.if_icmp .ge 62, 3) := by decide +kernel
theorem dX10_fits_71 : decode cX10_fits 71 = .ok (.iload 4, 2) := by decide +kernel
theorem dX10_fits_73 : decode cX10_fits 73 = .ok (.ifCond .eq 48, 3) := by decide +kernel
theorem dX10_fits_76 : decode cX10_fits 76 = .ok (.aload_n 0, 1) := by decide +kernel
theorem dX10_fits_77 : decode cX10_fits 77 = .ok (.getfield 7, 3) := by decide +kernel
theorem dX10_fits_80 : decode cX10_fits 80 = .ok (.bipush 100, 2) := by decide +kernel
theorem dX10_fits_82 : decode cX10_fits 82 = .ok (.iload 5, 2) := by decide +kernel
theorem dX10_fits_84 : decode cX10_fits 84 = .ok (.iadd, 1) := by decide +kernel
theorem dX10_fits_85 : decode cX10_fits 85 = .ok (.iaload, 1) := by decide +kernel
theorem dX10_fits_86 : decode cX10_fits 86 = .ok (.ifCond .le 7, 3) := by decide +kernel
theorem dX10_fits_89 : decode cX10_fits 89 = .ok (.iconst 1, 1) := by decide +kernel
theorem dX10_fits_90 : decode cX10_fits 90 = .ok (.goto 4, 3) := by decide +kernel
theorem dX10_fits_93 : decode cX10_fits 93 = .ok (.iconst 0, 1) := by decide +kernel
theorem dX10_fits_94 : decode cX10_fits 94 = .ok (.aload_n 0, 1) := by decide +kernel
theorem dX10_fits_95 : decode cX10_fits 95 = .ok (.getfield 7, 3) := by decide +kernel
theorem dX10_fits_98 : decode cX10_fits 98 = .ok (.sipush 260, 3) := by decide +kernel
theorem dX10_fits_101 : decode cX10_fits 101 = .ok (.iload 5, 2) := by decide +kernel
theorem dX10_fits_103 : decode cX10_fits 103 = .ok (.iadd, 1) := by decide +kernel
theorem dX10_fits_104 : decode cX10_fits 104 = .ok (.iaload, 1) := by decide +kernel
theorem dX10_fits_105 : decode cX10_fits 105 = .ok (.iconst 1, 1) := by decide +kernel
theorem dX10_fits_106 : decode cX10_fits 106 = .ok (.if_icmp .ne 7, 3) := by decide +kernel
theorem dX10_fits_109 : decode cX10_fits 109 = .ok (.iconst 1, 1) := by decide +kernel
theorem dX10_fits_110 : decode cX10_fits 110 = .ok (.goto 4, 3) := by decide +kernel
theorem dX10_fits_113 : decode cX10_fits 113 = .ok (.iconst 0, 1) := by decide +kernel
theorem dX10_fits_114 : decode cX10_fits 114 = .ok (.if_icmp .ne 7, 3) := by decide +kernel
theorem dX10_fits_117 : decode cX10_fits 117 = .ok (.iconst 1, 1) := by decide +kernel
theorem dX10_fits_118 : decode cX10_fits 118 = .ok (.goto 4, 3) := by decide +kernel
theorem dX10_fits_121 : decode cX10_fits 121 = .ok (.iconst 0, 1) := by decide +kernel
theorem dX10_fits_122 : decode cX10_fits 122 = .ok (.istore 4, 2) := by decide +kernel
theorem dX10_fits_124 : decode cX10_fits 124 = .ok (.iinc 5 1, 3) := by decide +kernel
theorem dX10_fits_127 : decode cX10_fits 127 = .ok (.goto (-65), 3) := by decide +kernel
theorem dX10_fits_130 : decode cX10_fits 130 = .ok (.aload_n 0, 1) := by decide +kernel
theorem dX10_fits_131 : decode cX10_fits 131 = .ok (.getfield 16, 3) := by decide +kernel
theorem dX10_fits_134 : decode cX10_fits 134 = .ok (.aload_n 0, 1) := by decide +kernel
theorem dX10_fits_135 : decode cX10_fits 135 = .ok (.getfield 7, 3) := by decide +kernel
theorem dX10_fits_138 : decode cX10_fits 138 = .ok (.invokestatic 134, 3) := by decide +kernel
theorem dX10_fits_141 : decode cX10_fits 141 = .ok (.iload 4, 2) := by decide +kernel
theorem dX10_fits_143 : decode cX10_fits 143 = .ok (.ireturn, 1) := by decide +kernel
theorem dX10_where_0 : decode cX10_where 0 = .ok (.iload_n 1, 1) := by decide +kernel
theorem dX10_where_1 : decode cX10_where 1 = .ok (.iconst 1, 1) := by decide +kernel
theorem dX10_where_2 : decode cX10_where 2 = .ok (.bipush 20, 2) := by decide +kernel
theorem dX10_where_4 : decode cX10_where 4 = .ok (.invokestatic 29, 3) := by decide +kernel
theorem dX10_where_7 : decode cX10_where 7 = .ok (.ifCond .eq 7, 3) := by decide +kernel
theorem dX10_where_10 : decode cX10_where 10 = .ok (.iload_n 2, 1) := by decide +kernel
theorem dX10_where_11 : decode cX10_where 11 = .ok (.ifCond .ge 5, 3) := by decide +kernel
theorem dX10_where_14 : decode cX10_where 14 = .ok (.iconst (-1), 1) := by decide +kernel
theorem dX10_where_15 : decode cX10_where 15 = .ok (.ireturn, 1) := by decide +kernel
theorem dX10_where_16 : decode cX10_where 16 = .ok (.iload_n 2, 1) := by decide +kernel
theorem dX10_where_17 : decode cX10_where 17 = .ok (.istore_n 3, 1) := by decide +kernel
theorem dX10_where_18 : decode cX10_where 18 = .ok (.aload_n 0, 1) := by decide +kernel
theorem dX10_where_19 : decode cX10_where 19 = .ok (.iload_n 1, 1) := by decide +kernel
theorem dX10_where_20 : decode cX10_where 20 = .ok (.iconst (-1), 1) := by decide +kernel
theorem dX10_where_21 : decode cX10_where 21 = .ok (.iconst (-1), 1) := by decide +kernel
theorem dX10_where_22 : decode cX10_where 22 = .ok (.invokevirtual 138, 3) := by decide +kernel
theorem dX10_where_25 : decode cX10_where 25 = .ok (.ifCond .eq 14, 3) := by decide +kernel
theorem dX10_where_28 : decode cX10_where 28 = .ok (.iload_n 3, 1) := by decide +kernel
theorem dX10_where_29 : decode cX10_where 29 = .ok (.ifCond .ne 7, 3) := by decide +kernel
theorem dX10_where_32 : decode cX10_where 32 = .ok (.sipush 9999, 3) := by decide +kernel
theorem dX10_where_35 : decode cX10_where 35 = .ok (.ireturn, 1) := by decide +kernel
theorem dX10_where_36 : decode cX10_where 36 = .ok (.iinc 3 (-1), 3) := by decide +kernel
theorem dX10_where_39 : decode cX10_where 39 = .ok (.iconst 0, 1) := by decide +kernel
theorem dX10_where_40 : decode cX10_where 40 = .ok (.istore 4, 2) := by decide +kernel
theorem dX10_where_42 : decode cX10_where 42 = .ok (.iload 4, 2) := by decide +kernel
theorem dX10_where_44 : decode cX10_where 44 = .ok (.aload_n 0, 1) := by decide +kernel
theorem dX10_where_45 : decode cX10_where 45 = .ok (.getfield 7, 3) := by decide +kernel
theorem dX10_where_48 : decode cX10_where 48 = .ok (.bipush 13, 2) := by decide +kernel
theorem dX10_where_50 : decode cX10_where 50 = .ok (.iaload, 1) := by decide +kernel
theorem dX10_where_51 : decode cX10_where 51 = .ok (.if_icmp .ge 41, 3) := by decide +kernel
theorem dX10_where_54 : decode cX10_where 54 = .ok (.aload_n 0, 1) := by decide +kernel
theorem dX10_where_55 : decode cX10_where 55 = .ok (.iload 4, 2) := by decide +kernel
theorem dX10_where_57 : decode cX10_where 57 = .ok (.bipush 8, 2) := by decide +kernel
theorem dX10_where_59 : decode cX10_where 59 = .ok (.invokevirtual 55, 3) := by decide +kernel
theorem dX10_where_62 : decode cX10_where 62 = .ok (.ifCond .ne 24, 3) := by decide +kernel
theorem dX10_where_65 : decode cX10_where 65 = .ok (.aload_n 0, 1) := by decide +kernel
theorem dX10_where_66 : decode cX10_where 66 = .ok (.iload_n 1, 1) := by decide +kernel
theorem dX10_where_67 : decode cX10_where 67 = .ok (.iload 4, 2) := by decide +kernel
theorem dX10_where_69 : decode cX10_where 69 = .ok (.iconst (-1), 1) := by decide +kernel
theorem dX10_where_70 : decode cX10_where 70 = .ok (.invokevirtual 138, 3) := by decide +kernel
theorem dX10_where_73 : decode cX10_where 73 = .ok (.ifCond .eq 13, 3) := by decide +kernel
theorem dX10_where_76 : decode cX10_where 76 = .ok (.iload_n 3, 1) := by decide +kernel
theorem dX10_where_77 : decode cX10_where 77 = .ok (.ifCond .ne 6, 3) := by decide +kernel
theorem dX10_where_80 : decode cX10_where 80 = .ok (.iload 4, 2) := by decide +kernel
theorem dX10_where_82 : decode cX10_where 82 = .ok (.ireturn, 1) := by decide +kernel
theorem dX10_where_83 : decode cX10_where 83 = .ok (.iinc 3 (-1), 3) := by decide +kernel
theorem dX10_where_86 : decode cX10_where 86 = .ok (.iinc 4 1, 3) := by decide +kernel
theorem dX10_where_89 : decode cX10_where 89 = .ok (.goto (-47), 3) := by decide +kernel
theorem dX10_where_92 : decode cX10_where 92 = .ok (.iconst 0, 1) := by decide +kernel
theorem dX10_where_93 : decode cX10_where 93 = .ok (.istore 4, 2) := by decide +kernel
theorem dX10_where_95 : decode cX10_where 95 = .ok (.iload 4, 2) := by decide +kernel
theorem dX10_where_97 : decode cX10_where 97 = .ok (.aload_n 0, 1) := by decide +kernel
theorem dX10_where_98 : decode cX10_where 98 = .ok (.getfield 7, 3) := by decide +kernel
theorem dX10_where_101 : decode cX10_where 101 = .ok (.bipush 13, 2) := by decide +kernel
theorem dX10_where_103 : decode cX10_where 103 = .ok (.iaload, 1) := by decide +kernel
theorem dX10_where_104 : decode cX10_where 104 = .ok (.if_icmp .ge 85, 3) := by decide +kernel
theorem dX10_where_107 : decode cX10_where 107 = .ok (.iload 4, 2) := by decide +kernel
theorem dX10_where_109 : decode cX10_where 109 = .ok (.iconst 1, 1) := by decide +kernel
theorem dX10_where_110 : decode cX10_where 110 = .ok (.iadd, 1) := by decide +kernel
theorem dX10_where_111 : decode cX10_where 111 = .ok (.istore 5, 2) := by decide +kernel
theorem dX10_where_113 : decode cX10_where 113 = .ok (.iload 5, 2) := by decide +kernel
theorem dX10_where_115 : decode cX10_where 115 = .ok (.aload_n 0, 1) := by decide +kernel
theorem dX10_where_116 : decode cX10_where 116 = .ok (.getfield 7, 3) := by decide +kernel
theorem dX10_where_119 : decode cX10_where 119 = .ok (.bipush 13, 2) := by decide +kernel
theorem dX10_where_121 : decode cX10_where 121 = .ok (.iaload, 1) := by decide +kernel
theorem dX10_where_122 : decode cX10_where 122 = .ok (.if_icmp .ge 61, 3) := by decide +kernel
theorem dX10_where_125 : decode cX10_where 125 = .ok (.aload_n 0, 1) := by decide +kernel
theorem dX10_where_126 : decode cX10_where 126 = .ok (.iload 4, 2) := by decide +kernel
theorem dX10_where_128 : decode cX10_where 128 = .ok (.bipush 8, 2) := by decide +kernel
theorem dX10_where_130 : decode cX10_where 130 = .ok (.invokevirtual 55, 3) := by decide +kernel
theorem dX10_where_133 : decode cX10_where 133 = .ok (.ifCond .ne 44, 3) := by decide +kernel
theorem dX10_where_136 : decode cX10_where 136 = .ok (.aload_n 0, 1) := by decide +kernel
theorem dX10_where_137 : decode cX10_where 137 = .ok (.iload 5, 2) := by decide +kernel
theorem dX10_where_139 : decode cX10_where 139 = .ok (.bipush 8, 2) := by decide +kernel
theorem dX10_where_141 : decode cX10_where 141 = .ok (.invokevirtual 55, 3) := by decide +kernel
theorem dX10_where_144 : decode cX10_where 144 = .ok (.ifCond .ne 33, 3) := by decide +kernel
theorem dX10_where_147 : decode cX10_where 147 = .ok (.aload_n 0, 1) := by decide +kernel
theorem dX10_where_148 : decode cX10_where 148 = .ok (.iload_n 1, 1) := by decide +kernel
theorem dX10_where_149 : decode cX10_where 149 = .ok (.iload 4, 2) := by decide +kernel
theorem dX10_where_151 : decode cX10_where 151 = .ok (.iload 5, 2) := by decide +kernel
theorem dX10_where_153 : decode cX10_where 153 = .ok (.invokevirtual 138, 3) := by decide +kernel
theorem dX10_where_156 : decode cX10_where 156 = .ok (.ifCond .eq 21, 3) := by decide +kernel
theorem dX10_where_159 : decode cX10_where 159 = .ok (.iload_n 3, 1) := by decide +kernel
theorem dX10_where_160 : decode cX10_where 160 = .ok (.ifCond .ne 14, 3) := by decide +kernel
theorem dX10_where_163 : decode cX10_where 163 = .ok (.bipush 100, 2) := by decide +kernel
theorem dX10_where_165 : decode cX10_where 165 = .ok (.iload 4, 2) := by decide +kernel
theorem dX10_where_167 : decode cX10_where 167 = .ok (.iconst 1, 1) := by decide +kernel
theorem dX10_where_168 : decode cX10_where 168 = .ok (.iadd, 1) := by decide +kernel
theorem dX10_where_169 : decode cX10_where 169 = .ok (.imul, 1) := by decide +kernel
theorem dX10_where_170 : decode cX10_where 170 = .ok (.iload 5, 2) := by decide +kernel
theorem dX10_where_172 : decode cX10_where 172 = .ok (.iadd, 1) := by decide +kernel
theorem dX10_where_173 : decode cX10_where 173 = .ok (.ireturn, 1) := by decide +kernel
theorem dX10_where_174 : decode cX10_where 174 = .ok (.iinc 3 (-1), 3) := by decide +kernel
theorem dX10_where_177 : decode cX10_where 177 = .ok (.iinc 5 1, 3) := by decide +kernel
theorem dX10_where_180 : decode cX10_where 180 = .ok (.goto (-67), 3) := by decide +kernel
theorem dX10_where_183 : decode cX10_where 183 = .ok (.iinc 4 1, 3) := by decide +kernel
theorem dX10_where_186 : decode cX10_where 186 = .ok (.goto (-91), 3) := by decide +kernel
theorem dX10_where_189 : decode cX10_where 189 = .ok (.bipush (-6), 2) := by decide +kernel
theorem dX10_where_191 : decode cX10_where 191 = .ok (.ireturn, 1) := by decide +kernel
theorem dX10_keep_0 : decode cX10_keep 0 = .ok (.aload_n 0, 1) := by decide +kernel
theorem dX10_keep_1 : decode cX10_keep 1 = .ok (.iconst 1, 1) := by decide +kernel
theorem dX10_keep_2 : decode cX10_keep 2 = .ok (.putfield 141, 3) := by decide +kernel
theorem dX10_keep_5 : decode cX10_keep 5 = .ok (.aload_n 0, 1) := by decide +kernel
theorem dX10_keep_6 : decode cX10_keep 6 = .ok (.getfield 7, 3) := by decide +kernel
theorem dX10_keep_9 : decode cX10_keep 9 = .ok (.aload_n 0, 1) := by decide +kernel
theorem dX10_keep_10 : decode cX10_keep 10 = .ok (.getfield 13, 3) := by decide +kernel
theorem dX10_keep_13 : decode cX10_keep 13 = .ok (.invokestatic 134, 3) := by decide +kernel
theorem dX10_keep_16 : decode cX10_keep 16 = .ok (.iconst 1, 1) := by decide +kernel
theorem dX10_keep_17 : decode cX10_keep 17 = .ok (.ireturn, 1) := by decide +kernel
theorem dX10_back_0 : decode cX10_back 0 = .ok (.aload_n 0, 1) := by decide +kernel
theorem dX10_back_1 : decode cX10_back 1 = .ok (.getfield 141, 3) := by decide +kernel
theorem dX10_back_4 : decode cX10_back 4 = .ok (.ifCond .ne 6, 3) := by decide +kernel
theorem dX10_back_7 : decode cX10_back 7 = .ok (.bipush (-6), 2) := by decide +kernel
theorem dX10_back_9 : decode cX10_back 9 = .ok (.ireturn, 1) := by decide +kernel
theorem dX10_back_10 : decode cX10_back 10 = .ok (.aload_n 0, 1) := by decide +kernel
theorem dX10_back_11 : decode cX10_back 11 = .ok (.getfield 13, 3) := by decide +kernel
theorem dX10_back_14 : decode cX10_back 14 = .ok (.aload_n 0, 1) := by decide +kernel
theorem dX10_back_15 : decode cX10_back 15 = .ok (.getfield 7, 3) := by decide +kernel
theorem dX10_back_18 : decode cX10_back 18 = .ok (.invokestatic 134, 3) := by decide +kernel
theorem dX10_back_21 : decode cX10_back 21 = .ok (.iconst 1, 1) := by decide +kernel
theorem dX10_back_22 : decode cX10_back 22 = .ok (.ireturn, 1) := by decide +kernel
theorem dJ13_bitCount_95d88_0 : decode cJ13_bitCount_95d88 0 = .ok (.lload_n 0, 1) := by decide +kernel
theorem dJ13_bitCount_95d88_1 : decode cJ13_bitCount_95d88 1 = .ok (.lload_n 0, 1) := by decide +kernel
theorem dJ13_bitCount_95d88_2 : decode cJ13_bitCount_95d88 2 = .ok (.iconst 1, 1) := by decide +kernel
theorem dJ13_bitCount_95d88_3 : decode cJ13_bitCount_95d88 3 = .ok (.lushr, 1) := by decide +kernel
theorem dJ13_bitCount_95d88_4 : decode cJ13_bitCount_95d88 4 = .ok (.ldc2_w 314, 3) := by decide +kernel
theorem dJ13_bitCount_95d88_7 : decode cJ13_bitCount_95d88 7 = .ok (.land, 1) := by decide +kernel
theorem dJ13_bitCount_95d88_8 : decode cJ13_bitCount_95d88 8 = .ok (.lsub, 1) := by decide +kernel
theorem dJ13_bitCount_95d88_9 : decode cJ13_bitCount_95d88 9 = .ok (.lstore_n 0, 1) := by decide +kernel
theorem dJ13_bitCount_95d88_10 : decode cJ13_bitCount_95d88 10 = .ok (.lload_n 0, 1) := by decide +kernel
theorem dJ13_bitCount_95d88_11 : decode cJ13_bitCount_95d88 11 = .ok (.ldc2_w 316, 3) := by decide +kernel
theorem dJ13_bitCount_95d88_14 : decode cJ13_bitCount_95d88 14 = .ok (.land, 1) := by decide +kernel
theorem dJ13_bitCount_95d88_15 : decode cJ13_bitCount_95d88 15 = .ok (.lload_n 0, 1) := by decide +kernel
theorem dJ13_bitCount_95d88_16 : decode cJ13_bitCount_95d88 16 = .ok (.iconst 2, 1) := by decide +kernel
theorem dJ13_bitCount_95d88_17 : decode cJ13_bitCount_95d88 17 = .ok (.lushr, 1) := by decide +kernel
theorem dJ13_bitCount_95d88_18 : decode cJ13_bitCount_95d88 18 = .ok (.ldc2_w 316, 3) := by decide +kernel
theorem dJ13_bitCount_95d88_21 : decode cJ13_bitCount_95d88 21 = .ok (.land, 1) := by decide +kernel
theorem dJ13_bitCount_95d88_22 : decode cJ13_bitCount_95d88 22 = .ok (.ladd, 1) := by decide +kernel
theorem dJ13_bitCount_95d88_23 : decode cJ13_bitCount_95d88 23 = .ok (.lstore_n 0, 1) := by decide +kernel
theorem dJ13_bitCount_95d88_24 : decode cJ13_bitCount_95d88 24 = .ok (.lload_n 0, 1) := by decide +kernel
theorem dJ13_bitCount_95d88_25 : decode cJ13_bitCount_95d88 25 = .ok (.lload_n 0, 1) := by decide +kernel
theorem dJ13_bitCount_95d88_26 : decode cJ13_bitCount_95d88 26 = .ok (.iconst 4, 1) := by decide +kernel
theorem dJ13_bitCount_95d88_27 : decode cJ13_bitCount_95d88 27 = .ok (.lushr, 1) := by decide +kernel
theorem dJ13_bitCount_95d88_28 : decode cJ13_bitCount_95d88 28 = .ok (.ladd, 1) := by decide +kernel
theorem dJ13_bitCount_95d88_29 : decode cJ13_bitCount_95d88 29 = .ok (.ldc2_w 318, 3) := by decide +kernel
theorem dJ13_bitCount_95d88_32 : decode cJ13_bitCount_95d88 32 = .ok (.land, 1) := by decide +kernel
theorem dJ13_bitCount_95d88_33 : decode cJ13_bitCount_95d88 33 = .ok (.lstore_n 0, 1) := by decide +kernel
theorem dJ13_bitCount_95d88_34 : decode cJ13_bitCount_95d88 34 = .ok (.lload_n 0, 1) := by decide +kernel
theorem dJ13_bitCount_95d88_35 : decode cJ13_bitCount_95d88 35 = .ok (.lload_n 0, 1) := by decide +kernel
theorem dJ13_bitCount_95d88_36 : decode cJ13_bitCount_95d88 36 = .ok (.bipush 8, 2) := by decide +kernel
theorem dJ13_bitCount_95d88_38 : decode cJ13_bitCount_95d88 38 = .ok (.lushr, 1) := by decide +kernel
theorem dJ13_bitCount_95d88_39 : decode cJ13_bitCount_95d88 39 = .ok (.ladd, 1) := by decide +kernel
theorem dJ13_bitCount_95d88_40 : decode cJ13_bitCount_95d88 40 = .ok (.lstore_n 0, 1) := by decide +kernel
theorem dJ13_bitCount_95d88_41 : decode cJ13_bitCount_95d88 41 = .ok (.lload_n 0, 1) := by decide +kernel
theorem dJ13_bitCount_95d88_42 : decode cJ13_bitCount_95d88 42 = .ok (.lload_n 0, 1) := by decide +kernel
theorem dJ13_bitCount_95d88_43 : decode cJ13_bitCount_95d88 43 = .ok (.bipush 16, 2) := by decide +kernel
theorem dJ13_bitCount_95d88_45 : decode cJ13_bitCount_95d88 45 = .ok (.lushr, 1) := by decide +kernel
theorem dJ13_bitCount_95d88_46 : decode cJ13_bitCount_95d88 46 = .ok (.ladd, 1) := by decide +kernel
theorem dJ13_bitCount_95d88_47 : decode cJ13_bitCount_95d88 47 = .ok (.lstore_n 0, 1) := by decide +kernel
theorem dJ13_bitCount_95d88_48 : decode cJ13_bitCount_95d88 48 = .ok (.lload_n 0, 1) := by decide +kernel
theorem dJ13_bitCount_95d88_49 : decode cJ13_bitCount_95d88 49 = .ok (.lload_n 0, 1) := by decide +kernel
theorem dJ13_bitCount_95d88_50 : decode cJ13_bitCount_95d88 50 = .ok (.bipush 32, 2) := by decide +kernel
theorem dJ13_bitCount_95d88_52 : decode cJ13_bitCount_95d88 52 = .ok (.lushr, 1) := by decide +kernel
theorem dJ13_bitCount_95d88_53 : decode cJ13_bitCount_95d88 53 = .ok (.ladd, 1) := by decide +kernel
theorem dJ13_bitCount_95d88_54 : decode cJ13_bitCount_95d88 54 = .ok (.lstore_n 0, 1) := by decide +kernel
theorem dJ13_bitCount_95d88_55 : decode cJ13_bitCount_95d88 55 = .ok (.lload_n 0, 1) := by decide +kernel
theorem dJ13_bitCount_95d88_56 : decode cJ13_bitCount_95d88 56 = .ok (.l2i, 1) := by decide +kernel
theorem dJ13_bitCount_95d88_57 : decode cJ13_bitCount_95d88 57 = .ok (.bipush 127, 2) := by decide +kernel
theorem dJ13_bitCount_95d88_59 : decode cJ13_bitCount_95d88 59 = .ok (.iand, 1) := by decide +kernel
theorem dJ13_bitCount_95d88_60 : decode cJ13_bitCount_95d88 60 = .ok (.ireturn, 1) := by decide +kernel
theorem dJ9_abs_0f7a4_0 : decode cJ9_abs_0f7a4 0 = .ok (.iload_n 0, 1) := by decide +kernel
theorem dJ9_abs_0f7a4_1 : decode cJ9_abs_0f7a4 1 = .ok (.ifCond .ge 8, 3) := by decide +kernel
theorem dJ9_abs_0f7a4_4 : decode cJ9_abs_0f7a4 4 = .ok (.iload_n 0, 1) := by decide +kernel
theorem dJ9_abs_0f7a4_5 : decode cJ9_abs_0f7a4 5 = .ok (.ineg, 1) := by decide +kernel
theorem dJ9_abs_0f7a4_6 : decode cJ9_abs_0f7a4 6 = .ok (.goto 4, 3) := by decide +kernel
theorem dJ9_abs_0f7a4_9 : decode cJ9_abs_0f7a4 9 = .ok (.iload_n 0, 1) := by decide +kernel
theorem dJ9_abs_0f7a4_10 : decode cJ9_abs_0f7a4 10 = .ok (.ireturn, 1) := by decide +kernel
theorem dJ9_max_7cf53_0 : decode cJ9_max_7cf53 0 = .ok (.iload_n 0, 1) := by decide +kernel
theorem dJ9_max_7cf53_1 : decode cJ9_max_7cf53 1 = .ok (.iload_n 1, 1) := by decide +kernel
theorem dJ9_max_7cf53_2 : decode cJ9_max_7cf53 2 = .ok (.if_icmp .lt 7, 3) := by decide +kernel
theorem dJ9_max_7cf53_5 : decode cJ9_max_7cf53 5 = .ok (.iload_n 0, 1) := by decide +kernel
theorem dJ9_max_7cf53_6 : decode cJ9_max_7cf53 6 = .ok (.goto 4, 3) := by decide +kernel
theorem dJ9_max_7cf53_9 : decode cJ9_max_7cf53 9 = .ok (.iload_n 1, 1) := by decide +kernel
theorem dJ9_max_7cf53_10 : decode cJ9_max_7cf53 10 = .ok (.ireturn, 1) := by decide +kernel
theorem dJ9_min_7cf53_0 : decode cJ9_min_7cf53 0 = .ok (.iload_n 0, 1) := by decide +kernel
theorem dJ9_min_7cf53_1 : decode cJ9_min_7cf53 1 = .ok (.iload_n 1, 1) := by decide +kernel
theorem dJ9_min_7cf53_2 : decode cJ9_min_7cf53 2 = .ok (.if_icmp .gt 7, 3) := by decide +kernel
theorem dJ9_min_7cf53_5 : decode cJ9_min_7cf53 5 = .ok (.iload_n 0, 1) := by decide +kernel
theorem dJ9_min_7cf53_6 : decode cJ9_min_7cf53 6 = .ok (.goto 4, 3) := by decide +kernel
theorem dJ9_min_7cf53_9 : decode cJ9_min_7cf53 9 = .ok (.iload_n 1, 1) := by decide +kernel
theorem dJ9_min_7cf53_10 : decode cJ9_min_7cf53 10 = .ok (.ireturn, 1) := by decide +kernel
theorem dL_law_0 : decode cL_law 0 = .ok (.new 7, 3) := by decide +kernel
theorem dL_law_3 : decode cL_law 3 = .ok (.dup, 1) := by decide +kernel
theorem dL_law_4 : decode cL_law 4 = .ok (.invokespecial 9, 3) := by decide +kernel
theorem dL_law_7 : decode cL_law 7 = .ok (.astore_n 1, 1) := by decide +kernel
theorem dL_law_8 : decode cL_law 8 = .ok (.new 10, 3) := by decide +kernel
theorem dL_law_11 : decode cL_law 11 = .ok (.dup, 1) := by decide +kernel
theorem dL_law_12 : decode cL_law 12 = .ok (.invokespecial 12, 3) := by decide +kernel
theorem dL_law_15 : decode cL_law 15 = .ok (.astore_n 2, 1) := by decide +kernel
theorem dL_law_16 : decode cL_law 16 = .ok (.iconst 0, 1) := by decide +kernel
theorem dL_law_17 : decode cL_law 17 = .ok (.istore_n 3, 1) := by decide +kernel
theorem dL_law_18 : decode cL_law 18 = .ok (.iload_n 3, 1) := by decide +kernel
theorem dL_law_19 : decode cL_law 19 = .ok (.aload_n 0, 1) := by decide +kernel
theorem dL_law_20 : decode cL_law 20 = .ok (.arraylength, 1) := by decide +kernel
theorem dL_law_21 : decode cL_law 21 = .ok (.bipush 6, 2) := by decide +kernel
theorem dL_law_23 : decode cL_law 23 = .ok (.isub, 1) := by decide +kernel
theorem dL_law_24 : decode cL_law 24 = .ok (.if_icmp .gt 1007, 3) := by decide +kernel
theorem dL_law_27 : decode cL_law 27 = .ok (.aload_n 0, 1) := by decide +kernel
theorem dL_law_28 : decode cL_law 28 = .ok (.iload_n 3, 1) := by decide +kernel
theorem dL_law_29 : decode cL_law 29 = .ok (.iaload, 1) := by decide +kernel
theorem dL_law_30 : decode cL_law 30 = .ok (.bipush 31, 2) := by decide +kernel
theorem dL_law_32 : decode cL_law 32 = .ok (.iand, 1) := by decide +kernel
theorem dL_law_33 : decode cL_law 33 = .ok (.tableswitch 992 0 26 #[123, 156, 189, 222, 285, 318, 371, 414, 447, 480, 503, 552, 585, 628, 661, 684, 717, 740, 763, 786, 835, 848, 871, 920, 933, 966, 979], 123) := by decide +kernel
theorem dL_law_156 : decode cL_law 156 = .ok (.aload_n 1, 1) := by decide +kernel
theorem dL_law_157 : decode cL_law 157 = .ok (.aload_n 0, 1) := by decide +kernel
theorem dL_law_158 : decode cL_law 158 = .ok (.iload_n 3, 1) := by decide +kernel
theorem dL_law_159 : decode cL_law 159 = .ok (.iconst 1, 1) := by decide +kernel
theorem dL_law_160 : decode cL_law 160 = .ok (.iadd, 1) := by decide +kernel
theorem dL_law_161 : decode cL_law 161 = .ok (.iaload, 1) := by decide +kernel
theorem dL_law_162 : decode cL_law 162 = .ok (.aload_n 0, 1) := by decide +kernel
theorem dL_law_163 : decode cL_law 163 = .ok (.iload_n 3, 1) := by decide +kernel
theorem dL_law_164 : decode cL_law 164 = .ok (.iconst 2, 1) := by decide +kernel
theorem dL_law_165 : decode cL_law 165 = .ok (.iadd, 1) := by decide +kernel
theorem dL_law_166 : decode cL_law 166 = .ok (.iaload, 1) := by decide +kernel
theorem dL_law_167 : decode cL_law 167 = .ok (.invokevirtual 13, 3) := by decide +kernel
theorem dL_law_170 : decode cL_law 170 = .ok (.aload_n 2, 1) := by decide +kernel
theorem dL_law_171 : decode cL_law 171 = .ok (.aload_n 0, 1) := by decide +kernel
theorem dL_law_172 : decode cL_law 172 = .ok (.iload_n 3, 1) := by decide +kernel
theorem dL_law_173 : decode cL_law 173 = .ok (.iconst 1, 1) := by decide +kernel
theorem dL_law_174 : decode cL_law 174 = .ok (.iadd, 1) := by decide +kernel
theorem dL_law_175 : decode cL_law 175 = .ok (.iaload, 1) := by decide +kernel
theorem dL_law_176 : decode cL_law 176 = .ok (.aload_n 0, 1) := by decide +kernel
theorem dL_law_177 : decode cL_law 177 = .ok (.iload_n 3, 1) := by decide +kernel
theorem dL_law_178 : decode cL_law 178 = .ok (.iconst 2, 1) := by decide +kernel
theorem dL_law_179 : decode cL_law 179 = .ok (.iadd, 1) := by decide +kernel
theorem dL_law_180 : decode cL_law 180 = .ok (.iaload, 1) := by decide +kernel
theorem dL_law_181 : decode cL_law 181 = .ok (.invokevirtual 17, 3) := by decide +kernel
theorem dL_law_184 : decode cL_law 184 = .ok (.if_icmp .eq 841, 3) := by decide +kernel
theorem dL_law_187 : decode cL_law 187 = .ok (.iconst 0, 1) := by decide +kernel
theorem dL_law_188 : decode cL_law 188 = .ok (.ireturn, 1) := by decide +kernel
theorem dL_law_189 : decode cL_law 189 = .ok (.aload_n 1, 1) := by decide +kernel
theorem dL_law_190 : decode cL_law 190 = .ok (.aload_n 0, 1) := by decide +kernel
theorem dL_law_191 : decode cL_law 191 = .ok (.iload_n 3, 1) := by decide +kernel
theorem dL_law_192 : decode cL_law 192 = .ok (.iconst 1, 1) := by decide +kernel
theorem dL_law_193 : decode cL_law 193 = .ok (.iadd, 1) := by decide +kernel
theorem dL_law_194 : decode cL_law 194 = .ok (.iaload, 1) := by decide +kernel
theorem dL_law_195 : decode cL_law 195 = .ok (.aload_n 0, 1) := by decide +kernel
theorem dL_law_196 : decode cL_law 196 = .ok (.iload_n 3, 1) := by decide +kernel
theorem dL_law_197 : decode cL_law 197 = .ok (.iconst 2, 1) := by decide +kernel
theorem dL_law_198 : decode cL_law 198 = .ok (.iadd, 1) := by decide +kernel
theorem dL_law_199 : decode cL_law 199 = .ok (.iaload, 1) := by decide +kernel
theorem dL_law_200 : decode cL_law 200 = .ok (.invokevirtual 18, 3) := by decide +kernel
theorem dL_law_203 : decode cL_law 203 = .ok (.aload_n 2, 1) := by decide +kernel
theorem dL_law_204 : decode cL_law 204 = .ok (.aload_n 0, 1) := by decide +kernel
theorem dL_law_205 : decode cL_law 205 = .ok (.iload_n 3, 1) := by decide +kernel
theorem dL_law_206 : decode cL_law 206 = .ok (.iconst 1, 1) := by decide +kernel
theorem dL_law_207 : decode cL_law 207 = .ok (.iadd, 1) := by decide +kernel
theorem dL_law_208 : decode cL_law 208 = .ok (.iaload, 1) := by decide +kernel
theorem dL_law_209 : decode cL_law 209 = .ok (.aload_n 0, 1) := by decide +kernel
theorem dL_law_210 : decode cL_law 210 = .ok (.iload_n 3, 1) := by decide +kernel
theorem dL_law_211 : decode cL_law 211 = .ok (.iconst 2, 1) := by decide +kernel
theorem dL_law_212 : decode cL_law 212 = .ok (.iadd, 1) := by decide +kernel
theorem dL_law_213 : decode cL_law 213 = .ok (.iaload, 1) := by decide +kernel
theorem dL_law_214 : decode cL_law 214 = .ok (.invokevirtual 21, 3) := by decide +kernel
theorem dL_law_217 : decode cL_law 217 = .ok (.if_icmp .eq 808, 3) := by decide +kernel
theorem dL_law_220 : decode cL_law 220 = .ok (.iconst 0, 1) := by decide +kernel
theorem dL_law_221 : decode cL_law 221 = .ok (.ireturn, 1) := by decide +kernel
theorem dL_law_222 : decode cL_law 222 = .ok (.aload_n 1, 1) := by decide +kernel
theorem dL_law_223 : decode cL_law 223 = .ok (.aload_n 0, 1) := by decide +kernel
theorem dL_law_224 : decode cL_law 224 = .ok (.iload_n 3, 1) := by decide +kernel
theorem dL_law_225 : decode cL_law 225 = .ok (.iconst 1, 1) := by decide +kernel
theorem dL_law_226 : decode cL_law 226 = .ok (.iadd, 1) := by decide +kernel
theorem dL_law_227 : decode cL_law 227 = .ok (.iaload, 1) := by decide +kernel
theorem dL_law_228 : decode cL_law 228 = .ok (.aload_n 0, 1) := by decide +kernel
theorem dL_law_229 : decode cL_law 229 = .ok (.iload_n 3, 1) := by decide +kernel
theorem dL_law_230 : decode cL_law 230 = .ok (.iconst 2, 1) := by decide +kernel
theorem dL_law_231 : decode cL_law 231 = .ok (.iadd, 1) := by decide +kernel
theorem dL_law_232 : decode cL_law 232 = .ok (.iaload, 1) := by decide +kernel
theorem dL_law_233 : decode cL_law 233 = .ok (.invokevirtual 22, 3) := by decide +kernel
theorem dL_law_236 : decode cL_law 236 = .ok (.aload_n 2, 1) := by decide +kernel
theorem dL_law_237 : decode cL_law 237 = .ok (.aload_n 0, 1) := by decide +kernel
theorem dL_law_238 : decode cL_law 238 = .ok (.iload_n 3, 1) := by decide +kernel
theorem dL_law_239 : decode cL_law 239 = .ok (.iconst 1, 1) := by decide +kernel
theorem dL_law_240 : decode cL_law 240 = .ok (.iadd, 1) := by decide +kernel
theorem dL_law_241 : decode cL_law 241 = .ok (.iaload, 1) := by decide +kernel
theorem dL_law_242 : decode cL_law 242 = .ok (.aload_n 0, 1) := by decide +kernel
theorem dL_law_243 : decode cL_law 243 = .ok (.iload_n 3, 1) := by decide +kernel
theorem dL_law_244 : decode cL_law 244 = .ok (.iconst 2, 1) := by decide +kernel
theorem dL_law_245 : decode cL_law 245 = .ok (.iadd, 1) := by decide +kernel
theorem dL_law_246 : decode cL_law 246 = .ok (.iaload, 1) := by decide +kernel
theorem dL_law_247 : decode cL_law 247 = .ok (.invokevirtual 25, 3) := by decide +kernel
theorem dL_law_250 : decode cL_law 250 = .ok (.if_icmp .eq 775, 3) := by decide +kernel
theorem dL_law_253 : decode cL_law 253 = .ok (.iconst 0, 1) := by decide +kernel
theorem dL_law_254 : decode cL_law 254 = .ok (.ireturn, 1) := by decide +kernel
theorem dL_law_255 : decode cL_law 255 = .ok (.aload_n 1, 1) := by decide +kernel
theorem dL_law_256 : decode cL_law 256 = .ok (.aload_n 0, 1) := by decide +kernel
theorem dL_law_257 : decode cL_law 257 = .ok (.iload_n 3, 1) := by decide +kernel
theorem dL_law_258 : decode cL_law 258 = .ok (.iconst 1, 1) := by decide +kernel
theorem dL_law_259 : decode cL_law 259 = .ok (.iadd, 1) := by decide +kernel
theorem dL_law_260 : decode cL_law 260 = .ok (.iaload, 1) := by decide +kernel
theorem dL_law_261 : decode cL_law 261 = .ok (.aload_n 0, 1) := by decide +kernel
theorem dL_law_262 : decode cL_law 262 = .ok (.iload_n 3, 1) := by decide +kernel
theorem dL_law_263 : decode cL_law 263 = .ok (.iconst 2, 1) := by decide +kernel
theorem dL_law_264 : decode cL_law 264 = .ok (.iadd, 1) := by decide +kernel
theorem dL_law_265 : decode cL_law 265 = .ok (.iaload, 1) := by decide +kernel
theorem dL_law_266 : decode cL_law 266 = .ok (.aload_n 0, 1) := by decide +kernel
theorem dL_law_267 : decode cL_law 267 = .ok (.iload_n 3, 1) := by decide +kernel
theorem dL_law_268 : decode cL_law 268 = .ok (.iconst 3, 1) := by decide +kernel
theorem dL_law_269 : decode cL_law 269 = .ok (.iadd, 1) := by decide +kernel
theorem dL_law_270 : decode cL_law 270 = .ok (.iaload, 1) := by decide +kernel
theorem dL_law_271 : decode cL_law 271 = .ok (.aload_n 0, 1) := by decide +kernel
theorem dL_law_272 : decode cL_law 272 = .ok (.iload_n 3, 1) := by decide +kernel
theorem dL_law_273 : decode cL_law 273 = .ok (.iconst 4, 1) := by decide +kernel
theorem dL_law_274 : decode cL_law 274 = .ok (.iadd, 1) := by decide +kernel
theorem dL_law_275 : decode cL_law 275 = .ok (.iaload, 1) := by decide +kernel
theorem dL_law_276 : decode cL_law 276 = .ok (.aload_n 0, 1) := by decide +kernel
theorem dL_law_277 : decode cL_law 277 = .ok (.iload_n 3, 1) := by decide +kernel
theorem dL_law_278 : decode cL_law 278 = .ok (.iconst 5, 1) := by decide +kernel
theorem dL_law_279 : decode cL_law 279 = .ok (.iadd, 1) := by decide +kernel
theorem dL_law_280 : decode cL_law 280 = .ok (.iaload, 1) := by decide +kernel
theorem dL_law_281 : decode cL_law 281 = .ok (.invokevirtual 26, 3) := by decide +kernel
theorem dL_law_284 : decode cL_law 284 = .ok (.aload_n 2, 1) := by decide +kernel
theorem dL_law_285 : decode cL_law 285 = .ok (.aload_n 0, 1) := by decide +kernel
theorem dL_law_286 : decode cL_law 286 = .ok (.iload_n 3, 1) := by decide +kernel
theorem dL_law_287 : decode cL_law 287 = .ok (.iconst 1, 1) := by decide +kernel
theorem dL_law_288 : decode cL_law 288 = .ok (.iadd, 1) := by decide +kernel
theorem dL_law_289 : decode cL_law 289 = .ok (.iaload, 1) := by decide +kernel
theorem dL_law_290 : decode cL_law 290 = .ok (.aload_n 0, 1) := by decide +kernel
theorem dL_law_291 : decode cL_law 291 = .ok (.iload_n 3, 1) := by decide +kernel
theorem dL_law_292 : decode cL_law 292 = .ok (.iconst 2, 1) := by decide +kernel
theorem dL_law_293 : decode cL_law 293 = .ok (.iadd, 1) := by decide +kernel
theorem dL_law_294 : decode cL_law 294 = .ok (.iaload, 1) := by decide +kernel
theorem dL_law_295 : decode cL_law 295 = .ok (.aload_n 0, 1) := by decide +kernel
theorem dL_law_296 : decode cL_law 296 = .ok (.iload_n 3, 1) := by decide +kernel
theorem dL_law_297 : decode cL_law 297 = .ok (.iconst 3, 1) := by decide +kernel
theorem dL_law_298 : decode cL_law 298 = .ok (.iadd, 1) := by decide +kernel
theorem dL_law_299 : decode cL_law 299 = .ok (.iaload, 1) := by decide +kernel
theorem dL_law_300 : decode cL_law 300 = .ok (.aload_n 0, 1) := by decide +kernel
theorem dL_law_301 : decode cL_law 301 = .ok (.iload_n 3, 1) := by decide +kernel
theorem dL_law_302 : decode cL_law 302 = .ok (.iconst 4, 1) := by decide +kernel
theorem dL_law_303 : decode cL_law 303 = .ok (.iadd, 1) := by decide +kernel
theorem dL_law_304 : decode cL_law 304 = .ok (.iaload, 1) := by decide +kernel
theorem dL_law_305 : decode cL_law 305 = .ok (.aload_n 0, 1) := by decide +kernel
theorem dL_law_306 : decode cL_law 306 = .ok (.iload_n 3, 1) := by decide +kernel
theorem dL_law_307 : decode cL_law 307 = .ok (.iconst 5, 1) := by decide +kernel
theorem dL_law_308 : decode cL_law 308 = .ok (.iadd, 1) := by decide +kernel
theorem dL_law_309 : decode cL_law 309 = .ok (.iaload, 1) := by decide +kernel
theorem dL_law_310 : decode cL_law 310 = .ok (.invokevirtual 30, 3) := by decide +kernel
theorem dL_law_313 : decode cL_law 313 = .ok (.if_icmp .eq 712, 3) := by decide +kernel
theorem dL_law_316 : decode cL_law 316 = .ok (.iconst 0, 1) := by decide +kernel
theorem dL_law_317 : decode cL_law 317 = .ok (.ireturn, 1) := by decide +kernel
theorem dL_law_318 : decode cL_law 318 = .ok (.aload_n 1, 1) := by decide +kernel
theorem dL_law_319 : decode cL_law 319 = .ok (.aload_n 0, 1) := by decide +kernel
theorem dL_law_320 : decode cL_law 320 = .ok (.iload_n 3, 1) := by decide +kernel
theorem dL_law_321 : decode cL_law 321 = .ok (.iconst 1, 1) := by decide +kernel
theorem dL_law_322 : decode cL_law 322 = .ok (.iadd, 1) := by decide +kernel
theorem dL_law_323 : decode cL_law 323 = .ok (.iaload, 1) := by decide +kernel
theorem dL_law_324 : decode cL_law 324 = .ok (.aload_n 0, 1) := by decide +kernel
theorem dL_law_325 : decode cL_law 325 = .ok (.iload_n 3, 1) := by decide +kernel
theorem dL_law_326 : decode cL_law 326 = .ok (.iconst 2, 1) := by decide +kernel
theorem dL_law_327 : decode cL_law 327 = .ok (.iadd, 1) := by decide +kernel
theorem dL_law_328 : decode cL_law 328 = .ok (.iaload, 1) := by decide +kernel
theorem dL_law_329 : decode cL_law 329 = .ok (.invokevirtual 31, 3) := by decide +kernel
theorem dL_law_332 : decode cL_law 332 = .ok (.aload_n 2, 1) := by decide +kernel
theorem dL_law_333 : decode cL_law 333 = .ok (.aload_n 0, 1) := by decide +kernel
theorem dL_law_334 : decode cL_law 334 = .ok (.iload_n 3, 1) := by decide +kernel
theorem dL_law_335 : decode cL_law 335 = .ok (.iconst 1, 1) := by decide +kernel
theorem dL_law_336 : decode cL_law 336 = .ok (.iadd, 1) := by decide +kernel
theorem dL_law_337 : decode cL_law 337 = .ok (.iaload, 1) := by decide +kernel
theorem dL_law_338 : decode cL_law 338 = .ok (.aload_n 0, 1) := by decide +kernel
theorem dL_law_339 : decode cL_law 339 = .ok (.iload_n 3, 1) := by decide +kernel
theorem dL_law_340 : decode cL_law 340 = .ok (.iconst 2, 1) := by decide +kernel
theorem dL_law_341 : decode cL_law 341 = .ok (.iadd, 1) := by decide +kernel
theorem dL_law_342 : decode cL_law 342 = .ok (.iaload, 1) := by decide +kernel
theorem dL_law_343 : decode cL_law 343 = .ok (.invokevirtual 34, 3) := by decide +kernel
theorem dL_law_346 : decode cL_law 346 = .ok (.if_icmp .eq 679, 3) := by decide +kernel
theorem dL_law_349 : decode cL_law 349 = .ok (.iconst 0, 1) := by decide +kernel
theorem dL_law_350 : decode cL_law 350 = .ok (.ireturn, 1) := by decide +kernel
theorem dL_law_351 : decode cL_law 351 = .ok (.aload_n 1, 1) := by decide +kernel
theorem dL_law_352 : decode cL_law 352 = .ok (.aload_n 0, 1) := by decide +kernel
theorem dL_law_353 : decode cL_law 353 = .ok (.iload_n 3, 1) := by decide +kernel
theorem dL_law_354 : decode cL_law 354 = .ok (.iconst 1, 1) := by decide +kernel
theorem dL_law_355 : decode cL_law 355 = .ok (.iadd, 1) := by decide +kernel
theorem dL_law_356 : decode cL_law 356 = .ok (.iaload, 1) := by decide +kernel
theorem dL_law_357 : decode cL_law 357 = .ok (.aload_n 0, 1) := by decide +kernel
theorem dL_law_358 : decode cL_law 358 = .ok (.iload_n 3, 1) := by decide +kernel
theorem dL_law_359 : decode cL_law 359 = .ok (.iconst 2, 1) := by decide +kernel
theorem dL_law_360 : decode cL_law 360 = .ok (.iadd, 1) := by decide +kernel
theorem dL_law_361 : decode cL_law 361 = .ok (.iaload, 1) := by decide +kernel
theorem dL_law_362 : decode cL_law 362 = .ok (.aload_n 0, 1) := by decide +kernel
theorem dL_law_363 : decode cL_law 363 = .ok (.iload_n 3, 1) := by decide +kernel
theorem dL_law_364 : decode cL_law 364 = .ok (.iconst 3, 1) := by decide +kernel
theorem dL_law_365 : decode cL_law 365 = .ok (.iadd, 1) := by decide +kernel
theorem dL_law_366 : decode cL_law 366 = .ok (.iaload, 1) := by decide +kernel
theorem dL_law_367 : decode cL_law 367 = .ok (.aload_n 0, 1) := by decide +kernel
theorem dL_law_368 : decode cL_law 368 = .ok (.iload_n 3, 1) := by decide +kernel
theorem dL_law_369 : decode cL_law 369 = .ok (.iconst 4, 1) := by decide +kernel
theorem dL_law_370 : decode cL_law 370 = .ok (.iadd, 1) := by decide +kernel
theorem dL_law_371 : decode cL_law 371 = .ok (.iaload, 1) := by decide +kernel
theorem dL_law_372 : decode cL_law 372 = .ok (.invokevirtual 35, 3) := by decide +kernel
theorem dL_law_375 : decode cL_law 375 = .ok (.aload_n 2, 1) := by decide +kernel
theorem dL_law_376 : decode cL_law 376 = .ok (.aload_n 0, 1) := by decide +kernel
theorem dL_law_377 : decode cL_law 377 = .ok (.iload_n 3, 1) := by decide +kernel
theorem dL_law_378 : decode cL_law 378 = .ok (.iconst 1, 1) := by decide +kernel
theorem dL_law_379 : decode cL_law 379 = .ok (.iadd, 1) := by decide +kernel
theorem dL_law_380 : decode cL_law 380 = .ok (.iaload, 1) := by decide +kernel
theorem dL_law_381 : decode cL_law 381 = .ok (.aload_n 0, 1) := by decide +kernel
theorem dL_law_382 : decode cL_law 382 = .ok (.iload_n 3, 1) := by decide +kernel
theorem dL_law_383 : decode cL_law 383 = .ok (.iconst 2, 1) := by decide +kernel
theorem dL_law_384 : decode cL_law 384 = .ok (.iadd, 1) := by decide +kernel
theorem dL_law_385 : decode cL_law 385 = .ok (.iaload, 1) := by decide +kernel
theorem dL_law_386 : decode cL_law 386 = .ok (.aload_n 0, 1) := by decide +kernel
theorem dL_law_387 : decode cL_law 387 = .ok (.iload_n 3, 1) := by decide +kernel
theorem dL_law_388 : decode cL_law 388 = .ok (.iconst 3, 1) := by decide +kernel
theorem dL_law_389 : decode cL_law 389 = .ok (.iadd, 1) := by decide +kernel
theorem dL_law_390 : decode cL_law 390 = .ok (.iaload, 1) := by decide +kernel
theorem dL_law_391 : decode cL_law 391 = .ok (.aload_n 0, 1) := by decide +kernel
theorem dL_law_392 : decode cL_law 392 = .ok (.iload_n 3, 1) := by decide +kernel
theorem dL_law_393 : decode cL_law 393 = .ok (.iconst 4, 1) := by decide +kernel
theorem dL_law_394 : decode cL_law 394 = .ok (.iadd, 1) := by decide +kernel
theorem dL_law_395 : decode cL_law 395 = .ok (.iaload, 1) := by decide +kernel
theorem dL_law_396 : decode cL_law 396 = .ok (.invokevirtual 39, 3) := by decide +kernel
theorem dL_law_399 : decode cL_law 399 = .ok (.if_icmp .eq 626, 3) := by decide +kernel
theorem dL_law_402 : decode cL_law 402 = .ok (.iconst 0, 1) := by decide +kernel
theorem dL_law_403 : decode cL_law 403 = .ok (.ireturn, 1) := by decide +kernel
theorem dL_law_404 : decode cL_law 404 = .ok (.aload_n 1, 1) := by decide +kernel
theorem dL_law_405 : decode cL_law 405 = .ok (.aload_n 0, 1) := by decide +kernel
theorem dL_law_406 : decode cL_law 406 = .ok (.iload_n 3, 1) := by decide +kernel
theorem dL_law_407 : decode cL_law 407 = .ok (.iconst 1, 1) := by decide +kernel
theorem dL_law_408 : decode cL_law 408 = .ok (.iadd, 1) := by decide +kernel
theorem dL_law_409 : decode cL_law 409 = .ok (.iaload, 1) := by decide +kernel
theorem dL_law_410 : decode cL_law 410 = .ok (.aload_n 0, 1) := by decide +kernel
theorem dL_law_411 : decode cL_law 411 = .ok (.iload_n 3, 1) := by decide +kernel
theorem dL_law_412 : decode cL_law 412 = .ok (.iconst 2, 1) := by decide +kernel
theorem dL_law_413 : decode cL_law 413 = .ok (.iadd, 1) := by decide +kernel
theorem dL_law_414 : decode cL_law 414 = .ok (.iaload, 1) := by decide +kernel
theorem dL_law_415 : decode cL_law 415 = .ok (.aload_n 0, 1) := by decide +kernel
theorem dL_law_416 : decode cL_law 416 = .ok (.iload_n 3, 1) := by decide +kernel
theorem dL_law_417 : decode cL_law 417 = .ok (.iconst 3, 1) := by decide +kernel
theorem dL_law_418 : decode cL_law 418 = .ok (.iadd, 1) := by decide +kernel
theorem dL_law_419 : decode cL_law 419 = .ok (.iaload, 1) := by decide +kernel
theorem dL_law_420 : decode cL_law 420 = .ok (.invokevirtual 40, 3) := by decide +kernel
theorem dL_law_423 : decode cL_law 423 = .ok (.aload_n 2, 1) := by decide +kernel
theorem dL_law_424 : decode cL_law 424 = .ok (.aload_n 0, 1) := by decide +kernel
theorem dL_law_425 : decode cL_law 425 = .ok (.iload_n 3, 1) := by decide +kernel
theorem dL_law_426 : decode cL_law 426 = .ok (.iconst 1, 1) := by decide +kernel
theorem dL_law_427 : decode cL_law 427 = .ok (.iadd, 1) := by decide +kernel
theorem dL_law_428 : decode cL_law 428 = .ok (.iaload, 1) := by decide +kernel
theorem dL_law_429 : decode cL_law 429 = .ok (.aload_n 0, 1) := by decide +kernel
theorem dL_law_430 : decode cL_law 430 = .ok (.iload_n 3, 1) := by decide +kernel
theorem dL_law_431 : decode cL_law 431 = .ok (.iconst 2, 1) := by decide +kernel
theorem dL_law_432 : decode cL_law 432 = .ok (.iadd, 1) := by decide +kernel
theorem dL_law_433 : decode cL_law 433 = .ok (.iaload, 1) := by decide +kernel
theorem dL_law_434 : decode cL_law 434 = .ok (.aload_n 0, 1) := by decide +kernel
theorem dL_law_435 : decode cL_law 435 = .ok (.iload_n 3, 1) := by decide +kernel
theorem dL_law_436 : decode cL_law 436 = .ok (.iconst 3, 1) := by decide +kernel
theorem dL_law_437 : decode cL_law 437 = .ok (.iadd, 1) := by decide +kernel
theorem dL_law_438 : decode cL_law 438 = .ok (.iaload, 1) := by decide +kernel
theorem dL_law_439 : decode cL_law 439 = .ok (.invokevirtual 44, 3) := by decide +kernel
theorem dL_law_442 : decode cL_law 442 = .ok (.if_icmp .eq 583, 3) := by decide +kernel
theorem dL_law_445 : decode cL_law 445 = .ok (.iconst 0, 1) := by decide +kernel
theorem dL_law_446 : decode cL_law 446 = .ok (.ireturn, 1) := by decide +kernel
theorem dL_law_447 : decode cL_law 447 = .ok (.aload_n 1, 1) := by decide +kernel
theorem dL_law_448 : decode cL_law 448 = .ok (.aload_n 0, 1) := by decide +kernel
theorem dL_law_449 : decode cL_law 449 = .ok (.iload_n 3, 1) := by decide +kernel
theorem dL_law_450 : decode cL_law 450 = .ok (.iconst 1, 1) := by decide +kernel
theorem dL_law_451 : decode cL_law 451 = .ok (.iadd, 1) := by decide +kernel
theorem dL_law_452 : decode cL_law 452 = .ok (.iaload, 1) := by decide +kernel
theorem dL_law_453 : decode cL_law 453 = .ok (.aload_n 0, 1) := by decide +kernel
theorem dL_law_454 : decode cL_law 454 = .ok (.iload_n 3, 1) := by decide +kernel
theorem dL_law_455 : decode cL_law 455 = .ok (.iconst 2, 1) := by decide +kernel
theorem dL_law_456 : decode cL_law 456 = .ok (.iadd, 1) := by decide +kernel
theorem dL_law_457 : decode cL_law 457 = .ok (.iaload, 1) := by decide +kernel
theorem dL_law_458 : decode cL_law 458 = .ok (.invokevirtual 45, 3) := by decide +kernel
theorem dL_law_461 : decode cL_law 461 = .ok (.aload_n 2, 1) := by decide +kernel
theorem dL_law_462 : decode cL_law 462 = .ok (.aload_n 0, 1) := by decide +kernel
theorem dL_law_463 : decode cL_law 463 = .ok (.iload_n 3, 1) := by decide +kernel
theorem dL_law_464 : decode cL_law 464 = .ok (.iconst 1, 1) := by decide +kernel
theorem dL_law_465 : decode cL_law 465 = .ok (.iadd, 1) := by decide +kernel
theorem dL_law_466 : decode cL_law 466 = .ok (.iaload, 1) := by decide +kernel
theorem dL_law_467 : decode cL_law 467 = .ok (.aload_n 0, 1) := by decide +kernel
theorem dL_law_468 : decode cL_law 468 = .ok (.iload_n 3, 1) := by decide +kernel
theorem dL_law_469 : decode cL_law 469 = .ok (.iconst 2, 1) := by decide +kernel
theorem dL_law_470 : decode cL_law 470 = .ok (.iadd, 1) := by decide +kernel
theorem dL_law_471 : decode cL_law 471 = .ok (.iaload, 1) := by decide +kernel
theorem dL_law_472 : decode cL_law 472 = .ok (.invokevirtual 48, 3) := by decide +kernel
theorem dL_law_475 : decode cL_law 475 = .ok (.if_icmp .eq 550, 3) := by decide +kernel
theorem dL_law_478 : decode cL_law 478 = .ok (.iconst 0, 1) := by decide +kernel
theorem dL_law_479 : decode cL_law 479 = .ok (.ireturn, 1) := by decide +kernel
theorem dL_law_480 : decode cL_law 480 = .ok (.aload_n 1, 1) := by decide +kernel
theorem dL_law_481 : decode cL_law 481 = .ok (.aload_n 0, 1) := by decide +kernel
theorem dL_law_482 : decode cL_law 482 = .ok (.iload_n 3, 1) := by decide +kernel
theorem dL_law_483 : decode cL_law 483 = .ok (.iconst 1, 1) := by decide +kernel
theorem dL_law_484 : decode cL_law 484 = .ok (.iadd, 1) := by decide +kernel
theorem dL_law_485 : decode cL_law 485 = .ok (.iaload, 1) := by decide +kernel
theorem dL_law_486 : decode cL_law 486 = .ok (.aload_n 0, 1) := by decide +kernel
theorem dL_law_487 : decode cL_law 487 = .ok (.iload_n 3, 1) := by decide +kernel
theorem dL_law_488 : decode cL_law 488 = .ok (.iconst 2, 1) := by decide +kernel
theorem dL_law_489 : decode cL_law 489 = .ok (.iadd, 1) := by decide +kernel
theorem dL_law_490 : decode cL_law 490 = .ok (.iaload, 1) := by decide +kernel
theorem dL_law_491 : decode cL_law 491 = .ok (.invokevirtual 49, 3) := by decide +kernel
theorem dL_law_494 : decode cL_law 494 = .ok (.aload_n 2, 1) := by decide +kernel
theorem dL_law_495 : decode cL_law 495 = .ok (.aload_n 0, 1) := by decide +kernel
theorem dL_law_496 : decode cL_law 496 = .ok (.iload_n 3, 1) := by decide +kernel
theorem dL_law_497 : decode cL_law 497 = .ok (.iconst 1, 1) := by decide +kernel
theorem dL_law_498 : decode cL_law 498 = .ok (.iadd, 1) := by decide +kernel
theorem dL_law_499 : decode cL_law 499 = .ok (.iaload, 1) := by decide +kernel
theorem dL_law_500 : decode cL_law 500 = .ok (.aload_n 0, 1) := by decide +kernel
theorem dL_law_501 : decode cL_law 501 = .ok (.iload_n 3, 1) := by decide +kernel
theorem dL_law_502 : decode cL_law 502 = .ok (.iconst 2, 1) := by decide +kernel
theorem dL_law_503 : decode cL_law 503 = .ok (.iadd, 1) := by decide +kernel
theorem dL_law_504 : decode cL_law 504 = .ok (.iaload, 1) := by decide +kernel
theorem dL_law_505 : decode cL_law 505 = .ok (.invokevirtual 52, 3) := by decide +kernel
theorem dL_law_508 : decode cL_law 508 = .ok (.if_icmp .eq 517, 3) := by decide +kernel
theorem dL_law_511 : decode cL_law 511 = .ok (.iconst 0, 1) := by decide +kernel
theorem dL_law_512 : decode cL_law 512 = .ok (.ireturn, 1) := by decide +kernel
theorem dL_law_513 : decode cL_law 513 = .ok (.aload_n 1, 1) := by decide +kernel
theorem dL_law_514 : decode cL_law 514 = .ok (.aload_n 0, 1) := by decide +kernel
theorem dL_law_515 : decode cL_law 515 = .ok (.iload_n 3, 1) := by decide +kernel
theorem dL_law_516 : decode cL_law 516 = .ok (.iconst 1, 1) := by decide +kernel
theorem dL_law_517 : decode cL_law 517 = .ok (.iadd, 1) := by decide +kernel
theorem dL_law_518 : decode cL_law 518 = .ok (.iaload, 1) := by decide +kernel
theorem dL_law_519 : decode cL_law 519 = .ok (.invokevirtual 53, 3) := by decide +kernel
theorem dL_law_522 : decode cL_law 522 = .ok (.aload_n 2, 1) := by decide +kernel
theorem dL_law_523 : decode cL_law 523 = .ok (.aload_n 0, 1) := by decide +kernel
theorem dL_law_524 : decode cL_law 524 = .ok (.iload_n 3, 1) := by decide +kernel
theorem dL_law_525 : decode cL_law 525 = .ok (.iconst 1, 1) := by decide +kernel
theorem dL_law_526 : decode cL_law 526 = .ok (.iadd, 1) := by decide +kernel
theorem dL_law_527 : decode cL_law 527 = .ok (.iaload, 1) := by decide +kernel
theorem dL_law_528 : decode cL_law 528 = .ok (.invokevirtual 57, 3) := by decide +kernel
theorem dL_law_531 : decode cL_law 531 = .ok (.if_icmp .eq 494, 3) := by decide +kernel
theorem dL_law_534 : decode cL_law 534 = .ok (.iconst 0, 1) := by decide +kernel
theorem dL_law_535 : decode cL_law 535 = .ok (.ireturn, 1) := by decide +kernel
theorem dL_law_536 : decode cL_law 536 = .ok (.aload_n 1, 1) := by decide +kernel
theorem dL_law_537 : decode cL_law 537 = .ok (.aload_n 0, 1) := by decide +kernel
theorem dL_law_538 : decode cL_law 538 = .ok (.iload_n 3, 1) := by decide +kernel
theorem dL_law_539 : decode cL_law 539 = .ok (.iconst 1, 1) := by decide +kernel
theorem dL_law_540 : decode cL_law 540 = .ok (.iadd, 1) := by decide +kernel
theorem dL_law_541 : decode cL_law 541 = .ok (.iaload, 1) := by decide +kernel
theorem dL_law_542 : decode cL_law 542 = .ok (.aload_n 0, 1) := by decide +kernel
theorem dL_law_543 : decode cL_law 543 = .ok (.iload_n 3, 1) := by decide +kernel
theorem dL_law_544 : decode cL_law 544 = .ok (.iconst 2, 1) := by decide +kernel
theorem dL_law_545 : decode cL_law 545 = .ok (.iadd, 1) := by decide +kernel
theorem dL_law_546 : decode cL_law 546 = .ok (.iaload, 1) := by decide +kernel
theorem dL_law_547 : decode cL_law 547 = .ok (.ifCond .eq 7, 3) := by decide +kernel
theorem dL_law_550 : decode cL_law 550 = .ok (.iconst 1, 1) := by decide +kernel
theorem dL_law_551 : decode cL_law 551 = .ok (.goto 4, 3) := by decide +kernel
theorem dL_law_554 : decode cL_law 554 = .ok (.iconst 0, 1) := by decide +kernel
theorem dL_law_555 : decode cL_law 555 = .ok (.invokevirtual 58, 3) := by decide +kernel
theorem dL_law_558 : decode cL_law 558 = .ok (.aload_n 2, 1) := by decide +kernel
theorem dL_law_559 : decode cL_law 559 = .ok (.aload_n 0, 1) := by decide +kernel
theorem dL_law_560 : decode cL_law 560 = .ok (.iload_n 3, 1) := by decide +kernel
theorem dL_law_561 : decode cL_law 561 = .ok (.iconst 1, 1) := by decide +kernel
theorem dL_law_562 : decode cL_law 562 = .ok (.iadd, 1) := by decide +kernel
theorem dL_law_563 : decode cL_law 563 = .ok (.iaload, 1) := by decide +kernel
theorem dL_law_564 : decode cL_law 564 = .ok (.aload_n 0, 1) := by decide +kernel
theorem dL_law_565 : decode cL_law 565 = .ok (.iload_n 3, 1) := by decide +kernel
theorem dL_law_566 : decode cL_law 566 = .ok (.iconst 2, 1) := by decide +kernel
theorem dL_law_567 : decode cL_law 567 = .ok (.iadd, 1) := by decide +kernel
theorem dL_law_568 : decode cL_law 568 = .ok (.iaload, 1) := by decide +kernel
theorem dL_law_569 : decode cL_law 569 = .ok (.ifCond .eq 7, 3) := by decide +kernel
theorem dL_law_572 : decode cL_law 572 = .ok (.iconst 1, 1) := by decide +kernel
theorem dL_law_573 : decode cL_law 573 = .ok (.goto 4, 3) := by decide +kernel
theorem dL_law_576 : decode cL_law 576 = .ok (.iconst 0, 1) := by decide +kernel
theorem dL_law_577 : decode cL_law 577 = .ok (.invokevirtual 62, 3) := by decide +kernel
theorem dL_law_580 : decode cL_law 580 = .ok (.if_icmp .eq 445, 3) := by decide +kernel
theorem dL_law_583 : decode cL_law 583 = .ok (.iconst 0, 1) := by decide +kernel
theorem dL_law_584 : decode cL_law 584 = .ok (.ireturn, 1) := by decide +kernel
theorem dL_law_585 : decode cL_law 585 = .ok (.aload_n 1, 1) := by decide +kernel
theorem dL_law_586 : decode cL_law 586 = .ok (.aload_n 0, 1) := by decide +kernel
theorem dL_law_587 : decode cL_law 587 = .ok (.iload_n 3, 1) := by decide +kernel
theorem dL_law_588 : decode cL_law 588 = .ok (.iconst 1, 1) := by decide +kernel
theorem dL_law_589 : decode cL_law 589 = .ok (.iadd, 1) := by decide +kernel
theorem dL_law_590 : decode cL_law 590 = .ok (.iaload, 1) := by decide +kernel
theorem dL_law_591 : decode cL_law 591 = .ok (.aload_n 0, 1) := by decide +kernel
theorem dL_law_592 : decode cL_law 592 = .ok (.iload_n 3, 1) := by decide +kernel
theorem dL_law_593 : decode cL_law 593 = .ok (.iconst 2, 1) := by decide +kernel
theorem dL_law_594 : decode cL_law 594 = .ok (.iadd, 1) := by decide +kernel
theorem dL_law_595 : decode cL_law 595 = .ok (.iaload, 1) := by decide +kernel
theorem dL_law_596 : decode cL_law 596 = .ok (.invokevirtual 63, 3) := by decide +kernel
theorem dL_law_599 : decode cL_law 599 = .ok (.aload_n 2, 1) := by decide +kernel
theorem dL_law_600 : decode cL_law 600 = .ok (.aload_n 0, 1) := by decide +kernel
theorem dL_law_601 : decode cL_law 601 = .ok (.iload_n 3, 1) := by decide +kernel
theorem dL_law_602 : decode cL_law 602 = .ok (.iconst 1, 1) := by decide +kernel
theorem dL_law_603 : decode cL_law 603 = .ok (.iadd, 1) := by decide +kernel
theorem dL_law_604 : decode cL_law 604 = .ok (.iaload, 1) := by decide +kernel
theorem dL_law_605 : decode cL_law 605 = .ok (.aload_n 0, 1) := by decide +kernel
theorem dL_law_606 : decode cL_law 606 = .ok (.iload_n 3, 1) := by decide +kernel
theorem dL_law_607 : decode cL_law 607 = .ok (.iconst 2, 1) := by decide +kernel
theorem dL_law_608 : decode cL_law 608 = .ok (.iadd, 1) := by decide +kernel
theorem dL_law_609 : decode cL_law 609 = .ok (.iaload, 1) := by decide +kernel
theorem dL_law_610 : decode cL_law 610 = .ok (.invokevirtual 66, 3) := by decide +kernel
theorem dL_law_613 : decode cL_law 613 = .ok (.if_icmp .eq 412, 3) := by decide +kernel
theorem dL_law_616 : decode cL_law 616 = .ok (.iconst 0, 1) := by decide +kernel
theorem dL_law_617 : decode cL_law 617 = .ok (.ireturn, 1) := by decide +kernel
theorem dL_law_618 : decode cL_law 618 = .ok (.aload_n 1, 1) := by decide +kernel
theorem dL_law_619 : decode cL_law 619 = .ok (.aload_n 0, 1) := by decide +kernel
theorem dL_law_620 : decode cL_law 620 = .ok (.iload_n 3, 1) := by decide +kernel
theorem dL_law_621 : decode cL_law 621 = .ok (.iconst 1, 1) := by decide +kernel
theorem dL_law_622 : decode cL_law 622 = .ok (.iadd, 1) := by decide +kernel
theorem dL_law_623 : decode cL_law 623 = .ok (.iaload, 1) := by decide +kernel
theorem dL_law_624 : decode cL_law 624 = .ok (.aload_n 0, 1) := by decide +kernel
theorem dL_law_625 : decode cL_law 625 = .ok (.iload_n 3, 1) := by decide +kernel
theorem dL_law_626 : decode cL_law 626 = .ok (.iconst 2, 1) := by decide +kernel
theorem dL_law_627 : decode cL_law 627 = .ok (.iadd, 1) := by decide +kernel
theorem dL_law_628 : decode cL_law 628 = .ok (.iaload, 1) := by decide +kernel
theorem dL_law_629 : decode cL_law 629 = .ok (.aload_n 0, 1) := by decide +kernel
theorem dL_law_630 : decode cL_law 630 = .ok (.iload_n 3, 1) := by decide +kernel
theorem dL_law_631 : decode cL_law 631 = .ok (.iconst 3, 1) := by decide +kernel
theorem dL_law_632 : decode cL_law 632 = .ok (.iadd, 1) := by decide +kernel
theorem dL_law_633 : decode cL_law 633 = .ok (.iaload, 1) := by decide +kernel
theorem dL_law_634 : decode cL_law 634 = .ok (.invokevirtual 67, 3) := by decide +kernel
theorem dL_law_637 : decode cL_law 637 = .ok (.aload_n 2, 1) := by decide +kernel
theorem dL_law_638 : decode cL_law 638 = .ok (.aload_n 0, 1) := by decide +kernel
theorem dL_law_639 : decode cL_law 639 = .ok (.iload_n 3, 1) := by decide +kernel
theorem dL_law_640 : decode cL_law 640 = .ok (.iconst 1, 1) := by decide +kernel
theorem dL_law_641 : decode cL_law 641 = .ok (.iadd, 1) := by decide +kernel
theorem dL_law_642 : decode cL_law 642 = .ok (.iaload, 1) := by decide +kernel
theorem dL_law_643 : decode cL_law 643 = .ok (.aload_n 0, 1) := by decide +kernel
theorem dL_law_644 : decode cL_law 644 = .ok (.iload_n 3, 1) := by decide +kernel
theorem dL_law_645 : decode cL_law 645 = .ok (.iconst 2, 1) := by decide +kernel
theorem dL_law_646 : decode cL_law 646 = .ok (.iadd, 1) := by decide +kernel
theorem dL_law_647 : decode cL_law 647 = .ok (.iaload, 1) := by decide +kernel
theorem dL_law_648 : decode cL_law 648 = .ok (.aload_n 0, 1) := by decide +kernel
theorem dL_law_649 : decode cL_law 649 = .ok (.iload_n 3, 1) := by decide +kernel
theorem dL_law_650 : decode cL_law 650 = .ok (.iconst 3, 1) := by decide +kernel
theorem dL_law_651 : decode cL_law 651 = .ok (.iadd, 1) := by decide +kernel
theorem dL_law_652 : decode cL_law 652 = .ok (.iaload, 1) := by decide +kernel
theorem dL_law_653 : decode cL_law 653 = .ok (.invokevirtual 70, 3) := by decide +kernel
theorem dL_law_656 : decode cL_law 656 = .ok (.if_icmp .eq 369, 3) := by decide +kernel
theorem dL_law_659 : decode cL_law 659 = .ok (.iconst 0, 1) := by decide +kernel
theorem dL_law_660 : decode cL_law 660 = .ok (.ireturn, 1) := by decide +kernel
theorem dL_law_661 : decode cL_law 661 = .ok (.aload_n 1, 1) := by decide +kernel
theorem dL_law_662 : decode cL_law 662 = .ok (.aload_n 0, 1) := by decide +kernel
theorem dL_law_663 : decode cL_law 663 = .ok (.iload_n 3, 1) := by decide +kernel
theorem dL_law_664 : decode cL_law 664 = .ok (.iconst 1, 1) := by decide +kernel
theorem dL_law_665 : decode cL_law 665 = .ok (.iadd, 1) := by decide +kernel
theorem dL_law_666 : decode cL_law 666 = .ok (.iaload, 1) := by decide +kernel
theorem dL_law_667 : decode cL_law 667 = .ok (.aload_n 0, 1) := by decide +kernel
theorem dL_law_668 : decode cL_law 668 = .ok (.iload_n 3, 1) := by decide +kernel
theorem dL_law_669 : decode cL_law 669 = .ok (.iconst 2, 1) := by decide +kernel
theorem dL_law_670 : decode cL_law 670 = .ok (.iadd, 1) := by decide +kernel
theorem dL_law_671 : decode cL_law 671 = .ok (.iaload, 1) := by decide +kernel
theorem dL_law_672 : decode cL_law 672 = .ok (.invokevirtual 71, 3) := by decide +kernel
theorem dL_law_675 : decode cL_law 675 = .ok (.aload_n 2, 1) := by decide +kernel
theorem dL_law_676 : decode cL_law 676 = .ok (.aload_n 0, 1) := by decide +kernel
theorem dL_law_677 : decode cL_law 677 = .ok (.iload_n 3, 1) := by decide +kernel
theorem dL_law_678 : decode cL_law 678 = .ok (.iconst 1, 1) := by decide +kernel
theorem dL_law_679 : decode cL_law 679 = .ok (.iadd, 1) := by decide +kernel
theorem dL_law_680 : decode cL_law 680 = .ok (.iaload, 1) := by decide +kernel
theorem dL_law_681 : decode cL_law 681 = .ok (.aload_n 0, 1) := by decide +kernel
theorem dL_law_682 : decode cL_law 682 = .ok (.iload_n 3, 1) := by decide +kernel
theorem dL_law_683 : decode cL_law 683 = .ok (.iconst 2, 1) := by decide +kernel
theorem dL_law_684 : decode cL_law 684 = .ok (.iadd, 1) := by decide +kernel
theorem dL_law_685 : decode cL_law 685 = .ok (.iaload, 1) := by decide +kernel
theorem dL_law_686 : decode cL_law 686 = .ok (.invokevirtual 74, 3) := by decide +kernel
theorem dL_law_689 : decode cL_law 689 = .ok (.if_icmp .eq 336, 3) := by decide +kernel
theorem dL_law_692 : decode cL_law 692 = .ok (.iconst 0, 1) := by decide +kernel
theorem dL_law_693 : decode cL_law 693 = .ok (.ireturn, 1) := by decide +kernel
theorem dL_law_694 : decode cL_law 694 = .ok (.aload_n 1, 1) := by decide +kernel
theorem dL_law_695 : decode cL_law 695 = .ok (.aload_n 0, 1) := by decide +kernel
theorem dL_law_696 : decode cL_law 696 = .ok (.iload_n 3, 1) := by decide +kernel
theorem dL_law_697 : decode cL_law 697 = .ok (.iconst 1, 1) := by decide +kernel
theorem dL_law_698 : decode cL_law 698 = .ok (.iadd, 1) := by decide +kernel
theorem dL_law_699 : decode cL_law 699 = .ok (.iaload, 1) := by decide +kernel
theorem dL_law_700 : decode cL_law 700 = .ok (.invokevirtual 75, 3) := by decide +kernel
theorem dL_law_703 : decode cL_law 703 = .ok (.aload_n 2, 1) := by decide +kernel
theorem dL_law_704 : decode cL_law 704 = .ok (.aload_n 0, 1) := by decide +kernel
theorem dL_law_705 : decode cL_law 705 = .ok (.iload_n 3, 1) := by decide +kernel
theorem dL_law_706 : decode cL_law 706 = .ok (.iconst 1, 1) := by decide +kernel
theorem dL_law_707 : decode cL_law 707 = .ok (.iadd, 1) := by decide +kernel
theorem dL_law_708 : decode cL_law 708 = .ok (.iaload, 1) := by decide +kernel
theorem dL_law_709 : decode cL_law 709 = .ok (.invokevirtual 78, 3) := by decide +kernel
theorem dL_law_712 : decode cL_law 712 = .ok (.if_icmp .eq 313, 3) := by decide +kernel
theorem dL_law_715 : decode cL_law 715 = .ok (.iconst 0, 1) := by decide +kernel
theorem dL_law_716 : decode cL_law 716 = .ok (.ireturn, 1) := by decide +kernel
theorem dL_law_717 : decode cL_law 717 = .ok (.aload_n 1, 1) := by decide +kernel
theorem dL_law_718 : decode cL_law 718 = .ok (.aload_n 0, 1) := by decide +kernel
theorem dL_law_719 : decode cL_law 719 = .ok (.iload_n 3, 1) := by decide +kernel
theorem dL_law_720 : decode cL_law 720 = .ok (.iconst 1, 1) := by decide +kernel
theorem dL_law_721 : decode cL_law 721 = .ok (.iadd, 1) := by decide +kernel
theorem dL_law_722 : decode cL_law 722 = .ok (.iaload, 1) := by decide +kernel
theorem dL_law_723 : decode cL_law 723 = .ok (.aload_n 0, 1) := by decide +kernel
theorem dL_law_724 : decode cL_law 724 = .ok (.iload_n 3, 1) := by decide +kernel
theorem dL_law_725 : decode cL_law 725 = .ok (.iconst 2, 1) := by decide +kernel
theorem dL_law_726 : decode cL_law 726 = .ok (.iadd, 1) := by decide +kernel
theorem dL_law_727 : decode cL_law 727 = .ok (.iaload, 1) := by decide +kernel
theorem dL_law_728 : decode cL_law 728 = .ok (.invokevirtual 79, 3) := by decide +kernel
theorem dL_law_731 : decode cL_law 731 = .ok (.aload_n 2, 1) := by decide +kernel
theorem dL_law_732 : decode cL_law 732 = .ok (.aload_n 0, 1) := by decide +kernel
theorem dL_law_733 : decode cL_law 733 = .ok (.iload_n 3, 1) := by decide +kernel
theorem dL_law_734 : decode cL_law 734 = .ok (.iconst 1, 1) := by decide +kernel
theorem dL_law_735 : decode cL_law 735 = .ok (.iadd, 1) := by decide +kernel
theorem dL_law_736 : decode cL_law 736 = .ok (.iaload, 1) := by decide +kernel
theorem dL_law_737 : decode cL_law 737 = .ok (.aload_n 0, 1) := by decide +kernel
theorem dL_law_738 : decode cL_law 738 = .ok (.iload_n 3, 1) := by decide +kernel
theorem dL_law_739 : decode cL_law 739 = .ok (.iconst 2, 1) := by decide +kernel
theorem dL_law_740 : decode cL_law 740 = .ok (.iadd, 1) := by decide +kernel
theorem dL_law_741 : decode cL_law 741 = .ok (.iaload, 1) := by decide +kernel
theorem dL_law_742 : decode cL_law 742 = .ok (.invokevirtual 82, 3) := by decide +kernel
theorem dL_law_745 : decode cL_law 745 = .ok (.if_icmp .eq 280, 3) := by decide +kernel
theorem dL_law_748 : decode cL_law 748 = .ok (.iconst 0, 1) := by decide +kernel
theorem dL_law_749 : decode cL_law 749 = .ok (.ireturn, 1) := by decide +kernel
theorem dL_law_750 : decode cL_law 750 = .ok (.aload_n 1, 1) := by decide +kernel
theorem dL_law_751 : decode cL_law 751 = .ok (.aload_n 0, 1) := by decide +kernel
theorem dL_law_752 : decode cL_law 752 = .ok (.iload_n 3, 1) := by decide +kernel
theorem dL_law_753 : decode cL_law 753 = .ok (.iconst 1, 1) := by decide +kernel
theorem dL_law_754 : decode cL_law 754 = .ok (.iadd, 1) := by decide +kernel
theorem dL_law_755 : decode cL_law 755 = .ok (.iaload, 1) := by decide +kernel
theorem dL_law_756 : decode cL_law 756 = .ok (.invokevirtual 83, 3) := by decide +kernel
theorem dL_law_759 : decode cL_law 759 = .ok (.aload_n 2, 1) := by decide +kernel
theorem dL_law_760 : decode cL_law 760 = .ok (.aload_n 0, 1) := by decide +kernel
theorem dL_law_761 : decode cL_law 761 = .ok (.iload_n 3, 1) := by decide +kernel
theorem dL_law_762 : decode cL_law 762 = .ok (.iconst 1, 1) := by decide +kernel
theorem dL_law_763 : decode cL_law 763 = .ok (.iadd, 1) := by decide +kernel
theorem dL_law_764 : decode cL_law 764 = .ok (.iaload, 1) := by decide +kernel
theorem dL_law_765 : decode cL_law 765 = .ok (.invokevirtual 86, 3) := by decide +kernel
theorem dL_law_768 : decode cL_law 768 = .ok (.if_icmp .eq 257, 3) := by decide +kernel
theorem dL_law_771 : decode cL_law 771 = .ok (.iconst 0, 1) := by decide +kernel
theorem dL_law_772 : decode cL_law 772 = .ok (.ireturn, 1) := by decide +kernel
theorem dL_law_773 : decode cL_law 773 = .ok (.aload_n 1, 1) := by decide +kernel
theorem dL_law_774 : decode cL_law 774 = .ok (.aload_n 0, 1) := by decide +kernel
theorem dL_law_775 : decode cL_law 775 = .ok (.iload_n 3, 1) := by decide +kernel
theorem dL_law_776 : decode cL_law 776 = .ok (.iconst 1, 1) := by decide +kernel
theorem dL_law_777 : decode cL_law 777 = .ok (.iadd, 1) := by decide +kernel
theorem dL_law_778 : decode cL_law 778 = .ok (.iaload, 1) := by decide +kernel
theorem dL_law_779 : decode cL_law 779 = .ok (.invokevirtual 87, 3) := by decide +kernel
theorem dL_law_782 : decode cL_law 782 = .ok (.aload_n 2, 1) := by decide +kernel
theorem dL_law_783 : decode cL_law 783 = .ok (.aload_n 0, 1) := by decide +kernel
theorem dL_law_784 : decode cL_law 784 = .ok (.iload_n 3, 1) := by decide +kernel
theorem dL_law_785 : decode cL_law 785 = .ok (.iconst 1, 1) := by decide +kernel
theorem dL_law_786 : decode cL_law 786 = .ok (.iadd, 1) := by decide +kernel
theorem dL_law_787 : decode cL_law 787 = .ok (.iaload, 1) := by decide +kernel
theorem dL_law_788 : decode cL_law 788 = .ok (.invokevirtual 90, 3) := by decide +kernel
theorem dL_law_791 : decode cL_law 791 = .ok (.if_icmp .eq 234, 3) := by decide +kernel
theorem dL_law_794 : decode cL_law 794 = .ok (.iconst 0, 1) := by decide +kernel
theorem dL_law_795 : decode cL_law 795 = .ok (.ireturn, 1) := by decide +kernel
theorem dL_law_796 : decode cL_law 796 = .ok (.aload_n 1, 1) := by decide +kernel
theorem dL_law_797 : decode cL_law 797 = .ok (.aload_n 0, 1) := by decide +kernel
theorem dL_law_798 : decode cL_law 798 = .ok (.iload_n 3, 1) := by decide +kernel
theorem dL_law_799 : decode cL_law 799 = .ok (.iconst 1, 1) := by decide +kernel
theorem dL_law_800 : decode cL_law 800 = .ok (.iadd, 1) := by decide +kernel
theorem dL_law_801 : decode cL_law 801 = .ok (.iaload, 1) := by decide +kernel
theorem dL_law_802 : decode cL_law 802 = .ok (.invokevirtual 91, 3) := by decide +kernel
theorem dL_law_805 : decode cL_law 805 = .ok (.aload_n 2, 1) := by decide +kernel
theorem dL_law_806 : decode cL_law 806 = .ok (.aload_n 0, 1) := by decide +kernel
theorem dL_law_807 : decode cL_law 807 = .ok (.iload_n 3, 1) := by decide +kernel
theorem dL_law_808 : decode cL_law 808 = .ok (.iconst 1, 1) := by decide +kernel
theorem dL_law_809 : decode cL_law 809 = .ok (.iadd, 1) := by decide +kernel
theorem dL_law_810 : decode cL_law 810 = .ok (.iaload, 1) := by decide +kernel
theorem dL_law_811 : decode cL_law 811 = .ok (.invokevirtual 94, 3) := by decide +kernel
theorem dL_law_814 : decode cL_law 814 = .ok (.if_icmp .eq 211, 3) := by decide +kernel
theorem dL_law_817 : decode cL_law 817 = .ok (.iconst 0, 1) := by decide +kernel
theorem dL_law_818 : decode cL_law 818 = .ok (.ireturn, 1) := by decide +kernel
theorem dL_law_819 : decode cL_law 819 = .ok (.aload_n 1, 1) := by decide +kernel
theorem dL_law_820 : decode cL_law 820 = .ok (.aload_n 0, 1) := by decide +kernel
theorem dL_law_821 : decode cL_law 821 = .ok (.iload_n 3, 1) := by decide +kernel
theorem dL_law_822 : decode cL_law 822 = .ok (.iconst 1, 1) := by decide +kernel
theorem dL_law_823 : decode cL_law 823 = .ok (.iadd, 1) := by decide +kernel
theorem dL_law_824 : decode cL_law 824 = .ok (.iaload, 1) := by decide +kernel
theorem dL_law_825 : decode cL_law 825 = .ok (.aload_n 0, 1) := by decide +kernel
theorem dL_law_826 : decode cL_law 826 = .ok (.iload_n 3, 1) := by decide +kernel
theorem dL_law_827 : decode cL_law 827 = .ok (.iconst 2, 1) := by decide +kernel
theorem dL_law_828 : decode cL_law 828 = .ok (.iadd, 1) := by decide +kernel
theorem dL_law_829 : decode cL_law 829 = .ok (.iaload, 1) := by decide +kernel
theorem dL_law_830 : decode cL_law 830 = .ok (.ifCond .eq 7, 3) := by decide +kernel
theorem dL_law_833 : decode cL_law 833 = .ok (.iconst 1, 1) := by decide +kernel
theorem dL_law_834 : decode cL_law 834 = .ok (.goto 4, 3) := by decide +kernel
theorem dL_law_837 : decode cL_law 837 = .ok (.iconst 0, 1) := by decide +kernel
theorem dL_law_838 : decode cL_law 838 = .ok (.invokevirtual 95, 3) := by decide +kernel
theorem dL_law_841 : decode cL_law 841 = .ok (.aload_n 2, 1) := by decide +kernel
theorem dL_law_842 : decode cL_law 842 = .ok (.aload_n 0, 1) := by decide +kernel
theorem dL_law_843 : decode cL_law 843 = .ok (.iload_n 3, 1) := by decide +kernel
theorem dL_law_844 : decode cL_law 844 = .ok (.iconst 1, 1) := by decide +kernel
theorem dL_law_845 : decode cL_law 845 = .ok (.iadd, 1) := by decide +kernel
theorem dL_law_846 : decode cL_law 846 = .ok (.iaload, 1) := by decide +kernel
theorem dL_law_847 : decode cL_law 847 = .ok (.aload_n 0, 1) := by decide +kernel
theorem dL_law_848 : decode cL_law 848 = .ok (.iload_n 3, 1) := by decide +kernel
theorem dL_law_849 : decode cL_law 849 = .ok (.iconst 2, 1) := by decide +kernel
theorem dL_law_850 : decode cL_law 850 = .ok (.iadd, 1) := by decide +kernel
theorem dL_law_851 : decode cL_law 851 = .ok (.iaload, 1) := by decide +kernel
theorem dL_law_852 : decode cL_law 852 = .ok (.ifCond .eq 7, 3) := by decide +kernel
theorem dL_law_855 : decode cL_law 855 = .ok (.iconst 1, 1) := by decide +kernel
theorem dL_law_856 : decode cL_law 856 = .ok (.goto 4, 3) := by decide +kernel
theorem dL_law_859 : decode cL_law 859 = .ok (.iconst 0, 1) := by decide +kernel
theorem dL_law_860 : decode cL_law 860 = .ok (.invokevirtual 98, 3) := by decide +kernel
theorem dL_law_863 : decode cL_law 863 = .ok (.if_icmp .eq 162, 3) := by decide +kernel
theorem dL_law_866 : decode cL_law 866 = .ok (.iconst 0, 1) := by decide +kernel
theorem dL_law_867 : decode cL_law 867 = .ok (.ireturn, 1) := by decide +kernel
theorem dL_law_868 : decode cL_law 868 = .ok (.aload_n 1, 1) := by decide +kernel
theorem dL_law_869 : decode cL_law 869 = .ok (.invokevirtual 99, 3) := by decide +kernel
theorem dL_law_872 : decode cL_law 872 = .ok (.aload_n 2, 1) := by decide +kernel
theorem dL_law_873 : decode cL_law 873 = .ok (.invokevirtual 103, 3) := by decide +kernel
theorem dL_law_876 : decode cL_law 876 = .ok (.if_icmp .eq 149, 3) := by decide +kernel
theorem dL_law_879 : decode cL_law 879 = .ok (.iconst 0, 1) := by decide +kernel
theorem dL_law_880 : decode cL_law 880 = .ok (.ireturn, 1) := by decide +kernel
theorem dL_law_881 : decode cL_law 881 = .ok (.aload_n 1, 1) := by decide +kernel
theorem dL_law_882 : decode cL_law 882 = .ok (.aload_n 0, 1) := by decide +kernel
theorem dL_law_883 : decode cL_law 883 = .ok (.iload_n 3, 1) := by decide +kernel
theorem dL_law_884 : decode cL_law 884 = .ok (.iconst 1, 1) := by decide +kernel
theorem dL_law_885 : decode cL_law 885 = .ok (.iadd, 1) := by decide +kernel
theorem dL_law_886 : decode cL_law 886 = .ok (.iaload, 1) := by decide +kernel
theorem dL_law_887 : decode cL_law 887 = .ok (.invokevirtual 104, 3) := by decide +kernel
theorem dL_law_890 : decode cL_law 890 = .ok (.aload_n 2, 1) := by decide +kernel
theorem dL_law_891 : decode cL_law 891 = .ok (.aload_n 0, 1) := by decide +kernel
theorem dL_law_892 : decode cL_law 892 = .ok (.iload_n 3, 1) := by decide +kernel
theorem dL_law_893 : decode cL_law 893 = .ok (.iconst 1, 1) := by decide +kernel
theorem dL_law_894 : decode cL_law 894 = .ok (.iadd, 1) := by decide +kernel
theorem dL_law_895 : decode cL_law 895 = .ok (.iaload, 1) := by decide +kernel
theorem dL_law_896 : decode cL_law 896 = .ok (.invokevirtual 107, 3) := by decide +kernel
theorem dL_law_899 : decode cL_law 899 = .ok (.if_icmp .eq 126, 3) := by decide +kernel
theorem dL_law_902 : decode cL_law 902 = .ok (.iconst 0, 1) := by decide +kernel
theorem dL_law_903 : decode cL_law 903 = .ok (.ireturn, 1) := by decide +kernel
theorem dL_law_904 : decode cL_law 904 = .ok (.aload_n 1, 1) := by decide +kernel
theorem dL_law_905 : decode cL_law 905 = .ok (.aload_n 0, 1) := by decide +kernel
theorem dL_law_906 : decode cL_law 906 = .ok (.iload_n 3, 1) := by decide +kernel
theorem dL_law_907 : decode cL_law 907 = .ok (.iconst 1, 1) := by decide +kernel
theorem dL_law_908 : decode cL_law 908 = .ok (.iadd, 1) := by decide +kernel
theorem dL_law_909 : decode cL_law 909 = .ok (.iaload, 1) := by decide +kernel
theorem dL_law_910 : decode cL_law 910 = .ok (.aload_n 0, 1) := by decide +kernel
theorem dL_law_911 : decode cL_law 911 = .ok (.iload_n 3, 1) := by decide +kernel
theorem dL_law_912 : decode cL_law 912 = .ok (.iconst 2, 1) := by decide +kernel
theorem dL_law_913 : decode cL_law 913 = .ok (.iadd, 1) := by decide +kernel
theorem dL_law_914 : decode cL_law 914 = .ok (.iaload, 1) := by decide +kernel
theorem dL_law_915 : decode cL_law 915 = .ok (.ifCond .eq 7, 3) := by decide +kernel
theorem dL_law_918 : decode cL_law 918 = .ok (.iconst 1, 1) := by decide +kernel
theorem dL_law_919 : decode cL_law 919 = .ok (.goto 4, 3) := by decide +kernel
theorem dL_law_922 : decode cL_law 922 = .ok (.iconst 0, 1) := by decide +kernel
theorem dL_law_923 : decode cL_law 923 = .ok (.invokevirtual 108, 3) := by decide +kernel
theorem dL_law_926 : decode cL_law 926 = .ok (.aload_n 2, 1) := by decide +kernel
theorem dL_law_927 : decode cL_law 927 = .ok (.aload_n 0, 1) := by decide +kernel
theorem dL_law_928 : decode cL_law 928 = .ok (.iload_n 3, 1) := by decide +kernel
theorem dL_law_929 : decode cL_law 929 = .ok (.iconst 1, 1) := by decide +kernel
theorem dL_law_930 : decode cL_law 930 = .ok (.iadd, 1) := by decide +kernel
theorem dL_law_931 : decode cL_law 931 = .ok (.iaload, 1) := by decide +kernel
theorem dL_law_932 : decode cL_law 932 = .ok (.aload_n 0, 1) := by decide +kernel
theorem dL_law_933 : decode cL_law 933 = .ok (.iload_n 3, 1) := by decide +kernel
theorem dL_law_934 : decode cL_law 934 = .ok (.iconst 2, 1) := by decide +kernel
theorem dL_law_935 : decode cL_law 935 = .ok (.iadd, 1) := by decide +kernel
theorem dL_law_936 : decode cL_law 936 = .ok (.iaload, 1) := by decide +kernel
theorem dL_law_937 : decode cL_law 937 = .ok (.ifCond .eq 7, 3) := by decide +kernel
theorem dL_law_940 : decode cL_law 940 = .ok (.iconst 1, 1) := by decide +kernel
theorem dL_law_941 : decode cL_law 941 = .ok (.goto 4, 3) := by decide +kernel
theorem dL_law_944 : decode cL_law 944 = .ok (.iconst 0, 1) := by decide +kernel
theorem dL_law_945 : decode cL_law 945 = .ok (.invokevirtual 111, 3) := by decide +kernel
theorem dL_law_948 : decode cL_law 948 = .ok (.if_icmp .eq 77, 3) := by decide +kernel
theorem dL_law_951 : decode cL_law 951 = .ok (.iconst 0, 1) := by decide +kernel
theorem dL_law_952 : decode cL_law 952 = .ok (.ireturn, 1) := by decide +kernel
theorem dL_law_953 : decode cL_law 953 = .ok (.aload_n 1, 1) := by decide +kernel
theorem dL_law_954 : decode cL_law 954 = .ok (.invokevirtual 112, 3) := by decide +kernel
theorem dL_law_957 : decode cL_law 957 = .ok (.aload_n 2, 1) := by decide +kernel
theorem dL_law_958 : decode cL_law 958 = .ok (.invokevirtual 115, 3) := by decide +kernel
theorem dL_law_961 : decode cL_law 961 = .ok (.if_icmp .eq 64, 3) := by decide +kernel
theorem dL_law_964 : decode cL_law 964 = .ok (.iconst 0, 1) := by decide +kernel
theorem dL_law_965 : decode cL_law 965 = .ok (.ireturn, 1) := by decide +kernel
theorem dL_law_966 : decode cL_law 966 = .ok (.aload_n 1, 1) := by decide +kernel
theorem dL_law_967 : decode cL_law 967 = .ok (.aload_n 0, 1) := by decide +kernel
theorem dL_law_968 : decode cL_law 968 = .ok (.iload_n 3, 1) := by decide +kernel
theorem dL_law_969 : decode cL_law 969 = .ok (.iconst 1, 1) := by decide +kernel
theorem dL_law_970 : decode cL_law 970 = .ok (.iadd, 1) := by decide +kernel
theorem dL_law_971 : decode cL_law 971 = .ok (.iaload, 1) := by decide +kernel
theorem dL_law_972 : decode cL_law 972 = .ok (.aload_n 0, 1) := by decide +kernel
theorem dL_law_973 : decode cL_law 973 = .ok (.iload_n 3, 1) := by decide +kernel
theorem dL_law_974 : decode cL_law 974 = .ok (.iconst 2, 1) := by decide +kernel
theorem dL_law_975 : decode cL_law 975 = .ok (.iadd, 1) := by decide +kernel
theorem dL_law_976 : decode cL_law 976 = .ok (.iaload, 1) := by decide +kernel
theorem dL_law_977 : decode cL_law 977 = .ok (.invokevirtual 116, 3) := by decide +kernel
theorem dL_law_980 : decode cL_law 980 = .ok (.aload_n 2, 1) := by decide +kernel
theorem dL_law_981 : decode cL_law 981 = .ok (.aload_n 0, 1) := by decide +kernel
theorem dL_law_982 : decode cL_law 982 = .ok (.iload_n 3, 1) := by decide +kernel
theorem dL_law_983 : decode cL_law 983 = .ok (.iconst 1, 1) := by decide +kernel
theorem dL_law_984 : decode cL_law 984 = .ok (.iadd, 1) := by decide +kernel
theorem dL_law_985 : decode cL_law 985 = .ok (.iaload, 1) := by decide +kernel
theorem dL_law_986 : decode cL_law 986 = .ok (.aload_n 0, 1) := by decide +kernel
theorem dL_law_987 : decode cL_law 987 = .ok (.iload_n 3, 1) := by decide +kernel
theorem dL_law_988 : decode cL_law 988 = .ok (.iconst 2, 1) := by decide +kernel
theorem dL_law_989 : decode cL_law 989 = .ok (.iadd, 1) := by decide +kernel
theorem dL_law_990 : decode cL_law 990 = .ok (.iaload, 1) := by decide +kernel
theorem dL_law_991 : decode cL_law 991 = .ok (.invokevirtual 119, 3) := by decide +kernel
theorem dL_law_994 : decode cL_law 994 = .ok (.if_icmp .eq 31, 3) := by decide +kernel
theorem dL_law_997 : decode cL_law 997 = .ok (.iconst 0, 1) := by decide +kernel
theorem dL_law_998 : decode cL_law 998 = .ok (.ireturn, 1) := by decide +kernel
theorem dL_law_999 : decode cL_law 999 = .ok (.aload_n 1, 1) := by decide +kernel
theorem dL_law_1000 : decode cL_law 1000 = .ok (.invokevirtual 120, 3) := by decide +kernel
theorem dL_law_1003 : decode cL_law 1003 = .ok (.aload_n 2, 1) := by decide +kernel
theorem dL_law_1004 : decode cL_law 1004 = .ok (.invokevirtual 123, 3) := by decide +kernel
theorem dL_law_1007 : decode cL_law 1007 = .ok (.if_icmp .eq 18, 3) := by decide +kernel
theorem dL_law_1010 : decode cL_law 1010 = .ok (.iconst 0, 1) := by decide +kernel
theorem dL_law_1011 : decode cL_law 1011 = .ok (.ireturn, 1) := by decide +kernel
theorem dL_law_1012 : decode cL_law 1012 = .ok (.aload_n 1, 1) := by decide +kernel
theorem dL_law_1013 : decode cL_law 1013 = .ok (.invokevirtual 124, 3) := by decide +kernel
theorem dL_law_1016 : decode cL_law 1016 = .ok (.aload_n 2, 1) := by decide +kernel
theorem dL_law_1017 : decode cL_law 1017 = .ok (.invokevirtual 127, 3) := by decide +kernel
theorem dL_law_1020 : decode cL_law 1020 = .ok (.if_icmp .eq 5, 3) := by decide +kernel
theorem dL_law_1023 : decode cL_law 1023 = .ok (.iconst 0, 1) := by decide +kernel
theorem dL_law_1024 : decode cL_law 1024 = .ok (.ireturn, 1) := by decide +kernel
theorem dL_law_1025 : decode cL_law 1025 = .ok (.iinc 3 6, 3) := by decide +kernel
theorem dL_law_1028 : decode cL_law 1028 = .ok (.goto (-1010), 3) := by decide +kernel
theorem dL_law_1031 : decode cL_law 1031 = .ok (.iconst 1, 1) := by decide +kernel
theorem dL_law_1032 : decode cL_law 1032 = .ok (.ireturn, 1) := by decide +kernel
end
section
/-! the world: 149 cells of fixed kinds; a memory gives the int slots and the long of each -/
abbrev dw_M : Type := (Nat → Nat → Int32) × (Nat → Int64)
abbrev dw_G : Type := va_G × ClassId × ClassId × (Nat → Nat)
abbrev dw_ad (Γ : dw_G) (i : Nat) : Nat := Γ.2.2.2 i
def dw_st (μ : dw_M) (i k : Nat) (x : Int32) : dw_M := (fun a => if a = i then upd (μ.1 a) k x else μ.1 a, μ.2)
def dw_sl (μ : dw_M) (i : Nat) (x : Int64) : dw_M := (μ.1, fun a => if a = i then x else μ.2 a)
def dw_kl : List Nat := [9, 6, 1, 11, 11, 11, 11, 11, 11, 11, 3, 4, 12, 5, 3, 5, 3, 5, 3, 5, 3, 5, 3, 5, 3, 5, 3, 5, 3, 5, 3, 5, 3, 5, 3, 5, 3, 5, 3, 5, 3, 5, 3, 5, 3, 5, 3, 5, 3, 5, 3, 5, 3, 8, 11, 11, 11, 11, 11, 11, 2, 11, 2, 2, 6, 1, 11, 11, 11, 11, 11, 11, 11, 3, 4, 12, 5, 3, 5, 3, 5, 3, 5, 3, 5, 3, 5, 3, 5, 3, 5, 3, 5, 3, 5, 3, 5, 3, 5, 3, 5, 3, 5, 3, 5, 3, 5, 3, 5, 3, 5, 3, 5, 3, 5, 3, 8, 11, 11, 11, 11, 11, 11, 2, 11, 2, 2, 8, 11, 11, 11, 11, 11, 11, 2, 0, 11, 11, 11, 11, 7, 11, 11, 10, 11, 11, 11, 11, 11]
def dw_ll : List Nat := [0, 0, 0, 36, 36, 4, 4, 4, 4, 4, 0, 0, 20, 0, 0, 0, 0, 0, 0, 0, 0, 0, 0, 0, 0, 0, 0, 0, 0, 0, 0, 0, 0, 0, 0, 0, 0, 0, 0, 0, 0, 0, 0, 0, 0, 0, 0, 0, 0, 0, 0, 0, 0, 0, 36, 36, 20, 20, 20, 4, 0, 36, 0, 0, 0, 0, 36, 36, 4, 4, 4, 4, 4, 0, 0, 20, 0, 0, 0, 0, 0, 0, 0, 0, 0, 0, 0, 0, 0, 0, 0, 0, 0, 0, 0, 0, 0, 0, 0, 0, 0, 0, 0, 0, 0, 0, 0, 0, 0, 0, 0, 0, 0, 0, 0, 0, 0, 36, 36, 20, 20, 20, 4, 0, 36, 0, 0, 0, 36, 36, 20, 20, 20, 4, 0, 0, 20, 20, 36, 720, 0, 36, 36, 0, 800, 800, 800, 36, 36]
def dw_kd (i : Nat) : Nat := dw_kl.getD i 99
def dw_ln (i : Nat) : Nat := dw_ll.getD i 0
def dw_f0 (Γ : dw_G) (i : Nat) (f : Nat → Int32) (g : Int64) : List Value := [.ref (dw_ad Γ (i + 1)), .ref (dw_ad Γ (i + 2)), .ref (dw_ad Γ (i + 3)), .ref (dw_ad Γ (i + 4))]
def dw_f1 (Γ : dw_G) (i : Nat) (f : Nat → Int32) (g : Int64) : List Value := [.int (f 0), .int (f 1), .ref (dw_ad Γ (i + 1)), .ref (dw_ad Γ (i + 2)), .ref (dw_ad Γ (i + 3)), .ref (dw_ad Γ (i + 4)), .ref (dw_ad Γ (i + 5)), .ref (dw_ad Γ (i + 6)), .ref (dw_ad Γ (i + 7))]
def dw_f2 (Γ : dw_G) (i : Nat) (f : Nat → Int32) (g : Int64) : List Value := [.long g]
def dw_f3 (Γ : dw_G) (i : Nat) (f : Nat → Int32) (g : Int64) : List Value := [.int (f 0), .int (f 1), .int (f 2), .int (f 3), .int (f 4)]
def dw_f4 (Γ : dw_G) (i : Nat) (f : Nat → Int32) (g : Int64) : List Value := [.ref (dw_ad Γ (i + 1)), .int (f 1)]
def dw_f5 (Γ : dw_G) (i : Nat) (f : Nat → Int32) (g : Int64) : List Value := [.ref (dw_ad Γ (i + 1)), .int (f 1), .int (f 2), .int (f 3), .int (f 4), .int (f 5)]
def dw_f6 (Γ : dw_G) (i : Nat) (f : Nat → Int32) (g : Int64) : List Value := [.ref (dw_ad Γ (i + 1)), .ref (dw_ad Γ (i + 9)), .ref (dw_ad Γ (i + 10)), .ref (dw_ad Γ (i + 52)), .ref (dw_ad Γ (i + 60)), .ref (dw_ad Γ (i + 61)), .ref (dw_ad Γ (i + 62))]
def dw_f7 (Γ : dw_G) (i : Nat) (f : Nat → Int32) (g : Int64) : List Value := [.ref (dw_ad Γ (i + 1)), .ref (dw_ad Γ (i + 2)), .int (f 2), .int (f 3), .int (f 4), .int (f 5), .int (f 6)]
def dw_f8 (Γ : dw_G) (i : Nat) (f : Nat → Int32) (g : Int64) : List Value := [.ref (dw_ad Γ (i + 1)), .ref (dw_ad Γ (i + 2)), .ref (dw_ad Γ (i + 3)), .ref (dw_ad Γ (i + 4)), .ref (dw_ad Γ (i + 5)), .ref (dw_ad Γ (i + 6)), .ref (dw_ad Γ (i + 7)), .int (f 7), .int (f 8)]
def dw_f9 (Γ : dw_G) (i : Nat) (f : Nat → Int32) (g : Int64) : List Value := [.ref (dw_ad Γ (i + 1)), .ref (dw_ad Γ (i + 64)), .int (f 2), .ref (dw_ad Γ (i + 127)), .ref (dw_ad Γ (i + 135)), .ref (dw_ad Γ (i + 140))]
def dw_f10 (Γ : dw_G) (i : Nat) (f : Nat → Int32) (g : Int64) : List Value := [.ref (dw_ad Γ (i + 1)), .ref (dw_ad Γ (i + 2)), .ref (dw_ad Γ (i + 3)), .int (f 3), .ref (dw_ad Γ (i + 4)), .ref (dw_ad Γ (i + 5)), .int (f 6)]
def dw_pa (Γ : dw_G) (i : Nat) : Nat → Option Nat := fun p => if p < 20 then some (dw_ad Γ (i + 1 + 2 * p)) else none
def dw_cz (Γ : dw_G) (i : Nat) (f : Nat → Int32) (g : Int64) : va_E := match dw_kd i with
  | 0 => .inr (0, dw_f0 Γ i f g)
  | 1 => .inr (1, dw_f1 Γ i f g)
  | 2 => .inr (2, dw_f2 Γ i f g)
  | 3 => .inr (3, dw_f3 Γ i f g)
  | 4 => .inr (4, dw_f4 Γ i f g)
  | 5 => .inr (5, dw_f5 Γ i f g)
  | 6 => .inr (6, dw_f6 Γ i f g)
  | 7 => .inr (7, dw_f7 Γ i f g)
  | 8 => .inr (8, dw_f8 Γ i f g)
  | 9 => .inr (9, dw_f9 Γ i f g)
  | 10 => .inr (10, dw_f10 Γ i f g)
  | 11 => .inl (Γ.2.1, dw_ln i, .inl f)
  | _ => .inl (Γ.2.2.1, 20, .inr (.inr (.inr (.inr (dw_pa Γ i)))))
theorem dw_cz0 {Γ : dw_G} {i : Nat} {f : Nat → Int32} {g : Int64} (h : dw_kd i = 0) : dw_cz Γ i f g = .inr (0, dw_f0 Γ i f g) := by unfold dw_cz; rw [h]; rfl
theorem dw_cz1 {Γ : dw_G} {i : Nat} {f : Nat → Int32} {g : Int64} (h : dw_kd i = 1) : dw_cz Γ i f g = .inr (1, dw_f1 Γ i f g) := by unfold dw_cz; rw [h]; rfl
theorem dw_cz2 {Γ : dw_G} {i : Nat} {f : Nat → Int32} {g : Int64} (h : dw_kd i = 2) : dw_cz Γ i f g = .inr (2, dw_f2 Γ i f g) := by unfold dw_cz; rw [h]; rfl
theorem dw_cz3 {Γ : dw_G} {i : Nat} {f : Nat → Int32} {g : Int64} (h : dw_kd i = 3) : dw_cz Γ i f g = .inr (3, dw_f3 Γ i f g) := by unfold dw_cz; rw [h]; rfl
theorem dw_cz4 {Γ : dw_G} {i : Nat} {f : Nat → Int32} {g : Int64} (h : dw_kd i = 4) : dw_cz Γ i f g = .inr (4, dw_f4 Γ i f g) := by unfold dw_cz; rw [h]; rfl
theorem dw_cz5 {Γ : dw_G} {i : Nat} {f : Nat → Int32} {g : Int64} (h : dw_kd i = 5) : dw_cz Γ i f g = .inr (5, dw_f5 Γ i f g) := by unfold dw_cz; rw [h]; rfl
theorem dw_cz6 {Γ : dw_G} {i : Nat} {f : Nat → Int32} {g : Int64} (h : dw_kd i = 6) : dw_cz Γ i f g = .inr (6, dw_f6 Γ i f g) := by unfold dw_cz; rw [h]; rfl
theorem dw_cz7 {Γ : dw_G} {i : Nat} {f : Nat → Int32} {g : Int64} (h : dw_kd i = 7) : dw_cz Γ i f g = .inr (7, dw_f7 Γ i f g) := by unfold dw_cz; rw [h]; rfl
theorem dw_cz8 {Γ : dw_G} {i : Nat} {f : Nat → Int32} {g : Int64} (h : dw_kd i = 8) : dw_cz Γ i f g = .inr (8, dw_f8 Γ i f g) := by unfold dw_cz; rw [h]; rfl
theorem dw_cz9 {Γ : dw_G} {i : Nat} {f : Nat → Int32} {g : Int64} (h : dw_kd i = 9) : dw_cz Γ i f g = .inr (9, dw_f9 Γ i f g) := by unfold dw_cz; rw [h]; rfl
theorem dw_cz10 {Γ : dw_G} {i : Nat} {f : Nat → Int32} {g : Int64} (h : dw_kd i = 10) : dw_cz Γ i f g = .inr (10, dw_f10 Γ i f g) := by unfold dw_cz; rw [h]; rfl
theorem dw_cz11 {Γ : dw_G} {i : Nat} {f : Nat → Int32} {g : Int64} (h : dw_kd i = 11) : dw_cz Γ i f g = .inl (Γ.2.1, dw_ln i, .inl f) := by unfold dw_cz; rw [h]; rfl
theorem dw_cz12 {Γ : dw_G} {i : Nat} {f : Nat → Int32} {g : Int64} (h : dw_kd i = 12) : dw_cz Γ i f g = .inl (Γ.2.2.1, 20, .inr (.inr (.inr (.inr (dw_pa Γ i))))) := by unfold dw_cz; rw [h]; rfl
theorem dw_lt {i k : Nat} (h : dw_kd i = k) (hk : k < 99) : i < 149 := by
  rcases Nat.lt_or_ge i 149 with q | q
  · exact q
  · have e : dw_kd i = 99 := by
      unfold dw_kd
      rw [List.getD_eq_getElem?_getD, List.getElem?_eq_none (show dw_kl.length ≤ i from Nat.le_trans (by decide +kernel) q)]
      rfl
    omega
def dw_wl (Γ : dw_G) (μ : dw_M) : va_W := (List.range 149).map (fun i => (dw_ad Γ i, dw_cz Γ i (μ.1 i) (μ.2 i)))
theorem dw_at {Γ : dw_G} {μ : dw_M} {i : Nat} (h : i < 149) : (dw_wl Γ μ)[i]? = some (dw_ad Γ i, dw_cz Γ i (μ.1 i) (μ.2 i)) := by
  unfold dw_wl
  rw [List.getElem?_map, List.getElem?_range h]
  rfl
theorem dw_len (Γ : dw_G) (μ : dw_M) : (dw_wl Γ μ).length = 149 := by simp [dw_wl]
theorem dw_set {Γ : dw_G} {μ ν : dw_M} {i : Nat} {E : va_E} (h : i < 149) (hE : E = dw_cz Γ i (ν.1 i) (ν.2 i)) (h1 : ∀ j, j ≠ i → ν.1 j = μ.1 j) (h2 : ∀ j, j ≠ i → ν.2 j = μ.2 j) : (dw_wl Γ μ).set i (dw_ad Γ i, E) = dw_wl Γ ν := by
  apply List.ext_getElem?
  intro j
  by_cases e : j = i
  · subst e
    rw [List.getElem?_set_self (by rw [dw_len]; exact h), dw_at h, hE]
  · rw [List.getElem?_set_ne (Ne.symm e)]
    rcases Nat.lt_or_ge j 149 with q | q
    · rw [dw_at q, dw_at q, h1 j e, h2 j e]
    · rw [List.getElem?_eq_none (by rw [dw_len]; exact q), List.getElem?_eq_none (by rw [dw_len]; exact q)]
theorem dw_st_at (μ : dw_M) (i k : Nat) (x : Int32) : (dw_st μ i k x).1 i = upd (μ.1 i) k x := by simp [dw_st]
theorem dw_st_ne (μ : dw_M) (i k : Nat) (x : Int32) : ∀ j, j ≠ i → (dw_st μ i k x).1 j = μ.1 j := fun j h => by simp [dw_st, h]
theorem dw_sl_at (μ : dw_M) (i : Nat) (x : Int64) : (dw_sl μ i x).2 i = x := by simp [dw_sl]
theorem dw_sl_ne (μ : dw_M) (i : Nat) (x : Int64) : ∀ j, j ≠ i → (dw_sl μ i x).2 j = μ.2 j := fun j h => by simp [dw_sl, h]
def dw_inj (Γ : dw_G) : Prop := ∀ i j : Nat, i < 149 → j < 149 → dw_ad Γ i = dw_ad Γ j → i = j
def dw_A (Γ : dw_G) : Nat → Prop := fun q => ∃ i : Nat, i < 149 ∧ q = dw_ad Γ i
theorem dw_DD {Γ : dw_G} (hj : dw_inj Γ) (μ : dw_M) : va_D (dw_A Γ) (dw_wl Γ μ) := by
  have key : ∀ (k : Nat) (q : Nat × va_E), (dw_wl Γ μ)[k]? = some q → k < 149 ∧ q.1 = dw_ad Γ k := by
    intro k q hk
    rcases Nat.lt_or_ge k 149 with h | h
    · rw [dw_at h] at hk
      cases hk
      exact ⟨h, rfl⟩
    · rw [List.getElem?_eq_none (by rw [dw_len]; exact h)] at hk
      cases hk
  refine ⟨fun i j x y hi hk hxy => ?_, fun k q hk => ?_⟩
  · obtain ⟨a1, a2⟩ := key i x hi
    obtain ⟨b1, b2⟩ := key j y hk
    exact hj i j a1 b1 (a2.symm.trans (hxy.trans b2))
  · obtain ⟨a1, a2⟩ := key k q hk
    exact ⟨k, a1, a2⟩
theorem dw_r0_0 {i : Nat} (h : dw_kd i = 0) : dw_kd (i + 1) = 11 := (by decide +kernel : ∀ i, i < 149 → dw_kd i = 0 → dw_kd (i + 1) = 11) i (dw_lt h (by decide)) h
theorem dw_n0_0 {i : Nat} (h : dw_kd i = 0) : dw_ln (i + 1) = 20 := (by decide +kernel : ∀ i, i < 149 → dw_kd i = 0 → dw_ln (i + 1) = 20) i (dw_lt h (by decide)) h
theorem dw_r0_1 {i : Nat} (h : dw_kd i = 0) : dw_kd (i + 2) = 11 := (by decide +kernel : ∀ i, i < 149 → dw_kd i = 0 → dw_kd (i + 2) = 11) i (dw_lt h (by decide)) h
theorem dw_n0_1 {i : Nat} (h : dw_kd i = 0) : dw_ln (i + 2) = 20 := (by decide +kernel : ∀ i, i < 149 → dw_kd i = 0 → dw_ln (i + 2) = 20) i (dw_lt h (by decide)) h
theorem dw_r0_2 {i : Nat} (h : dw_kd i = 0) : dw_kd (i + 3) = 11 := (by decide +kernel : ∀ i, i < 149 → dw_kd i = 0 → dw_kd (i + 3) = 11) i (dw_lt h (by decide)) h
theorem dw_n0_2 {i : Nat} (h : dw_kd i = 0) : dw_ln (i + 3) = 36 := (by decide +kernel : ∀ i, i < 149 → dw_kd i = 0 → dw_ln (i + 3) = 36) i (dw_lt h (by decide)) h
theorem dw_r0_3 {i : Nat} (h : dw_kd i = 0) : dw_kd (i + 4) = 11 := (by decide +kernel : ∀ i, i < 149 → dw_kd i = 0 → dw_kd (i + 4) = 11) i (dw_lt h (by decide)) h
theorem dw_n0_3 {i : Nat} (h : dw_kd i = 0) : dw_ln (i + 4) = 720 := (by decide +kernel : ∀ i, i < 149 → dw_kd i = 0 → dw_ln (i + 4) = 720) i (dw_lt h (by decide)) h
theorem dw_r1_2 {i : Nat} (h : dw_kd i = 1) : dw_kd (i + 1) = 11 := (by decide +kernel : ∀ i, i < 149 → dw_kd i = 1 → dw_kd (i + 1) = 11) i (dw_lt h (by decide)) h
theorem dw_n1_2 {i : Nat} (h : dw_kd i = 1) : dw_ln (i + 1) = 36 := (by decide +kernel : ∀ i, i < 149 → dw_kd i = 1 → dw_ln (i + 1) = 36) i (dw_lt h (by decide)) h
theorem dw_r1_3 {i : Nat} (h : dw_kd i = 1) : dw_kd (i + 2) = 11 := (by decide +kernel : ∀ i, i < 149 → dw_kd i = 1 → dw_kd (i + 2) = 11) i (dw_lt h (by decide)) h
theorem dw_n1_3 {i : Nat} (h : dw_kd i = 1) : dw_ln (i + 2) = 36 := (by decide +kernel : ∀ i, i < 149 → dw_kd i = 1 → dw_ln (i + 2) = 36) i (dw_lt h (by decide)) h
theorem dw_r1_4 {i : Nat} (h : dw_kd i = 1) : dw_kd (i + 3) = 11 := (by decide +kernel : ∀ i, i < 149 → dw_kd i = 1 → dw_kd (i + 3) = 11) i (dw_lt h (by decide)) h
theorem dw_n1_4 {i : Nat} (h : dw_kd i = 1) : dw_ln (i + 3) = 4 := (by decide +kernel : ∀ i, i < 149 → dw_kd i = 1 → dw_ln (i + 3) = 4) i (dw_lt h (by decide)) h
theorem dw_r1_5 {i : Nat} (h : dw_kd i = 1) : dw_kd (i + 4) = 11 := (by decide +kernel : ∀ i, i < 149 → dw_kd i = 1 → dw_kd (i + 4) = 11) i (dw_lt h (by decide)) h
theorem dw_n1_5 {i : Nat} (h : dw_kd i = 1) : dw_ln (i + 4) = 4 := (by decide +kernel : ∀ i, i < 149 → dw_kd i = 1 → dw_ln (i + 4) = 4) i (dw_lt h (by decide)) h
theorem dw_r1_6 {i : Nat} (h : dw_kd i = 1) : dw_kd (i + 5) = 11 := (by decide +kernel : ∀ i, i < 149 → dw_kd i = 1 → dw_kd (i + 5) = 11) i (dw_lt h (by decide)) h
theorem dw_n1_6 {i : Nat} (h : dw_kd i = 1) : dw_ln (i + 5) = 4 := (by decide +kernel : ∀ i, i < 149 → dw_kd i = 1 → dw_ln (i + 5) = 4) i (dw_lt h (by decide)) h
theorem dw_r1_7 {i : Nat} (h : dw_kd i = 1) : dw_kd (i + 6) = 11 := (by decide +kernel : ∀ i, i < 149 → dw_kd i = 1 → dw_kd (i + 6) = 11) i (dw_lt h (by decide)) h
theorem dw_n1_7 {i : Nat} (h : dw_kd i = 1) : dw_ln (i + 6) = 4 := (by decide +kernel : ∀ i, i < 149 → dw_kd i = 1 → dw_ln (i + 6) = 4) i (dw_lt h (by decide)) h
theorem dw_r1_8 {i : Nat} (h : dw_kd i = 1) : dw_kd (i + 7) = 11 := (by decide +kernel : ∀ i, i < 149 → dw_kd i = 1 → dw_kd (i + 7) = 11) i (dw_lt h (by decide)) h
theorem dw_n1_8 {i : Nat} (h : dw_kd i = 1) : dw_ln (i + 7) = 4 := (by decide +kernel : ∀ i, i < 149 → dw_kd i = 1 → dw_ln (i + 7) = 4) i (dw_lt h (by decide)) h
theorem dw_r4_0 {i : Nat} (h : dw_kd i = 4) : dw_kd (i + 1) = 12 := (by decide +kernel : ∀ i, i < 149 → dw_kd i = 4 → dw_kd (i + 1) = 12) i (dw_lt h (by decide)) h
theorem dw_r5_0 {i : Nat} (h : dw_kd i = 5) : dw_kd (i + 1) = 3 := (by decide +kernel : ∀ i, i < 149 → dw_kd i = 5 → dw_kd (i + 1) = 3) i (dw_lt h (by decide)) h
theorem dw_r6_0 {i : Nat} (h : dw_kd i = 6) : dw_kd (i + 1) = 1 := (by decide +kernel : ∀ i, i < 149 → dw_kd i = 6 → dw_kd (i + 1) = 1) i (dw_lt h (by decide)) h
theorem dw_r6_1 {i : Nat} (h : dw_kd i = 6) : dw_kd (i + 9) = 3 := (by decide +kernel : ∀ i, i < 149 → dw_kd i = 6 → dw_kd (i + 9) = 3) i (dw_lt h (by decide)) h
theorem dw_r6_2 {i : Nat} (h : dw_kd i = 6) : dw_kd (i + 10) = 4 := (by decide +kernel : ∀ i, i < 149 → dw_kd i = 6 → dw_kd (i + 10) = 4) i (dw_lt h (by decide)) h
theorem dw_r6_3 {i : Nat} (h : dw_kd i = 6) : dw_kd (i + 52) = 8 := (by decide +kernel : ∀ i, i < 149 → dw_kd i = 6 → dw_kd (i + 52) = 8) i (dw_lt h (by decide)) h
theorem dw_r6_4 {i : Nat} (h : dw_kd i = 6) : dw_kd (i + 60) = 11 := (by decide +kernel : ∀ i, i < 149 → dw_kd i = 6 → dw_kd (i + 60) = 11) i (dw_lt h (by decide)) h
theorem dw_n6_4 {i : Nat} (h : dw_kd i = 6) : dw_ln (i + 60) = 36 := (by decide +kernel : ∀ i, i < 149 → dw_kd i = 6 → dw_ln (i + 60) = 36) i (dw_lt h (by decide)) h
theorem dw_r6_5 {i : Nat} (h : dw_kd i = 6) : dw_kd (i + 61) = 2 := (by decide +kernel : ∀ i, i < 149 → dw_kd i = 6 → dw_kd (i + 61) = 2) i (dw_lt h (by decide)) h
theorem dw_r6_6 {i : Nat} (h : dw_kd i = 6) : dw_kd (i + 62) = 2 := (by decide +kernel : ∀ i, i < 149 → dw_kd i = 6 → dw_kd (i + 62) = 2) i (dw_lt h (by decide)) h
theorem dw_r7_0 {i : Nat} (h : dw_kd i = 7) : dw_kd (i + 1) = 11 := (by decide +kernel : ∀ i, i < 149 → dw_kd i = 7 → dw_kd (i + 1) = 11) i (dw_lt h (by decide)) h
theorem dw_n7_0 {i : Nat} (h : dw_kd i = 7) : dw_ln (i + 1) = 36 := (by decide +kernel : ∀ i, i < 149 → dw_kd i = 7 → dw_ln (i + 1) = 36) i (dw_lt h (by decide)) h
theorem dw_r7_1 {i : Nat} (h : dw_kd i = 7) : dw_kd (i + 2) = 11 := (by decide +kernel : ∀ i, i < 149 → dw_kd i = 7 → dw_kd (i + 2) = 11) i (dw_lt h (by decide)) h
theorem dw_n7_1 {i : Nat} (h : dw_kd i = 7) : dw_ln (i + 2) = 36 := (by decide +kernel : ∀ i, i < 149 → dw_kd i = 7 → dw_ln (i + 2) = 36) i (dw_lt h (by decide)) h
theorem dw_r8_0 {i : Nat} (h : dw_kd i = 8) : dw_kd (i + 1) = 11 := (by decide +kernel : ∀ i, i < 149 → dw_kd i = 8 → dw_kd (i + 1) = 11) i (dw_lt h (by decide)) h
theorem dw_n8_0 {i : Nat} (h : dw_kd i = 8) : dw_ln (i + 1) = 36 := (by decide +kernel : ∀ i, i < 149 → dw_kd i = 8 → dw_ln (i + 1) = 36) i (dw_lt h (by decide)) h
theorem dw_r8_1 {i : Nat} (h : dw_kd i = 8) : dw_kd (i + 2) = 11 := (by decide +kernel : ∀ i, i < 149 → dw_kd i = 8 → dw_kd (i + 2) = 11) i (dw_lt h (by decide)) h
theorem dw_n8_1 {i : Nat} (h : dw_kd i = 8) : dw_ln (i + 2) = 36 := (by decide +kernel : ∀ i, i < 149 → dw_kd i = 8 → dw_ln (i + 2) = 36) i (dw_lt h (by decide)) h
theorem dw_r8_2 {i : Nat} (h : dw_kd i = 8) : dw_kd (i + 3) = 11 := (by decide +kernel : ∀ i, i < 149 → dw_kd i = 8 → dw_kd (i + 3) = 11) i (dw_lt h (by decide)) h
theorem dw_n8_2 {i : Nat} (h : dw_kd i = 8) : dw_ln (i + 3) = 20 := (by decide +kernel : ∀ i, i < 149 → dw_kd i = 8 → dw_ln (i + 3) = 20) i (dw_lt h (by decide)) h
theorem dw_r8_3 {i : Nat} (h : dw_kd i = 8) : dw_kd (i + 4) = 11 := (by decide +kernel : ∀ i, i < 149 → dw_kd i = 8 → dw_kd (i + 4) = 11) i (dw_lt h (by decide)) h
theorem dw_n8_3 {i : Nat} (h : dw_kd i = 8) : dw_ln (i + 4) = 20 := (by decide +kernel : ∀ i, i < 149 → dw_kd i = 8 → dw_ln (i + 4) = 20) i (dw_lt h (by decide)) h
theorem dw_r8_4 {i : Nat} (h : dw_kd i = 8) : dw_kd (i + 5) = 11 := (by decide +kernel : ∀ i, i < 149 → dw_kd i = 8 → dw_kd (i + 5) = 11) i (dw_lt h (by decide)) h
theorem dw_n8_4 {i : Nat} (h : dw_kd i = 8) : dw_ln (i + 5) = 20 := (by decide +kernel : ∀ i, i < 149 → dw_kd i = 8 → dw_ln (i + 5) = 20) i (dw_lt h (by decide)) h
theorem dw_r8_5 {i : Nat} (h : dw_kd i = 8) : dw_kd (i + 6) = 11 := (by decide +kernel : ∀ i, i < 149 → dw_kd i = 8 → dw_kd (i + 6) = 11) i (dw_lt h (by decide)) h
theorem dw_n8_5 {i : Nat} (h : dw_kd i = 8) : dw_ln (i + 6) = 4 := (by decide +kernel : ∀ i, i < 149 → dw_kd i = 8 → dw_ln (i + 6) = 4) i (dw_lt h (by decide)) h
theorem dw_r8_6 {i : Nat} (h : dw_kd i = 8) : dw_kd (i + 7) = 2 := (by decide +kernel : ∀ i, i < 149 → dw_kd i = 8 → dw_kd (i + 7) = 2) i (dw_lt h (by decide)) h
theorem dw_r9_0 {i : Nat} (h : dw_kd i = 9) : dw_kd (i + 1) = 6 := (by decide +kernel : ∀ i, i < 149 → dw_kd i = 9 → dw_kd (i + 1) = 6) i (dw_lt h (by decide)) h
theorem dw_r9_1 {i : Nat} (h : dw_kd i = 9) : dw_kd (i + 64) = 6 := (by decide +kernel : ∀ i, i < 149 → dw_kd i = 9 → dw_kd (i + 64) = 6) i (dw_lt h (by decide)) h
theorem dw_r9_3 {i : Nat} (h : dw_kd i = 9) : dw_kd (i + 127) = 8 := (by decide +kernel : ∀ i, i < 149 → dw_kd i = 9 → dw_kd (i + 127) = 8) i (dw_lt h (by decide)) h
theorem dw_r9_4 {i : Nat} (h : dw_kd i = 9) : dw_kd (i + 135) = 0 := (by decide +kernel : ∀ i, i < 149 → dw_kd i = 9 → dw_kd (i + 135) = 0) i (dw_lt h (by decide)) h
theorem dw_r9_5 {i : Nat} (h : dw_kd i = 9) : dw_kd (i + 140) = 7 := (by decide +kernel : ∀ i, i < 149 → dw_kd i = 9 → dw_kd (i + 140) = 7) i (dw_lt h (by decide)) h
theorem dw_r10_0 {i : Nat} (h : dw_kd i = 10) : dw_kd (i + 1) = 11 := (by decide +kernel : ∀ i, i < 149 → dw_kd i = 10 → dw_kd (i + 1) = 11) i (dw_lt h (by decide)) h
theorem dw_n10_0 {i : Nat} (h : dw_kd i = 10) : dw_ln (i + 1) = 800 := (by decide +kernel : ∀ i, i < 149 → dw_kd i = 10 → dw_ln (i + 1) = 800) i (dw_lt h (by decide)) h
theorem dw_r10_1 {i : Nat} (h : dw_kd i = 10) : dw_kd (i + 2) = 11 := (by decide +kernel : ∀ i, i < 149 → dw_kd i = 10 → dw_kd (i + 2) = 11) i (dw_lt h (by decide)) h
theorem dw_n10_1 {i : Nat} (h : dw_kd i = 10) : dw_ln (i + 2) = 800 := (by decide +kernel : ∀ i, i < 149 → dw_kd i = 10 → dw_ln (i + 2) = 800) i (dw_lt h (by decide)) h
theorem dw_r10_2 {i : Nat} (h : dw_kd i = 10) : dw_kd (i + 3) = 11 := (by decide +kernel : ∀ i, i < 149 → dw_kd i = 10 → dw_kd (i + 3) = 11) i (dw_lt h (by decide)) h
theorem dw_n10_2 {i : Nat} (h : dw_kd i = 10) : dw_ln (i + 3) = 800 := (by decide +kernel : ∀ i, i < 149 → dw_kd i = 10 → dw_ln (i + 3) = 800) i (dw_lt h (by decide)) h
theorem dw_r10_4 {i : Nat} (h : dw_kd i = 10) : dw_kd (i + 4) = 11 := (by decide +kernel : ∀ i, i < 149 → dw_kd i = 10 → dw_kd (i + 4) = 11) i (dw_lt h (by decide)) h
theorem dw_n10_4 {i : Nat} (h : dw_kd i = 10) : dw_ln (i + 4) = 36 := (by decide +kernel : ∀ i, i < 149 → dw_kd i = 10 → dw_ln (i + 4) = 36) i (dw_lt h (by decide)) h
theorem dw_r10_5 {i : Nat} (h : dw_kd i = 10) : dw_kd (i + 5) = 11 := (by decide +kernel : ∀ i, i < 149 → dw_kd i = 10 → dw_kd (i + 5) = 11) i (dw_lt h (by decide)) h
theorem dw_n10_5 {i : Nat} (h : dw_kd i = 10) : dw_ln (i + 5) = 36 := (by decide +kernel : ∀ i, i < 149 → dw_kd i = 10 → dw_ln (i + 5) = 36) i (dw_lt h (by decide)) h
theorem dw_pk {i p : Nat} (h : dw_kd i = 12) (hp : p < 20) : dw_kd (i + 1 + 2 * p) = 5 := (by decide +kernel : ∀ i, i < 149 → dw_kd i = 12 → ∀ p, p < 20 → dw_kd (i + 1 + 2 * p) = 5) i (dw_lt h (by decide)) h p hp
/-! guards and names of the programs as functions -/
def dw_ok (x : Int32) (n : Nat) : Bool := decide (¬ x < 0) && decide (x.toNatClampNeg < n)
theorem dw_ok_in {x : Int32} {n : Nat} (h : dw_ok x n = true) : vp_in x n := by
  unfold dw_ok at h
  rw [Bool.and_eq_true, decide_eq_true_eq, decide_eq_true_eq] at h
  rintro (q | q)
  · exact h.1 q
  · omega
theorem dw_ok_lt {x : Int32} {n : Nat} (h : dw_ok x n = true) : x.toNatClampNeg < n := by
  unfold dw_ok at h
  rw [Bool.and_eq_true, decide_eq_true_eq, decide_eq_true_eq] at h
  exact h.2
def dw_gd {β : Type} (b : Bool) (k : Option β) : Option β := if b = true then k else none
theorem dw_gdS {β : Type} {b : Bool} {k : Option β} {r : β} (h : dw_gd b k = some r) : b = true ∧ k = some r := by
  unfold dw_gd at h
  split at h
  · exact ⟨by assumption, h⟩
  · cases h
theorem dw_gdT {β : Type} {b : Bool} {k : Option β} (h : b = true) : dw_gd b k = k := if_pos h
def dw_nz (x : Int32) : Bool := decide (¬ x = 0)
theorem dw_nzS {x : Int32} (h : dw_nz x = true) : ¬ x = 0 := of_decide_eq_true h
def dw_bo (x : Int32) : Bool := decide (x = 0) || decide (x = 1)
theorem dw_boN {x : Int32} (h : dw_bo x = true) : narrow .boolean (.int x) = .int x := by
  unfold dw_bo at h
  rw [Bool.or_eq_true, decide_eq_true_eq, decide_eq_true_eq] at h
  rcases h with rfl | rfl <;> rfl
def dw_nm {α β : Type} (e : α) (k : α → Option β) : Option β := k e
theorem dw_nmS {α β : Type} {e x : α} {k : α → Option β} {r : Option β} (ex : x = e) (h : dw_nm e k = r) : k x = r := by
  subst ex
  exact h
theorem dw_ifT {α : Type} {c : Prop} [Decidable c] {a b : α} {r : α} (hc : c) (h : (if c then a else b) = r) : a = r := by
  rw [if_pos hc] at h; exact h
theorem dw_ifF {α : Type} {c : Prop} [Decidable c] {a b : α} {r : α} (hc : ¬ c) (h : (if c then a else b) = r) : b = r := by
  rw [if_neg hc] at h; exact h
def dw_jn {α β : Type} (k : α → β) (g : (α → β) → β) : β := g k
def dw_bd {α β : Type} (e : Option α) (k : α → Option β) : Option β := match e with
  | none => none
  | some x => k x
theorem dw_bdS {α β : Type} {e : Option α} {k : α → Option β} {r : β} (h : dw_bd e k = some r) : ∃ x, e = some x ∧ k x = some r := by
  cases e with
  | none => cases h
  | some x => exact ⟨x, rfl, h⟩
/-- a loop: a step says how it goes on, or what it ends with -/
def dw_wh {σ ρ : Type} (step : σ → Option (σ ⊕ ρ)) : Nat → σ → Option ρ
  | 0, _ => none
  | n + 1, x => match step x with
    | none => none
    | some (.inl y) => dw_wh step n y
    | some (.inr r) => some r
theorem dw_whS {σ ρ : Type} {step : σ → Option (σ ⊕ ρ)} {n : Nat} {x : σ} {r : ρ} (h : dw_wh step (n + 1) x = some r) : ∃ q, step x = some q ∧ (match q with | .inl y => dw_wh step n y | .inr r => some r) = some r := by
  unfold dw_wh at h
  cases e : step x with
  | none => rw [e] at h; cases h
  | some q =>
    rw [e] at h
    refine ⟨q, rfl, ?_⟩
    cases q with
    | inl y => exact h
    | inr z => exact h
theorem dw_whB {σ ρ β : Type} {step : σ → Option (σ ⊕ ρ)} {n : Nat} {x : σ} {k : ρ → Option β} {r : β} (h : dw_bd (dw_wh step (n + 1) x) k = some r) : ∃ q, step x = some q ∧ (match q with | .inl y => dw_bd (dw_wh step n y) k | .inr z => k z) = some r := by
  obtain ⟨z, h1, h2⟩ := dw_bdS h
  obtain ⟨q, h3, h4⟩ := dw_whS h1
  refine ⟨q, h3, ?_⟩
  cases q with
  | inl y =>
    have h4 : dw_wh step n y = some z := h4
    show dw_bd (dw_wh step n y) k = some r
    rw [h4]
    exact h2
  | inr w =>
    have h4 : some w = some z := h4
    cases h4
    exact h2
theorem dw_wh0 {σ ρ β : Type} {step : σ → Option (σ ⊕ ρ)} {x : σ} {k : ρ → Option β} {r : β} (h : dw_bd (dw_wh step 0 x) k = some r) : False := by
  cases h
/-! the words -/
def dw_TB : List Cond := lw_tbl.filter goodWord
theorem dw_mem {w : Cond} {i : Nat} (h : lw_tbl[i]? = some w) (hg : goodWord w = true) : w ∈ dw_TB := List.mem_filter.mpr ⟨List.mem_of_getElem? h, hg⟩
theorem dw_good : ∀ w ∈ dw_TB, (w.onTables && w.keeps) = true ∨ ∃ ty, w = .arrayClass ty := fun w h => good_of_word (List.mem_filter.mp h).2
def dw_ws (y : MethodName) (b : ByteArray) (n : Nat) (r : Option FieldType) : List Cond := .code y b n r :: dw_TB
theorem dw_gw {y : MethodName} {b : ByteArray} {n : Nat} {r : Option FieldType} (h : Cond.code y b n r ∈ dw_TB) : GoodIn dw_TB (dw_ws y b n r) := by
  intro w hw
  rcases List.mem_cons.mp hw with rfl | hw
  · exact ⟨h, dw_good _ h⟩
  · exact ⟨hw, dw_good _ hw⟩
theorem dw_gV {own : String} {idx : Nat} {C : String} {y : MethodName} {b : ByteArray} {n : Nat} {r : Option FieldType} (h1 : Cond.methodLink own idx y ∈ dw_TB) (h2 : Cond.instanceMethod y ∈ dw_TB) (h3 : Cond.selects C y y ∈ dw_TB) (h4 : Cond.initialized C ∈ dw_TB) (h5 : Cond.code y b n r ∈ dw_TB) : GoodIn dw_TB (wsV own idx C y (dw_ws y b n r)) := by
  intro w hw
  unfold wsV at hw
  rcases List.mem_append.mp hw with hw | hw
  · simp only [List.mem_cons, List.not_mem_nil, or_false] at hw
    rcases hw with rfl | rfl | rfl | rfl
    · exact ⟨h1, dw_good _ h1⟩
    · exact ⟨h2, dw_good _ h2⟩
    · exact ⟨h3, dw_good _ h3⟩
    · exact ⟨h4, dw_good _ h4⟩
  · exact dw_gw h5 w hw
theorem dw_gS {own : String} {idx : Nat} {y : MethodName} {b : ByteArray} {n : Nat} {r : Option FieldType} (h1 : Cond.methodLink own idx y ∈ dw_TB) (h2 : Cond.static y ∈ dw_TB) (h4 : Cond.initialized y.cls ∈ dw_TB) (h5 : Cond.code y b n r ∈ dw_TB) : GoodIn dw_TB (va_wsS own idx y (dw_ws y b n r)) := by
  intro w hw
  unfold va_wsS at hw
  rcases List.mem_append.mp hw with hw | hw
  · simp only [List.mem_cons, List.not_mem_nil, or_false] at hw
    rcases hw with rfl | rfl | rfl
    · exact ⟨h1, dw_good _ h1⟩
    · exact ⟨h2, dw_good _ h2⟩
    · exact ⟨h4, dw_good _ h4⟩
  · exact dw_gw h5 w hw
def dw_nest : List (String × Nat × MethodName × String) := [(RX9, 11, yX6_init, RX9), (RX6, 20, yX3_init, RX9), (RX4, 17, yX5_init, RX9), (RX5, 11, yX3_init, RX9), (RX6, 34, yX8_init, RX9), (RX8, 32, yX2_init, RX9), (RX6, 45, yX2_init, RX9), (RX9, 21, yX8_init, RX9), (RX9, 28, yX0_init, RX9), (RX9, 35, yX7_init, RX9), (RX1, 40, yX9_fill, RX9), (RX8, 37, yX9_fill, RX9), (RX0, 31, yX9_fill, RX9), (RX8, 51, yX9_copy, RX9), (RX1, 44, yX9_copy, RX9), (RX6, 66, yX9_copy, RX9)]
end
section
theorem tw_eX0_planDrains : Cond.selects RX0 yX0_planDrains yX0_planDrains ∈ dw_TB := dw_mem (i := 0) (by decide +kernel) (by decide +kernel)
theorem tw_eX0_addDrain : Cond.selects RX0 yX0_addDrain yX0_addDrain ∈ dw_TB := dw_mem (i := 1) (by decide +kernel) (by decide +kernel)
theorem tw_eX0_planOrder : Cond.selects RX0 yX0_planOrder yX0_planOrder ∈ dw_TB := dw_mem (i := 2) (by decide +kernel) (by decide +kernel)
theorem tw_eX0_wetPlace : Cond.selects RX0 yX0_wetPlace yX0_wetPlace ∈ dw_TB := dw_mem (i := 3) (by decide +kernel) (by decide +kernel)
theorem tw_eX0_drainPlace : Cond.selects RX0 yX0_drainPlace yX0_drainPlace ∈ dw_TB := dw_mem (i := 4) (by decide +kernel) (by decide +kernel)
theorem tw_eX0_passOn : Cond.selects RX0 yX0_passOn yX0_passOn ∈ dw_TB := dw_mem (i := 5) (by decide +kernel) (by decide +kernel)
theorem tw_eX0_mostInto : Cond.selects RX0 yX0_mostInto yX0_mostInto ∈ dw_TB := dw_mem (i := 6) (by decide +kernel) (by decide +kernel)
theorem tw_eX7_findLeast : Cond.selects RX7 yX7_findLeast yX7_findLeast ∈ dw_TB := dw_mem (i := 7) (by decide +kernel) (by decide +kernel)
theorem tw_eX7_offer : Cond.selects RX7 yX7_offer yX7_offer ∈ dw_TB := dw_mem (i := 8) (by decide +kernel) (by decide +kernel)
theorem tw_eX7_take : Cond.selects RX7 yX7_take yX7_take ∈ dw_TB := dw_mem (i := 9) (by decide +kernel) (by decide +kernel)
theorem tw_eX9_fits : Cond.selects RX9 yX9_fits yX9_fits ∈ dw_TB := dw_mem (i := 10) (by decide +kernel) (by decide +kernel)
theorem tw_eX9_fitsAlone : Cond.selects RX9 yX9_fitsAlone yX9_fitsAlone ∈ dw_TB := dw_mem (i := 11) (by decide +kernel) (by decide +kernel)
theorem tw_eX9_pairWhere : Cond.selects RX9 yX9_pairWhere yX9_pairWhere ∈ dw_TB := dw_mem (i := 12) (by decide +kernel) (by decide +kernel)
theorem tw_eX9_fitsTogether : Cond.selects RX9 yX9_fitsTogether yX9_fitsTogether ∈ dw_TB := dw_mem (i := 13) (by decide +kernel) (by decide +kernel)
theorem tw_eX10_isPlace : Cond.selects RX10 yX10_isPlace yX10_isPlace ∈ dw_TB := dw_mem (i := 14) (by decide +kernel) (by decide +kernel)
theorem tw_eX10_places : Cond.selects RX10 yX10_places yX10_places ∈ dw_TB := dw_mem (i := 15) (by decide +kernel) (by decide +kernel)
theorem tw_eX10_rowOf : Cond.selects RX10 yX10_rowOf yX10_rowOf ∈ dw_TB := dw_mem (i := 16) (by decide +kernel) (by decide +kernel)
theorem tw_eX10_columnOf : Cond.selects RX10 yX10_columnOf yX10_columnOf ∈ dw_TB := dw_mem (i := 17) (by decide +kernel) (by decide +kernel)
theorem tw_eX10_placeAt : Cond.selects RX10 yX10_placeAt yX10_placeAt ∈ dw_TB := dw_mem (i := 18) (by decide +kernel) (by decide +kernel)
theorem tw_eX10_setPipe : Cond.selects RX10 yX10_setPipe yX10_setPipe ∈ dw_TB := dw_mem (i := 19) (by decide +kernel) (by decide +kernel)
theorem tw_eX10_isPipe : Cond.selects RX10 yX10_isPipe yX10_isPipe ∈ dw_TB := dw_mem (i := 20) (by decide +kernel) (by decide +kernel)
theorem tw_eX10_pipeOf : Cond.selects RX10 yX10_pipeOf yX10_pipeOf ∈ dw_TB := dw_mem (i := 21) (by decide +kernel) (by decide +kernel)
theorem tw_eX10_stepPlace : Cond.selects RX10 yX10_stepPlace yX10_stepPlace ∈ dw_TB := dw_mem (i := 22) (by decide +kernel) (by decide +kernel)
theorem tw_eX10_stepOf : Cond.selects RX10 yX10_stepOf yX10_stepOf ∈ dw_TB := dw_mem (i := 23) (by decide +kernel) (by decide +kernel)
theorem tw_eX10_levelAt : Cond.selects RX10 yX10_levelAt yX10_levelAt ∈ dw_TB := dw_mem (i := 24) (by decide +kernel) (by decide +kernel)
theorem tw_eX10_rank : Cond.selects RX10 yX10_rank yX10_rank ∈ dw_TB := dw_mem (i := 25) (by decide +kernel) (by decide +kernel)
theorem tw_eX10_bears : Cond.selects RX10 yX10_bears yX10_bears ∈ dw_TB := dw_mem (i := 26) (by decide +kernel) (by decide +kernel)
theorem tw_eX10_holds : Cond.selects RX10 yX10_holds yX10_holds ∈ dw_TB := dw_mem (i := 27) (by decide +kernel) (by decide +kernel)
theorem tw_eX10_peak : Cond.selects RX10 yX10_peak yX10_peak ∈ dw_TB := dw_mem (i := 28) (by decide +kernel) (by decide +kernel)
theorem tw_eX10_hour : Cond.selects RX10 yX10_hour yX10_hour ∈ dw_TB := dw_mem (i := 29) (by decide +kernel) (by decide +kernel)
theorem tw_eX10_fall : Cond.selects RX10 yX10_fall yX10_fall ∈ dw_TB := dw_mem (i := 30) (by decide +kernel) (by decide +kernel)
theorem tw_eX10_soilOf : Cond.selects RX10 yX10_soilOf yX10_soilOf ∈ dw_TB := dw_mem (i := 31) (by decide +kernel) (by decide +kernel)
theorem tw_eX10_seep : Cond.selects RX10 yX10_seep yX10_seep ∈ dw_TB := dw_mem (i := 32) (by decide +kernel) (by decide +kernel)
theorem tw_eX10_isLateral : Cond.selects RX10 yX10_isLateral yX10_isLateral ∈ dw_TB := dw_mem (i := 33) (by decide +kernel) (by decide +kernel)
theorem tw_eX10_pass : Cond.selects RX10 yX10_pass yX10_pass ∈ dw_TB := dw_mem (i := 34) (by decide +kernel) (by decide +kernel)
theorem tw_eX10_isReached : Cond.selects RX10 yX10_isReached yX10_isReached ∈ dw_TB := dw_mem (i := 35) (by decide +kernel) (by decide +kernel)
theorem tw_eX10_sum : Cond.selects RX10 yX10_sum yX10_sum ∈ dw_TB := dw_mem (i := 36) (by decide +kernel) (by decide +kernel)
theorem tw_eX10_sumOfPipes : Cond.selects RX10 yX10_sumOfPipes yX10_sumOfPipes ∈ dw_TB := dw_mem (i := 37) (by decide +kernel) (by decide +kernel)
theorem tw_eX10_dryMany : Cond.selects RX10 yX10_dryMany yX10_dryMany ∈ dw_TB := dw_mem (i := 38) (by decide +kernel) (by decide +kernel)
theorem tw_eX10_set : Cond.selects RX10 yX10_set yX10_set ∈ dw_TB := dw_mem (i := 39) (by decide +kernel) (by decide +kernel)
theorem tw_eX10_findTree : Cond.selects RX10 yX10_findTree yX10_findTree ∈ dw_TB := dw_mem (i := 40) (by decide +kernel) (by decide +kernel)
theorem tw_eX10_takePair : Cond.selects RX10 yX10_takePair yX10_takePair ∈ dw_TB := dw_mem (i := 41) (by decide +kernel) (by decide +kernel)
theorem tw_eX10_cost : Cond.selects RX10 yX10_cost yX10_cost ∈ dw_TB := dw_mem (i := 42) (by decide +kernel) (by decide +kernel)
theorem tw_eX10_fits : Cond.selects RX10 yX10_fits yX10_fits ∈ dw_TB := dw_mem (i := 43) (by decide +kernel) (by decide +kernel)
theorem tw_iL : Cond.initialized RL ∈ dw_TB := dw_mem (i := 44) (by decide +kernel) (by decide +kernel)
theorem tw_iX9 : Cond.initialized RX9 ∈ dw_TB := dw_mem (i := 45) (by decide +kernel) (by decide +kernel)
theorem tw_iX6 : Cond.initialized RX6 ∈ dw_TB := dw_mem (i := 46) (by decide +kernel) (by decide +kernel)
theorem tw_iX1 : Cond.initialized RX1 ∈ dw_TB := dw_mem (i := 47) (by decide +kernel) (by decide +kernel)
theorem tw_iX3 : Cond.initialized RX3 ∈ dw_TB := dw_mem (i := 48) (by decide +kernel) (by decide +kernel)
theorem tw_iX4 : Cond.initialized RX4 ∈ dw_TB := dw_mem (i := 49) (by decide +kernel) (by decide +kernel)
theorem tw_iX5 : Cond.initialized RX5 ∈ dw_TB := dw_mem (i := 50) (by decide +kernel) (by decide +kernel)
theorem tw_iX8 : Cond.initialized RX8 ∈ dw_TB := dw_mem (i := 51) (by decide +kernel) (by decide +kernel)
theorem tw_iX2 : Cond.initialized RX2 ∈ dw_TB := dw_mem (i := 52) (by decide +kernel) (by decide +kernel)
theorem tw_iX0 : Cond.initialized RX0 ∈ dw_TB := dw_mem (i := 53) (by decide +kernel) (by decide +kernel)
theorem tw_iX7 : Cond.initialized RX7 ∈ dw_TB := dw_mem (i := 54) (by decide +kernel) (by decide +kernel)
theorem tw_iX10 : Cond.initialized RX10 ∈ dw_TB := dw_mem (i := 55) (by decide +kernel) (by decide +kernel)
theorem tw_iJ9 : Cond.initialized RJ9 ∈ dw_TB := dw_mem (i := 56) (by decide +kernel) (by decide +kernel)
theorem tw_iJ13 : Cond.initialized RJ13 ∈ dw_TB := dw_mem (i := 57) (by decide +kernel) (by decide +kernel)
theorem tw_cL_7 : Cond.classLink RL 7 RX9 ∈ dw_TB := dw_mem (i := 58) (by decide +kernel) (by decide +kernel)
theorem tw_nX9 : Cond.instantiable RX9 6 ∈ dw_TB := dw_mem (i := 59) (by decide +kernel) (by decide +kernel)
theorem tw_lL_9 : Cond.methodLink RL 9 yX9_init ∈ dw_TB := dw_mem (i := 60) (by decide +kernel) (by decide +kernel)
theorem tw_vX9_init : Cond.instanceMethod yX9_init ∈ dw_TB := dw_mem (i := 61) (by decide +kernel) (by decide +kernel)
theorem tw_kX9_init : Cond.code yX9_init cX9_init 1 none ∈ dw_TB := dw_mem (i := 62) (by decide +kernel) (by decide +kernel)
theorem tw_lX9_3 : Cond.methodLink RX9 3 objectInit ∈ dw_TB := dw_mem (i := 63) (by decide +kernel) (by decide +kernel)
theorem tw_vO_init : Cond.instanceMethod objectInit ∈ dw_TB := dw_mem (i := 64) (by decide +kernel) (by decide +kernel)
theorem tw_kO_init : Cond.code objectInit ⟨#[0xb1]⟩ 1 none ∈ dw_TB := dw_mem (i := 65) (by decide +kernel) (by decide +kernel)
theorem tw_cX9_9 : Cond.classLink RX9 9 RX6 ∈ dw_TB := dw_mem (i := 66) (by decide +kernel) (by decide +kernel)
theorem tw_nX6 : Cond.instantiable RX6 7 ∈ dw_TB := dw_mem (i := 67) (by decide +kernel) (by decide +kernel)
theorem tw_vX6_init : Cond.instanceMethod yX6_init ∈ dw_TB := dw_mem (i := 69) (by decide +kernel) (by decide +kernel)
theorem tw_kX6_init : Cond.code yX6_init cX6_init 1 none ∈ dw_TB := dw_mem (i := 70) (by decide +kernel) (by decide +kernel)
theorem tw_lX6_3 : Cond.methodLink RX6 3 objectInit ∈ dw_TB := dw_mem (i := 71) (by decide +kernel) (by decide +kernel)
theorem tw_cX6_9 : Cond.classLink RX6 9 RX1 ∈ dw_TB := dw_mem (i := 72) (by decide +kernel) (by decide +kernel)
theorem tw_nX1 : Cond.instantiable RX1 9 ∈ dw_TB := dw_mem (i := 73) (by decide +kernel) (by decide +kernel)
theorem tw_lX6_11 : Cond.methodLink RX6 11 yX1_init ∈ dw_TB := dw_mem (i := 74) (by decide +kernel) (by decide +kernel)
theorem tw_vX1_init : Cond.instanceMethod yX1_init ∈ dw_TB := dw_mem (i := 75) (by decide +kernel) (by decide +kernel)
theorem tw_kX1_init : Cond.code yX1_init cX1_init 1 none ∈ dw_TB := dw_mem (i := 76) (by decide +kernel) (by decide +kernel)
theorem tw_lX1_3 : Cond.methodLink RX1 3 objectInit ∈ dw_TB := dw_mem (i := 77) (by decide +kernel) (by decide +kernel)
theorem tw_fX1_33 : Cond.fieldLink RX1 33 "DrainOffice$Ground" "columns" "I" ∈ dw_TB := dw_mem (i := 78) (by decide +kernel) (by decide +kernel)
theorem tw_fX9_138 : Cond.fieldLink RX9 138 "DrainOffice$Ground" "columns" "I" ∈ dw_TB := dw_mem (i := 79) (by decide +kernel) (by decide +kernel)
theorem tw_fX1_37 : Cond.fieldLink RX1 37 "DrainOffice$Ground" "places" "I" ∈ dw_TB := dw_mem (i := 80) (by decide +kernel) (by decide +kernel)
theorem tw_fX9_99 : Cond.fieldLink RX9 99 "DrainOffice$Ground" "places" "I" ∈ dw_TB := dw_mem (i := 81) (by decide +kernel) (by decide +kernel)
theorem tw_fX7_44 : Cond.fieldLink RX7 44 "DrainOffice$Ground" "places" "I" ∈ dw_TB := dw_mem (i := 82) (by decide +kernel) (by decide +kernel)
theorem tw_fX6_94 : Cond.fieldLink RX6 94 "DrainOffice$Ground" "places" "I" ∈ dw_TB := dw_mem (i := 83) (by decide +kernel) (by decide +kernel)
theorem tw_fX0_77 : Cond.fieldLink RX0 77 "DrainOffice$Ground" "places" "I" ∈ dw_TB := dw_mem (i := 84) (by decide +kernel) (by decide +kernel)
theorem tw_fX1_9 : Cond.fieldLink RX1 9 "DrainOffice$Ground" "heights" "[I" ∈ dw_TB := dw_mem (i := 85) (by decide +kernel) (by decide +kernel)
theorem tw_fX9_106 : Cond.fieldLink RX9 106 "DrainOffice$Ground" "heights" "[I" ∈ dw_TB := dw_mem (i := 86) (by decide +kernel) (by decide +kernel)
theorem tw_fX1_15 : Cond.fieldLink RX1 15 "DrainOffice$Ground" "soilOf" "[I" ∈ dw_TB := dw_mem (i := 87) (by decide +kernel) (by decide +kernel)
theorem tw_fX9_109 : Cond.fieldLink RX9 109 "DrainOffice$Ground" "soilOf" "[I" ∈ dw_TB := dw_mem (i := 88) (by decide +kernel) (by decide +kernel)
theorem tw_fX0_104 : Cond.fieldLink RX0 104 "DrainOffice$Ground" "soilOf" "[I" ∈ dw_TB := dw_mem (i := 89) (by decide +kernel) (by decide +kernel)
theorem tw_fX1_18 : Cond.fieldLink RX1 18 "DrainOffice$Ground" "takes" "[I" ∈ dw_TB := dw_mem (i := 90) (by decide +kernel) (by decide +kernel)
theorem tw_fX9_112 : Cond.fieldLink RX9 112 "DrainOffice$Ground" "takes" "[I" ∈ dw_TB := dw_mem (i := 91) (by decide +kernel) (by decide +kernel)
theorem tw_fX0_128 : Cond.fieldLink RX0 128 "DrainOffice$Ground" "takes" "[I" ∈ dw_TB := dw_mem (i := 92) (by decide +kernel) (by decide +kernel)
theorem tw_fX1_21 : Cond.fieldLink RX1 21 "DrainOffice$Ground" "gives" "[I" ∈ dw_TB := dw_mem (i := 93) (by decide +kernel) (by decide +kernel)
theorem tw_fX9_115 : Cond.fieldLink RX9 115 "DrainOffice$Ground" "gives" "[I" ∈ dw_TB := dw_mem (i := 94) (by decide +kernel) (by decide +kernel)
theorem tw_fX0_134 : Cond.fieldLink RX0 134 "DrainOffice$Ground" "gives" "[I" ∈ dw_TB := dw_mem (i := 95) (by decide +kernel) (by decide +kernel)
theorem tw_fX1_24 : Cond.fieldLink RX1 24 "DrainOffice$Ground" "keeps" "[I" ∈ dw_TB := dw_mem (i := 96) (by decide +kernel) (by decide +kernel)
theorem tw_fX9_118 : Cond.fieldLink RX9 118 "DrainOffice$Ground" "keeps" "[I" ∈ dw_TB := dw_mem (i := 97) (by decide +kernel) (by decide +kernel)
theorem tw_fX0_116 : Cond.fieldLink RX0 116 "DrainOffice$Ground" "keeps" "[I" ∈ dw_TB := dw_mem (i := 98) (by decide +kernel) (by decide +kernel)
theorem tw_fX1_27 : Cond.fieldLink RX1 27 "DrainOffice$Ground" "reaches" "[I" ∈ dw_TB := dw_mem (i := 99) (by decide +kernel) (by decide +kernel)
theorem tw_fX9_121 : Cond.fieldLink RX9 121 "DrainOffice$Ground" "reaches" "[I" ∈ dw_TB := dw_mem (i := 100) (by decide +kernel) (by decide +kernel)
theorem tw_fX1_30 : Cond.fieldLink RX1 30 "DrainOffice$Ground" "ditchLevels" "[I" ∈ dw_TB := dw_mem (i := 101) (by decide +kernel) (by decide +kernel)
theorem tw_fX9_124 : Cond.fieldLink RX9 124 "DrainOffice$Ground" "ditchLevels" "[I" ∈ dw_TB := dw_mem (i := 102) (by decide +kernel) (by decide +kernel)
theorem tw_fX0_178 : Cond.fieldLink RX0 178 "DrainOffice$Ground" "ditchLevels" "[I" ∈ dw_TB := dw_mem (i := 103) (by decide +kernel) (by decide +kernel)
theorem tw_cX6_18 : Cond.classLink RX6 18 RX3 ∈ dw_TB := dw_mem (i := 124) (by decide +kernel) (by decide +kernel)
theorem tw_nX3 : Cond.instantiable RX3 5 ∈ dw_TB := dw_mem (i := 125) (by decide +kernel) (by decide +kernel)
theorem tw_vX3_init : Cond.instanceMethod yX3_init ∈ dw_TB := dw_mem (i := 127) (by decide +kernel) (by decide +kernel)
theorem tw_kX3_init : Cond.code yX3_init cX3_init 1 none ∈ dw_TB := dw_mem (i := 128) (by decide +kernel) (by decide +kernel)
theorem tw_lX3_1 : Cond.methodLink RX3 1 objectInit ∈ dw_TB := dw_mem (i := 129) (by decide +kernel) (by decide +kernel)
theorem tw_fX3_7 : Cond.fieldLink RX3 7 "DrainOffice$Line" "first" "I" ∈ dw_TB := dw_mem (i := 130) (by decide +kernel) (by decide +kernel)
theorem tw_fX3_13 : Cond.fieldLink RX3 13 "DrainOffice$Line" "stride" "I" ∈ dw_TB := dw_mem (i := 131) (by decide +kernel) (by decide +kernel)
theorem tw_fX3_16 : Cond.fieldLink RX3 16 "DrainOffice$Line" "steps" "I" ∈ dw_TB := dw_mem (i := 132) (by decide +kernel) (by decide +kernel)
theorem tw_fX5_35 : Cond.fieldLink RX5 35 "DrainOffice$Line" "steps" "I" ∈ dw_TB := dw_mem (i := 133) (by decide +kernel) (by decide +kernel)
theorem tw_fX0_59 : Cond.fieldLink RX0 59 "DrainOffice$Line" "steps" "I" ∈ dw_TB := dw_mem (i := 134) (by decide +kernel) (by decide +kernel)
theorem tw_fX9_145 : Cond.fieldLink RX9 145 "DrainOffice$Line" "steps" "I" ∈ dw_TB := dw_mem (i := 135) (by decide +kernel) (by decide +kernel)
theorem tw_fX1_72 : Cond.fieldLink RX1 72 "DrainOffice$Line" "steps" "I" ∈ dw_TB := dw_mem (i := 136) (by decide +kernel) (by decide +kernel)
theorem tw_fX3_19 : Cond.fieldLink RX3 19 "DrainOffice$Line" "level" "I" ∈ dw_TB := dw_mem (i := 137) (by decide +kernel) (by decide +kernel)
theorem tw_fX3_22 : Cond.fieldLink RX3 22 "DrainOffice$Line" "fall" "I" ∈ dw_TB := dw_mem (i := 138) (by decide +kernel) (by decide +kernel)
theorem tw_fX5_29 : Cond.fieldLink RX5 29 "DrainOffice$Line" "fall" "I" ∈ dw_TB := dw_mem (i := 139) (by decide +kernel) (by decide +kernel)
theorem tw_cX6_25 : Cond.classLink RX6 25 RX4 ∈ dw_TB := dw_mem (i := 151) (by decide +kernel) (by decide +kernel)
theorem tw_nX4 : Cond.instantiable RX4 2 ∈ dw_TB := dw_mem (i := 152) (by decide +kernel) (by decide +kernel)
theorem tw_lX6_27 : Cond.methodLink RX6 27 yX4_init ∈ dw_TB := dw_mem (i := 153) (by decide +kernel) (by decide +kernel)
theorem tw_vX4_init : Cond.instanceMethod yX4_init ∈ dw_TB := dw_mem (i := 154) (by decide +kernel) (by decide +kernel)
theorem tw_kX4_init : Cond.code yX4_init cX4_init 2 none ∈ dw_TB := dw_mem (i := 155) (by decide +kernel) (by decide +kernel)
theorem tw_lX4_3 : Cond.methodLink RX4 3 objectInit ∈ dw_TB := dw_mem (i := 156) (by decide +kernel) (by decide +kernel)
theorem tw_cX4_9 : Cond.classLink RX4 9 RX5 ∈ dw_TB := dw_mem (i := 157) (by decide +kernel) (by decide +kernel)
theorem tw_nX5 : Cond.instantiable RX5 6 ∈ dw_TB := dw_mem (i := 159) (by decide +kernel) (by decide +kernel)
theorem tw_vX5_init : Cond.instanceMethod yX5_init ∈ dw_TB := dw_mem (i := 161) (by decide +kernel) (by decide +kernel)
theorem tw_kX5_init : Cond.code yX5_init cX5_init 1 none ∈ dw_TB := dw_mem (i := 162) (by decide +kernel) (by decide +kernel)
theorem tw_lX5_3 : Cond.methodLink RX5 3 objectInit ∈ dw_TB := dw_mem (i := 163) (by decide +kernel) (by decide +kernel)
theorem tw_cX5_9 : Cond.classLink RX5 9 RX3 ∈ dw_TB := dw_mem (i := 164) (by decide +kernel) (by decide +kernel)
theorem tw_fX5_12 : Cond.fieldLink RX5 12 "DrainOffice$Pipe" "line" "LDrainOffice$Line;" ∈ dw_TB := dw_mem (i := 166) (by decide +kernel) (by decide +kernel)
theorem tw_fX0_51 : Cond.fieldLink RX0 51 "DrainOffice$Pipe" "line" "LDrainOffice$Line;" ∈ dw_TB := dw_mem (i := 167) (by decide +kernel) (by decide +kernel)
theorem tw_fX6_87 : Cond.fieldLink RX6 87 "DrainOffice$Pipe" "line" "LDrainOffice$Line;" ∈ dw_TB := dw_mem (i := 168) (by decide +kernel) (by decide +kernel)
theorem tw_fX9_168 : Cond.fieldLink RX9 168 "DrainOffice$Pipe" "line" "LDrainOffice$Line;" ∈ dw_TB := dw_mem (i := 169) (by decide +kernel) (by decide +kernel)
theorem tw_fX5_22 : Cond.fieldLink RX5 22 "DrainOffice$Pipe" "kind" "I" ∈ dw_TB := dw_mem (i := 170) (by decide +kernel) (by decide +kernel)
theorem tw_fX0_137 : Cond.fieldLink RX0 137 "DrainOffice$Pipe" "kind" "I" ∈ dw_TB := dw_mem (i := 171) (by decide +kernel) (by decide +kernel)
theorem tw_fX9_178 : Cond.fieldLink RX9 178 "DrainOffice$Pipe" "kind" "I" ∈ dw_TB := dw_mem (i := 172) (by decide +kernel) (by decide +kernel)
theorem tw_fX5_26 : Cond.fieldLink RX5 26 "DrainOffice$Pipe" "width" "I" ∈ dw_TB := dw_mem (i := 173) (by decide +kernel) (by decide +kernel)
theorem tw_fX9_204 : Cond.fieldLink RX9 204 "DrainOffice$Pipe" "width" "I" ∈ dw_TB := dw_mem (i := 174) (by decide +kernel) (by decide +kernel)
theorem tw_fX5_32 : Cond.fieldLink RX5 32 "DrainOffice$Pipe" "bears" "I" ∈ dw_TB := dw_mem (i := 175) (by decide +kernel) (by decide +kernel)
theorem tw_fX4_33 : Cond.fieldLink RX4 33 "DrainOffice$Pipe" "bears" "I" ∈ dw_TB := dw_mem (i := 176) (by decide +kernel) (by decide +kernel)
theorem tw_fX0_160 : Cond.fieldLink RX0 160 "DrainOffice$Pipe" "bears" "I" ∈ dw_TB := dw_mem (i := 177) (by decide +kernel) (by decide +kernel)
theorem tw_fX9_207 : Cond.fieldLink RX9 207 "DrainOffice$Pipe" "bears" "I" ∈ dw_TB := dw_mem (i := 178) (by decide +kernel) (by decide +kernel)
theorem tw_fX5_38 : Cond.fieldLink RX5 38 "DrainOffice$Pipe" "holds" "I" ∈ dw_TB := dw_mem (i := 179) (by decide +kernel) (by decide +kernel)
theorem tw_fX0_150 : Cond.fieldLink RX0 150 "DrainOffice$Pipe" "holds" "I" ∈ dw_TB := dw_mem (i := 180) (by decide +kernel) (by decide +kernel)
theorem tw_fX9_210 : Cond.fieldLink RX9 210 "DrainOffice$Pipe" "holds" "I" ∈ dw_TB := dw_mem (i := 181) (by decide +kernel) (by decide +kernel)
theorem tw_fX5_41 : Cond.fieldLink RX5 41 "DrainOffice$Pipe" "into" "I" ∈ dw_TB := dw_mem (i := 182) (by decide +kernel) (by decide +kernel)
theorem tw_fX4_30 : Cond.fieldLink RX4 30 "DrainOffice$Pipe" "into" "I" ∈ dw_TB := dw_mem (i := 183) (by decide +kernel) (by decide +kernel)
theorem tw_fX0_169 : Cond.fieldLink RX0 169 "DrainOffice$Pipe" "into" "I" ∈ dw_TB := dw_mem (i := 184) (by decide +kernel) (by decide +kernel)
theorem tw_fX9_191 : Cond.fieldLink RX9 191 "DrainOffice$Pipe" "into" "I" ∈ dw_TB := dw_mem (i := 185) (by decide +kernel) (by decide +kernel)
theorem tw_fX4_11 : Cond.fieldLink RX4 11 "DrainOffice$Net" "pipes" "[LDrainOffice$Pipe;" ∈ dw_TB := dw_mem (i := 199) (by decide +kernel) (by decide +kernel)
theorem tw_fX6_77 : Cond.fieldLink RX6 77 "DrainOffice$Net" "pipes" "[LDrainOffice$Pipe;" ∈ dw_TB := dw_mem (i := 200) (by decide +kernel) (by decide +kernel)
theorem tw_fX0_41 : Cond.fieldLink RX0 41 "DrainOffice$Net" "pipes" "[LDrainOffice$Pipe;" ∈ dw_TB := dw_mem (i := 201) (by decide +kernel) (by decide +kernel)
theorem tw_fX9_152 : Cond.fieldLink RX9 152 "DrainOffice$Net" "pipes" "[LDrainOffice$Pipe;" ∈ dw_TB := dw_mem (i := 202) (by decide +kernel) (by decide +kernel)
theorem tw_fX4_18 : Cond.fieldLink RX4 18 "DrainOffice$Net" "count" "I" ∈ dw_TB := dw_mem (i := 203) (by decide +kernel) (by decide +kernel)
theorem tw_fX9_71 : Cond.fieldLink RX9 71 "DrainOffice$Net" "count" "I" ∈ dw_TB := dw_mem (i := 204) (by decide +kernel) (by decide +kernel)
theorem tw_fX6_73 : Cond.fieldLink RX6 73 "DrainOffice$Net" "count" "I" ∈ dw_TB := dw_mem (i := 205) (by decide +kernel) (by decide +kernel)
theorem tw_fX0_35 : Cond.fieldLink RX0 35 "DrainOffice$Net" "count" "I" ∈ dw_TB := dw_mem (i := 206) (by decide +kernel) (by decide +kernel)
theorem tw_cX6_32 : Cond.classLink RX6 32 RX8 ∈ dw_TB := dw_mem (i := 212) (by decide +kernel) (by decide +kernel)
theorem tw_nX8 : Cond.instantiable RX8 9 ∈ dw_TB := dw_mem (i := 213) (by decide +kernel) (by decide +kernel)
theorem tw_vX8_init : Cond.instanceMethod yX8_init ∈ dw_TB := dw_mem (i := 215) (by decide +kernel) (by decide +kernel)
theorem tw_kX8_init : Cond.code yX8_init cX8_init 1 none ∈ dw_TB := dw_mem (i := 216) (by decide +kernel) (by decide +kernel)
theorem tw_lX8_3 : Cond.methodLink RX8 3 objectInit ∈ dw_TB := dw_mem (i := 217) (by decide +kernel) (by decide +kernel)
theorem tw_cX8_30 : Cond.classLink RX8 30 RX2 ∈ dw_TB := dw_mem (i := 218) (by decide +kernel) (by decide +kernel)
theorem tw_nX2 : Cond.instantiable RX2 1 ∈ dw_TB := dw_mem (i := 219) (by decide +kernel) (by decide +kernel)
theorem tw_vX2_init : Cond.instanceMethod yX2_init ∈ dw_TB := dw_mem (i := 221) (by decide +kernel) (by decide +kernel)
theorem tw_kX2_init : Cond.code yX2_init cX2_init 1 none ∈ dw_TB := dw_mem (i := 222) (by decide +kernel) (by decide +kernel)
theorem tw_lX2_1 : Cond.methodLink RX2 1 objectInit ∈ dw_TB := dw_mem (i := 223) (by decide +kernel) (by decide +kernel)
theorem tw_fX2_7 : Cond.fieldLink RX2 7 "DrainOffice$Group" "bits" "J" ∈ dw_TB := dw_mem (i := 224) (by decide +kernel) (by decide +kernel)
theorem tw_fX8_9 : Cond.fieldLink RX8 9 "DrainOffice$Water" "stands" "[I" ∈ dw_TB := dw_mem (i := 228) (by decide +kernel) (by decide +kernel)
theorem tw_fX0_113 : Cond.fieldLink RX0 113 "DrainOffice$Water" "stands" "[I" ∈ dw_TB := dw_mem (i := 229) (by decide +kernel) (by decide +kernel)
theorem tw_fX9_244 : Cond.fieldLink RX9 244 "DrainOffice$Water" "stands" "[I" ∈ dw_TB := dw_mem (i := 230) (by decide +kernel) (by decide +kernel)
theorem tw_fX8_15 : Cond.fieldLink RX8 15 "DrainOffice$Water" "wet" "[I" ∈ dw_TB := dw_mem (i := 231) (by decide +kernel) (by decide +kernel)
theorem tw_fX0_119 : Cond.fieldLink RX0 119 "DrainOffice$Water" "wet" "[I" ∈ dw_TB := dw_mem (i := 232) (by decide +kernel) (by decide +kernel)
theorem tw_fX9_247 : Cond.fieldLink RX9 247 "DrainOffice$Water" "wet" "[I" ∈ dw_TB := dw_mem (i := 233) (by decide +kernel) (by decide +kernel)
theorem tw_fX8_18 : Cond.fieldLink RX8 18 "DrainOffice$Water" "inside" "[I" ∈ dw_TB := dw_mem (i := 234) (by decide +kernel) (by decide +kernel)
theorem tw_fX0_153 : Cond.fieldLink RX0 153 "DrainOffice$Water" "inside" "[I" ∈ dw_TB := dw_mem (i := 235) (by decide +kernel) (by decide +kernel)
theorem tw_fX9_216 : Cond.fieldLink RX9 216 "DrainOffice$Water" "inside" "[I" ∈ dw_TB := dw_mem (i := 236) (by decide +kernel) (by decide +kernel)
theorem tw_fX8_21 : Cond.fieldLink RX8 21 "DrainOffice$Water" "life" "[I" ∈ dw_TB := dw_mem (i := 237) (by decide +kernel) (by decide +kernel)
theorem tw_fX0_96 : Cond.fieldLink RX0 96 "DrainOffice$Water" "life" "[I" ∈ dw_TB := dw_mem (i := 238) (by decide +kernel) (by decide +kernel)
theorem tw_fX9_162 : Cond.fieldLink RX9 162 "DrainOffice$Water" "life" "[I" ∈ dw_TB := dw_mem (i := 239) (by decide +kernel) (by decide +kernel)
theorem tw_fX8_24 : Cond.fieldLink RX8 24 "DrainOffice$Water" "passed" "[I" ∈ dw_TB := dw_mem (i := 240) (by decide +kernel) (by decide +kernel)
theorem tw_fX0_163 : Cond.fieldLink RX0 163 "DrainOffice$Water" "passed" "[I" ∈ dw_TB := dw_mem (i := 241) (by decide +kernel) (by decide +kernel)
theorem tw_fX9_222 : Cond.fieldLink RX9 222 "DrainOffice$Water" "passed" "[I" ∈ dw_TB := dw_mem (i := 242) (by decide +kernel) (by decide +kernel)
theorem tw_fX8_27 : Cond.fieldLink RX8 27 "DrainOffice$Water" "gone" "[I" ∈ dw_TB := dw_mem (i := 243) (by decide +kernel) (by decide +kernel)
theorem tw_fX0_172 : Cond.fieldLink RX0 172 "DrainOffice$Water" "gone" "[I" ∈ dw_TB := dw_mem (i := 244) (by decide +kernel) (by decide +kernel)
theorem tw_fX9_229 : Cond.fieldLink RX9 229 "DrainOffice$Water" "gone" "[I" ∈ dw_TB := dw_mem (i := 245) (by decide +kernel) (by decide +kernel)
theorem tw_fX8_33 : Cond.fieldLink RX8 33 "DrainOffice$Water" "blocked" "LDrainOffice$Group;" ∈ dw_TB := dw_mem (i := 246) (by decide +kernel) (by decide +kernel)
theorem tw_fX0_140 : Cond.fieldLink RX0 140 "DrainOffice$Water" "blocked" "LDrainOffice$Group;" ∈ dw_TB := dw_mem (i := 247) (by decide +kernel) (by decide +kernel)
theorem tw_fX9_197 : Cond.fieldLink RX9 197 "DrainOffice$Water" "blocked" "LDrainOffice$Group;" ∈ dw_TB := dw_mem (i := 248) (by decide +kernel) (by decide +kernel)
theorem tw_fX8_44 : Cond.fieldLink RX8 44 "DrainOffice$Water" "fell" "I" ∈ dw_TB := dw_mem (i := 249) (by decide +kernel) (by decide +kernel)
theorem tw_fX0_107 : Cond.fieldLink RX0 107 "DrainOffice$Water" "fell" "I" ∈ dw_TB := dw_mem (i := 250) (by decide +kernel) (by decide +kernel)
theorem tw_fX9_253 : Cond.fieldLink RX9 253 "DrainOffice$Water" "fell" "I" ∈ dw_TB := dw_mem (i := 251) (by decide +kernel) (by decide +kernel)
theorem tw_fX8_48 : Cond.fieldLink RX8 48 "DrainOffice$Water" "hours" "I" ∈ dw_TB := dw_mem (i := 252) (by decide +kernel) (by decide +kernel)
theorem tw_fX0_101 : Cond.fieldLink RX0 101 "DrainOffice$Water" "hours" "I" ∈ dw_TB := dw_mem (i := 253) (by decide +kernel) (by decide +kernel)
theorem tw_fX9_256 : Cond.fieldLink RX9 256 "DrainOffice$Water" "hours" "I" ∈ dw_TB := dw_mem (i := 254) (by decide +kernel) (by decide +kernel)
theorem tw_cX6_43 : Cond.classLink RX6 43 RX2 ∈ dw_TB := dw_mem (i := 274) (by decide +kernel) (by decide +kernel)
theorem tw_fX6_12 : Cond.fieldLink RX6 12 "DrainOffice$Sheet" "ground" "LDrainOffice$Ground;" ∈ dw_TB := dw_mem (i := 276) (by decide +kernel) (by decide +kernel)
theorem tw_fX9_48 : Cond.fieldLink RX9 48 "DrainOffice$Sheet" "ground" "LDrainOffice$Ground;" ∈ dw_TB := dw_mem (i := 277) (by decide +kernel) (by decide +kernel)
theorem tw_fX0_71 : Cond.fieldLink RX0 71 "DrainOffice$Sheet" "ground" "LDrainOffice$Ground;" ∈ dw_TB := dw_mem (i := 278) (by decide +kernel) (by decide +kernel)
theorem tw_fX6_21 : Cond.fieldLink RX6 21 "DrainOffice$Sheet" "hand" "LDrainOffice$Line;" ∈ dw_TB := dw_mem (i := 279) (by decide +kernel) (by decide +kernel)
theorem tw_fX9_58 : Cond.fieldLink RX9 58 "DrainOffice$Sheet" "hand" "LDrainOffice$Line;" ∈ dw_TB := dw_mem (i := 280) (by decide +kernel) (by decide +kernel)
theorem tw_fX6_28 : Cond.fieldLink RX6 28 "DrainOffice$Sheet" "net" "LDrainOffice$Net;" ∈ dw_TB := dw_mem (i := 281) (by decide +kernel) (by decide +kernel)
theorem tw_fX9_67 : Cond.fieldLink RX9 67 "DrainOffice$Sheet" "net" "LDrainOffice$Net;" ∈ dw_TB := dw_mem (i := 282) (by decide +kernel) (by decide +kernel)
theorem tw_fX0_89 : Cond.fieldLink RX0 89 "DrainOffice$Sheet" "net" "LDrainOffice$Net;" ∈ dw_TB := dw_mem (i := 283) (by decide +kernel) (by decide +kernel)
theorem tw_fX6_35 : Cond.fieldLink RX6 35 "DrainOffice$Sheet" "water" "LDrainOffice$Water;" ∈ dw_TB := dw_mem (i := 284) (by decide +kernel) (by decide +kernel)
theorem tw_fX9_77 : Cond.fieldLink RX9 77 "DrainOffice$Sheet" "water" "LDrainOffice$Water;" ∈ dw_TB := dw_mem (i := 285) (by decide +kernel) (by decide +kernel)
theorem tw_fX6_39 : Cond.fieldLink RX6 39 "DrainOffice$Sheet" "rain" "[I" ∈ dw_TB := dw_mem (i := 286) (by decide +kernel) (by decide +kernel)
theorem tw_fX9_81 : Cond.fieldLink RX9 81 "DrainOffice$Sheet" "rain" "[I" ∈ dw_TB := dw_mem (i := 287) (by decide +kernel) (by decide +kernel)
theorem tw_fX0_110 : Cond.fieldLink RX0 110 "DrainOffice$Sheet" "rain" "[I" ∈ dw_TB := dw_mem (i := 288) (by decide +kernel) (by decide +kernel)
theorem tw_fX6_46 : Cond.fieldLink RX6 46 "DrainOffice$Sheet" "marked" "LDrainOffice$Group;" ∈ dw_TB := dw_mem (i := 289) (by decide +kernel) (by decide +kernel)
theorem tw_fX9_89 : Cond.fieldLink RX9 89 "DrainOffice$Sheet" "marked" "LDrainOffice$Group;" ∈ dw_TB := dw_mem (i := 290) (by decide +kernel) (by decide +kernel)
theorem tw_fX6_50 : Cond.fieldLink RX6 50 "DrainOffice$Sheet" "sight" "LDrainOffice$Group;" ∈ dw_TB := dw_mem (i := 291) (by decide +kernel) (by decide +kernel)
theorem tw_fX9_96 : Cond.fieldLink RX9 96 "DrainOffice$Sheet" "sight" "LDrainOffice$Group;" ∈ dw_TB := dw_mem (i := 292) (by decide +kernel) (by decide +kernel)
theorem tw_cX9_19 : Cond.classLink RX9 19 RX8 ∈ dw_TB := dw_mem (i := 308) (by decide +kernel) (by decide +kernel)
theorem tw_cX9_26 : Cond.classLink RX9 26 RX0 ∈ dw_TB := dw_mem (i := 310) (by decide +kernel) (by decide +kernel)
theorem tw_nX0 : Cond.instantiable RX0 4 ∈ dw_TB := dw_mem (i := 311) (by decide +kernel) (by decide +kernel)
theorem tw_vX0_init : Cond.instanceMethod yX0_init ∈ dw_TB := dw_mem (i := 313) (by decide +kernel) (by decide +kernel)
theorem tw_kX0_init : Cond.code yX0_init cX0_init 1 none ∈ dw_TB := dw_mem (i := 314) (by decide +kernel) (by decide +kernel)
theorem tw_lX0_3 : Cond.methodLink RX0 3 objectInit ∈ dw_TB := dw_mem (i := 315) (by decide +kernel) (by decide +kernel)
theorem tw_fX0_9 : Cond.fieldLink RX0 9 "DrainOffice$Flow" "order" "[I" ∈ dw_TB := dw_mem (i := 316) (by decide +kernel) (by decide +kernel)
theorem tw_fX0_15 : Cond.fieldLink RX0 15 "DrainOffice$Flow" "ranks" "[I" ∈ dw_TB := dw_mem (i := 317) (by decide +kernel) (by decide +kernel)
theorem tw_fX0_18 : Cond.fieldLink RX0 18 "DrainOffice$Flow" "drainCount" "[I" ∈ dw_TB := dw_mem (i := 318) (by decide +kernel) (by decide +kernel)
theorem tw_fX0_21 : Cond.fieldLink RX0 21 "DrainOffice$Flow" "drains" "[I" ∈ dw_TB := dw_mem (i := 319) (by decide +kernel) (by decide +kernel)
theorem tw_cX9_33 : Cond.classLink RX9 33 RX7 ∈ dw_TB := dw_mem (i := 329) (by decide +kernel) (by decide +kernel)
theorem tw_nX7 : Cond.instantiable RX7 7 ∈ dw_TB := dw_mem (i := 330) (by decide +kernel) (by decide +kernel)
theorem tw_vX7_init : Cond.instanceMethod yX7_init ∈ dw_TB := dw_mem (i := 332) (by decide +kernel) (by decide +kernel)
theorem tw_kX7_init : Cond.code yX7_init cX7_init 1 none ∈ dw_TB := dw_mem (i := 333) (by decide +kernel) (by decide +kernel)
theorem tw_lX7_3 : Cond.methodLink RX7 3 objectInit ∈ dw_TB := dw_mem (i := 334) (by decide +kernel) (by decide +kernel)
theorem tw_fX7_9 : Cond.fieldLink RX7 9 "DrainOffice$Trenches" "piece" "[I" ∈ dw_TB := dw_mem (i := 335) (by decide +kernel) (by decide +kernel)
theorem tw_fX7_15 : Cond.fieldLink RX7 15 "DrainOffice$Trenches" "taken" "[I" ∈ dw_TB := dw_mem (i := 336) (by decide +kernel) (by decide +kernel)
theorem tw_fX9_274 : Cond.fieldLink RX9 274 "DrainOffice$Trenches" "taken" "[I" ∈ dw_TB := dw_mem (i := 337) (by decide +kernel) (by decide +kernel)
theorem tw_fX7_18 : Cond.fieldLink RX7 18 "DrainOffice$Trenches" "count" "I" ∈ dw_TB := dw_mem (i := 338) (by decide +kernel) (by decide +kernel)
theorem tw_fX9_273 : Cond.fieldLink RX9 273 "DrainOffice$Trenches" "count" "I" ∈ dw_TB := dw_mem (i := 339) (by decide +kernel) (by decide +kernel)
theorem tw_fX7_22 : Cond.fieldLink RX7 22 "DrainOffice$Trenches" "cost" "I" ∈ dw_TB := dw_mem (i := 340) (by decide +kernel) (by decide +kernel)
theorem tw_fX9_270 : Cond.fieldLink RX9 270 "DrainOffice$Trenches" "cost" "I" ∈ dw_TB := dw_mem (i := 341) (by decide +kernel) (by decide +kernel)
theorem tw_fX7_61 : Cond.fieldLink RX7 61 "DrainOffice$Trenches" "lesser" "I" ∈ dw_TB := dw_mem (i := 342) (by decide +kernel) (by decide +kernel)
theorem tw_fX7_64 : Cond.fieldLink RX7 64 "DrainOffice$Trenches" "greater" "I" ∈ dw_TB := dw_mem (i := 343) (by decide +kernel) (by decide +kernel)
theorem tw_fX7_41 : Cond.fieldLink RX7 41 "DrainOffice$Trenches" "leastCost" "I" ∈ dw_TB := dw_mem (i := 344) (by decide +kernel) (by decide +kernel)
theorem tw_fX9_12 : Cond.fieldLink RX9 12 "DrainOffice" "now" "LDrainOffice$Sheet;" ∈ dw_TB := dw_mem (i := 360) (by decide +kernel) (by decide +kernel)
theorem tw_fX9_16 : Cond.fieldLink RX9 16 "DrainOffice" "kept" "LDrainOffice$Sheet;" ∈ dw_TB := dw_mem (i := 361) (by decide +kernel) (by decide +kernel)
theorem tw_fX9_40 : Cond.fieldLink RX9 40 "DrainOffice" "isKept" "Z" ∈ dw_TB := dw_mem (i := 362) (by decide +kernel) (by decide +kernel)
theorem tw_fX9_22 : Cond.fieldLink RX9 22 "DrainOffice" "tried" "LDrainOffice$Water;" ∈ dw_TB := dw_mem (i := 363) (by decide +kernel) (by decide +kernel)
theorem tw_fX9_29 : Cond.fieldLink RX9 29 "DrainOffice" "flow" "LDrainOffice$Flow;" ∈ dw_TB := dw_mem (i := 364) (by decide +kernel) (by decide +kernel)
theorem tw_fX9_36 : Cond.fieldLink RX9 36 "DrainOffice" "trenches" "LDrainOffice$Trenches;" ∈ dw_TB := dw_mem (i := 365) (by decide +kernel) (by decide +kernel)
theorem tw_lL_13 : Cond.methodLink RL 13 yX9_land ∈ dw_TB := dw_mem (i := 379) (by decide +kernel) (by decide +kernel)
theorem tw_vX9_land : Cond.instanceMethod yX9_land ∈ dw_TB := dw_mem (i := 380) (by decide +kernel) (by decide +kernel)
theorem tw_eX9_land : Cond.selects RX9 yX9_land yX9_land ∈ dw_TB := dw_mem (i := 381) (by decide +kernel) (by decide +kernel)
theorem tw_kX9_land : Cond.code yX9_land cX9_land 3 (some .int) ∈ dw_TB := dw_mem (i := 382) (by decide +kernel) (by decide +kernel)
theorem tw_lX9_44 : Cond.methodLink RX9 44 yX9_isWithin ∈ dw_TB := dw_mem (i := 383) (by decide +kernel) (by decide +kernel)
theorem tw_sX9_isWithin : Cond.static yX9_isWithin ∈ dw_TB := dw_mem (i := 384) (by decide +kernel) (by decide +kernel)
theorem tw_kX9_isWithin : Cond.code yX9_isWithin cX9_isWithin 3 (some .boolean) ∈ dw_TB := dw_mem (i := 385) (by decide +kernel) (by decide +kernel)
theorem tw_lX9_52 : Cond.methodLink RX9 52 yX1_renew ∈ dw_TB := dw_mem (i := 386) (by decide +kernel) (by decide +kernel)
theorem tw_vX1_renew : Cond.instanceMethod yX1_renew ∈ dw_TB := dw_mem (i := 387) (by decide +kernel) (by decide +kernel)
theorem tw_eX1_renew : Cond.selects RX1 yX1_renew yX1_renew ∈ dw_TB := dw_mem (i := 388) (by decide +kernel) (by decide +kernel)
theorem tw_kX1_renew : Cond.code yX1_renew cX1_renew 3 none ∈ dw_TB := dw_mem (i := 389) (by decide +kernel) (by decide +kernel)
theorem tw_sX9_fill : Cond.static yX9_fill ∈ dw_TB := dw_mem (i := 391) (by decide +kernel) (by decide +kernel)
theorem tw_kX9_fill : Cond.code yX9_fill cX9_fill 3 none ∈ dw_TB := dw_mem (i := 392) (by decide +kernel) (by decide +kernel)
theorem tw_lX9_62 : Cond.methodLink RX9 62 yX3_clear ∈ dw_TB := dw_mem (i := 393) (by decide +kernel) (by decide +kernel)
theorem tw_vX3_clear : Cond.instanceMethod yX3_clear ∈ dw_TB := dw_mem (i := 394) (by decide +kernel) (by decide +kernel)
theorem tw_eX3_clear : Cond.selects RX3 yX3_clear yX3_clear ∈ dw_TB := dw_mem (i := 395) (by decide +kernel) (by decide +kernel)
theorem tw_kX3_clear : Cond.code yX3_clear cX3_clear 1 none ∈ dw_TB := dw_mem (i := 396) (by decide +kernel) (by decide +kernel)
theorem tw_lX3_25 : Cond.methodLink RX3 25 yX3_set ∈ dw_TB := dw_mem (i := 397) (by decide +kernel) (by decide +kernel)
theorem tw_vX3_set : Cond.instanceMethod yX3_set ∈ dw_TB := dw_mem (i := 398) (by decide +kernel) (by decide +kernel)
theorem tw_eX3_set : Cond.selects RX3 yX3_set yX3_set ∈ dw_TB := dw_mem (i := 399) (by decide +kernel) (by decide +kernel)
theorem tw_kX3_set : Cond.code yX3_set cX3_set 6 none ∈ dw_TB := dw_mem (i := 400) (by decide +kernel) (by decide +kernel)
theorem tw_lX9_80 : Cond.methodLink RX9 80 yX8_clear ∈ dw_TB := dw_mem (i := 401) (by decide +kernel) (by decide +kernel)
theorem tw_vX8_clear : Cond.instanceMethod yX8_clear ∈ dw_TB := dw_mem (i := 402) (by decide +kernel) (by decide +kernel)
theorem tw_eX8_clear : Cond.selects RX8 yX8_clear yX8_clear ∈ dw_TB := dw_mem (i := 403) (by decide +kernel) (by decide +kernel)
theorem tw_kX8_clear : Cond.code yX8_clear cX8_clear 1 none ∈ dw_TB := dw_mem (i := 404) (by decide +kernel) (by decide +kernel)
theorem tw_lX8_41 : Cond.methodLink RX8 41 yX2_clear ∈ dw_TB := dw_mem (i := 406) (by decide +kernel) (by decide +kernel)
theorem tw_vX2_clear : Cond.instanceMethod yX2_clear ∈ dw_TB := dw_mem (i := 407) (by decide +kernel) (by decide +kernel)
theorem tw_eX2_clear : Cond.selects RX2 yX2_clear yX2_clear ∈ dw_TB := dw_mem (i := 408) (by decide +kernel) (by decide +kernel)
theorem tw_kX2_clear : Cond.code yX2_clear cX2_clear 1 none ∈ dw_TB := dw_mem (i := 409) (by decide +kernel) (by decide +kernel)
theorem tw_lX9_85 : Cond.methodLink RX9 85 yX9_fill ∈ dw_TB := dw_mem (i := 410) (by decide +kernel) (by decide +kernel)
theorem tw_lX9_93 : Cond.methodLink RX9 93 yX2_clear ∈ dw_TB := dw_mem (i := 411) (by decide +kernel) (by decide +kernel)
theorem tw_lL_18 : Cond.methodLink RL 18 yX9_height ∈ dw_TB := dw_mem (i := 412) (by decide +kernel) (by decide +kernel)
theorem tw_vX9_height : Cond.instanceMethod yX9_height ∈ dw_TB := dw_mem (i := 413) (by decide +kernel) (by decide +kernel)
theorem tw_eX9_height : Cond.selects RX9 yX9_height yX9_height ∈ dw_TB := dw_mem (i := 414) (by decide +kernel) (by decide +kernel)
theorem tw_kX9_height : Cond.code yX9_height cX9_height 3 (some .int) ∈ dw_TB := dw_mem (i := 415) (by decide +kernel) (by decide +kernel)
theorem tw_lX9_102 : Cond.methodLink RX9 102 yX1_hasPlace ∈ dw_TB := dw_mem (i := 416) (by decide +kernel) (by decide +kernel)
theorem tw_vX1_hasPlace : Cond.instanceMethod yX1_hasPlace ∈ dw_TB := dw_mem (i := 417) (by decide +kernel) (by decide +kernel)
theorem tw_eX1_hasPlace : Cond.selects RX1 yX1_hasPlace yX1_hasPlace ∈ dw_TB := dw_mem (i := 418) (by decide +kernel) (by decide +kernel)
theorem tw_kX1_hasPlace : Cond.code yX1_hasPlace cX1_hasPlace 2 (some .boolean) ∈ dw_TB := dw_mem (i := 419) (by decide +kernel) (by decide +kernel)
theorem tw_lL_22 : Cond.methodLink RL 22 yX9_soil ∈ dw_TB := dw_mem (i := 420) (by decide +kernel) (by decide +kernel)
theorem tw_vX9_soil : Cond.instanceMethod yX9_soil ∈ dw_TB := dw_mem (i := 421) (by decide +kernel) (by decide +kernel)
theorem tw_eX9_soil : Cond.selects RX9 yX9_soil yX9_soil ∈ dw_TB := dw_mem (i := 422) (by decide +kernel) (by decide +kernel)
theorem tw_kX9_soil : Cond.code yX9_soil cX9_soil 3 (some .int) ∈ dw_TB := dw_mem (i := 423) (by decide +kernel) (by decide +kernel)
theorem tw_lL_26 : Cond.methodLink RL 26 yX9_soils ∈ dw_TB := dw_mem (i := 424) (by decide +kernel) (by decide +kernel)
theorem tw_vX9_soils : Cond.instanceMethod yX9_soils ∈ dw_TB := dw_mem (i := 425) (by decide +kernel) (by decide +kernel)
theorem tw_eX9_soils : Cond.selects RX9 yX9_soils yX9_soils ∈ dw_TB := dw_mem (i := 426) (by decide +kernel) (by decide +kernel)
theorem tw_kX9_soils : Cond.code yX9_soils cX9_soils 6 (some .int) ∈ dw_TB := dw_mem (i := 427) (by decide +kernel) (by decide +kernel)
theorem tw_lL_31 : Cond.methodLink RL 31 yX9_ditch ∈ dw_TB := dw_mem (i := 428) (by decide +kernel) (by decide +kernel)
theorem tw_vX9_ditch : Cond.instanceMethod yX9_ditch ∈ dw_TB := dw_mem (i := 429) (by decide +kernel) (by decide +kernel)
theorem tw_eX9_ditch : Cond.selects RX9 yX9_ditch yX9_ditch ∈ dw_TB := dw_mem (i := 430) (by decide +kernel) (by decide +kernel)
theorem tw_kX9_ditch : Cond.code yX9_ditch cX9_ditch 3 (some .int) ∈ dw_TB := dw_mem (i := 431) (by decide +kernel) (by decide +kernel)
theorem tw_lL_35 : Cond.methodLink RL 35 yX9_trench ∈ dw_TB := dw_mem (i := 432) (by decide +kernel) (by decide +kernel)
theorem tw_vX9_trench : Cond.instanceMethod yX9_trench ∈ dw_TB := dw_mem (i := 433) (by decide +kernel) (by decide +kernel)
theorem tw_eX9_trench : Cond.selects RX9 yX9_trench yX9_trench ∈ dw_TB := dw_mem (i := 434) (by decide +kernel) (by decide +kernel)
theorem tw_kX9_trench : Cond.code yX9_trench cX9_trench 8 (some .int) ∈ dw_TB := dw_mem (i := 435) (by decide +kernel) (by decide +kernel)
theorem tw_lX9_127 : Cond.methodLink RX9 127 yX1_areInLine ∈ dw_TB := dw_mem (i := 436) (by decide +kernel) (by decide +kernel)
theorem tw_vX1_areInLine : Cond.instanceMethod yX1_areInLine ∈ dw_TB := dw_mem (i := 437) (by decide +kernel) (by decide +kernel)
theorem tw_eX1_areInLine : Cond.selects RX1 yX1_areInLine yX1_areInLine ∈ dw_TB := dw_mem (i := 438) (by decide +kernel) (by decide +kernel)
theorem tw_kX1_areInLine : Cond.code yX1_areInLine cX1_areInLine 3 (some .boolean) ∈ dw_TB := dw_mem (i := 439) (by decide +kernel) (by decide +kernel)
theorem tw_lX1_57 : Cond.methodLink RX1 57 yX1_rowsApart ∈ dw_TB := dw_mem (i := 440) (by decide +kernel) (by decide +kernel)
theorem tw_vX1_rowsApart : Cond.instanceMethod yX1_rowsApart ∈ dw_TB := dw_mem (i := 441) (by decide +kernel) (by decide +kernel)
theorem tw_eX1_rowsApart : Cond.selects RX1 yX1_rowsApart yX1_rowsApart ∈ dw_TB := dw_mem (i := 442) (by decide +kernel) (by decide +kernel)
theorem tw_kX1_rowsApart : Cond.code yX1_rowsApart cX1_rowsApart 3 (some .int) ∈ dw_TB := dw_mem (i := 443) (by decide +kernel) (by decide +kernel)
theorem tw_lX1_48 : Cond.methodLink RX1 48 yX1_rowOf ∈ dw_TB := dw_mem (i := 444) (by decide +kernel) (by decide +kernel)
theorem tw_vX1_rowOf : Cond.instanceMethod yX1_rowOf ∈ dw_TB := dw_mem (i := 445) (by decide +kernel) (by decide +kernel)
theorem tw_eX1_rowOf : Cond.selects RX1 yX1_rowOf yX1_rowOf ∈ dw_TB := dw_mem (i := 446) (by decide +kernel) (by decide +kernel)
theorem tw_kX1_rowOf : Cond.code yX1_rowOf cX1_rowOf 2 (some .int) ∈ dw_TB := dw_mem (i := 447) (by decide +kernel) (by decide +kernel)
theorem tw_lX1_52 : Cond.methodLink RX1 52 yJ9_abs_0f7a4 ∈ dw_TB := dw_mem (i := 448) (by decide +kernel) (by decide +kernel)
theorem tw_sJ9_abs_0f7a4 : Cond.static yJ9_abs_0f7a4 ∈ dw_TB := dw_mem (i := 449) (by decide +kernel) (by decide +kernel)
theorem tw_kJ9_abs_0f7a4 : Cond.code Lib.Math.abs.name Lib.Math.abs.code 1 (some .int) ∈ dw_TB := dw_mem (i := 450) (by decide +kernel) (by decide +kernel)
theorem tw_lX1_61 : Cond.methodLink RX1 61 yX1_columnsApart ∈ dw_TB := dw_mem (i := 451) (by decide +kernel) (by decide +kernel)
theorem tw_vX1_columnsApart : Cond.instanceMethod yX1_columnsApart ∈ dw_TB := dw_mem (i := 452) (by decide +kernel) (by decide +kernel)
theorem tw_eX1_columnsApart : Cond.selects RX1 yX1_columnsApart yX1_columnsApart ∈ dw_TB := dw_mem (i := 453) (by decide +kernel) (by decide +kernel)
theorem tw_kX1_columnsApart : Cond.code yX1_columnsApart cX1_columnsApart 3 (some .int) ∈ dw_TB := dw_mem (i := 454) (by decide +kernel) (by decide +kernel)
theorem tw_lX9_131 : Cond.methodLink RX9 131 yX1_rowsApart ∈ dw_TB := dw_mem (i := 455) (by decide +kernel) (by decide +kernel)
theorem tw_lX9_135 : Cond.methodLink RX9 135 yX1_columnsApart ∈ dw_TB := dw_mem (i := 456) (by decide +kernel) (by decide +kernel)
theorem tw_lX9_141 : Cond.methodLink RX9 141 yX3_set ∈ dw_TB := dw_mem (i := 457) (by decide +kernel) (by decide +kernel)
theorem tw_lL_40 : Cond.methodLink RL 40 yX9_pipe ∈ dw_TB := dw_mem (i := 458) (by decide +kernel) (by decide +kernel)
theorem tw_vX9_pipe : Cond.instanceMethod yX9_pipe ∈ dw_TB := dw_mem (i := 459) (by decide +kernel) (by decide +kernel)
theorem tw_eX9_pipe : Cond.selects RX9 yX9_pipe yX9_pipe ∈ dw_TB := dw_mem (i := 460) (by decide +kernel) (by decide +kernel)
theorem tw_kX9_pipe : Cond.code yX9_pipe cX9_pipe 6 (some .int) ∈ dw_TB := dw_mem (i := 461) (by decide +kernel) (by decide +kernel)
theorem tw_lX9_148 : Cond.methodLink RX9 148 yX1_firstBareStep ∈ dw_TB := dw_mem (i := 462) (by decide +kernel) (by decide +kernel)
theorem tw_vX1_firstBareStep : Cond.instanceMethod yX1_firstBareStep ∈ dw_TB := dw_mem (i := 463) (by decide +kernel) (by decide +kernel)
theorem tw_eX1_firstBareStep : Cond.selects RX1 yX1_firstBareStep yX1_firstBareStep ∈ dw_TB := dw_mem (i := 464) (by decide +kernel) (by decide +kernel)
theorem tw_kX1_firstBareStep : Cond.code yX1_firstBareStep cX1_firstBareStep 3 (some .int) ∈ dw_TB := dw_mem (i := 465) (by decide +kernel) (by decide +kernel)
theorem tw_lX1_75 : Cond.methodLink RX1 75 yX1_coverAt ∈ dw_TB := dw_mem (i := 466) (by decide +kernel) (by decide +kernel)
theorem tw_vX1_coverAt : Cond.instanceMethod yX1_coverAt ∈ dw_TB := dw_mem (i := 467) (by decide +kernel) (by decide +kernel)
theorem tw_eX1_coverAt : Cond.selects RX1 yX1_coverAt yX1_coverAt ∈ dw_TB := dw_mem (i := 468) (by decide +kernel) (by decide +kernel)
theorem tw_kX1_coverAt : Cond.code yX1_coverAt cX1_coverAt 3 (some .int) ∈ dw_TB := dw_mem (i := 469) (by decide +kernel) (by decide +kernel)
theorem tw_lX1_64 : Cond.methodLink RX1 64 yX3_placeAt ∈ dw_TB := dw_mem (i := 470) (by decide +kernel) (by decide +kernel)
theorem tw_vX3_placeAt : Cond.instanceMethod yX3_placeAt ∈ dw_TB := dw_mem (i := 471) (by decide +kernel) (by decide +kernel)
theorem tw_eX3_placeAt : Cond.selects RX3 yX3_placeAt yX3_placeAt ∈ dw_TB := dw_mem (i := 472) (by decide +kernel) (by decide +kernel)
theorem tw_kX3_placeAt : Cond.code yX3_placeAt cX3_placeAt 2 (some .int) ∈ dw_TB := dw_mem (i := 473) (by decide +kernel) (by decide +kernel)
theorem tw_lX1_69 : Cond.methodLink RX1 69 yX3_levelAt ∈ dw_TB := dw_mem (i := 474) (by decide +kernel) (by decide +kernel)
theorem tw_vX3_levelAt : Cond.instanceMethod yX3_levelAt ∈ dw_TB := dw_mem (i := 475) (by decide +kernel) (by decide +kernel)
theorem tw_eX3_levelAt : Cond.selects RX3 yX3_levelAt yX3_levelAt ∈ dw_TB := dw_mem (i := 476) (by decide +kernel) (by decide +kernel)
theorem tw_kX3_levelAt : Cond.code yX3_levelAt cX3_levelAt 2 (some .int) ∈ dw_TB := dw_mem (i := 477) (by decide +kernel) (by decide +kernel)
theorem tw_lX9_156 : Cond.methodLink RX9 156 yX5_lay ∈ dw_TB := dw_mem (i := 478) (by decide +kernel) (by decide +kernel)
theorem tw_vX5_lay : Cond.instanceMethod yX5_lay ∈ dw_TB := dw_mem (i := 479) (by decide +kernel) (by decide +kernel)
theorem tw_eX5_lay : Cond.selects RX5 yX5_lay yX5_lay ∈ dw_TB := dw_mem (i := 480) (by decide +kernel) (by decide +kernel)
theorem tw_kX5_lay : Cond.code yX5_lay cX5_lay 4 none ∈ dw_TB := dw_mem (i := 481) (by decide +kernel) (by decide +kernel)
theorem tw_lX5_18 : Cond.methodLink RX5 18 yX3_copyFrom ∈ dw_TB := dw_mem (i := 482) (by decide +kernel) (by decide +kernel)
theorem tw_vX3_copyFrom : Cond.instanceMethod yX3_copyFrom ∈ dw_TB := dw_mem (i := 483) (by decide +kernel) (by decide +kernel)
theorem tw_eX3_copyFrom : Cond.selects RX3 yX3_copyFrom yX3_copyFrom ∈ dw_TB := dw_mem (i := 484) (by decide +kernel) (by decide +kernel)
theorem tw_kX3_copyFrom : Cond.code yX3_copyFrom cX3_copyFrom 2 none ∈ dw_TB := dw_mem (i := 485) (by decide +kernel) (by decide +kernel)
theorem tw_lL_45 : Cond.methodLink RL 45 yX9_join ∈ dw_TB := dw_mem (i := 486) (by decide +kernel) (by decide +kernel)
theorem tw_vX9_join : Cond.instanceMethod yX9_join ∈ dw_TB := dw_mem (i := 487) (by decide +kernel) (by decide +kernel)
theorem tw_eX9_join : Cond.selects RX9 yX9_join yX9_join ∈ dw_TB := dw_mem (i := 488) (by decide +kernel) (by decide +kernel)
theorem tw_kX9_join : Cond.code yX9_join cX9_join 7 (some .int) ∈ dw_TB := dw_mem (i := 489) (by decide +kernel) (by decide +kernel)
theorem tw_lX9_165 : Cond.methodLink RX9 165 yX4_hasPipe ∈ dw_TB := dw_mem (i := 490) (by decide +kernel) (by decide +kernel)
theorem tw_vX4_hasPipe : Cond.instanceMethod yX4_hasPipe ∈ dw_TB := dw_mem (i := 491) (by decide +kernel) (by decide +kernel)
theorem tw_eX4_hasPipe : Cond.selects RX4 yX4_hasPipe yX4_hasPipe ∈ dw_TB := dw_mem (i := 492) (by decide +kernel) (by decide +kernel)
theorem tw_kX4_hasPipe : Cond.code yX4_hasPipe cX4_hasPipe 2 (some .boolean) ∈ dw_TB := dw_mem (i := 493) (by decide +kernel) (by decide +kernel)
theorem tw_lX9_171 : Cond.methodLink RX9 171 yX3_placeAt ∈ dw_TB := dw_mem (i := 494) (by decide +kernel) (by decide +kernel)
theorem tw_lX9_175 : Cond.methodLink RX9 175 yX3_stepOn ∈ dw_TB := dw_mem (i := 495) (by decide +kernel) (by decide +kernel)
theorem tw_vX3_stepOn : Cond.instanceMethod yX3_stepOn ∈ dw_TB := dw_mem (i := 496) (by decide +kernel) (by decide +kernel)
theorem tw_eX3_stepOn : Cond.selects RX3 yX3_stepOn yX3_stepOn ∈ dw_TB := dw_mem (i := 497) (by decide +kernel) (by decide +kernel)
theorem tw_kX3_stepOn : Cond.code yX3_stepOn cX3_stepOn 3 (some .int) ∈ dw_TB := dw_mem (i := 498) (by decide +kernel) (by decide +kernel)
theorem tw_lX3_29 : Cond.methodLink RX3 29 yX3_placeAt ∈ dw_TB := dw_mem (i := 499) (by decide +kernel) (by decide +kernel)
theorem tw_lX9_181 : Cond.methodLink RX9 181 yX5_isMain ∈ dw_TB := dw_mem (i := 500) (by decide +kernel) (by decide +kernel)
theorem tw_vX5_isMain : Cond.instanceMethod yX5_isMain ∈ dw_TB := dw_mem (i := 501) (by decide +kernel) (by decide +kernel)
theorem tw_eX5_isMain : Cond.selects RX5 yX5_isMain yX5_isMain ∈ dw_TB := dw_mem (i := 502) (by decide +kernel) (by decide +kernel)
theorem tw_kX5_isMain : Cond.code yX5_isMain cX5_isMain 1 (some .boolean) ∈ dw_TB := dw_mem (i := 503) (by decide +kernel) (by decide +kernel)
theorem tw_lX9_185 : Cond.methodLink RX9 185 yX3_levelAt ∈ dw_TB := dw_mem (i := 504) (by decide +kernel) (by decide +kernel)
theorem tw_lX9_188 : Cond.methodLink RX9 188 yX4_leadsTo ∈ dw_TB := dw_mem (i := 505) (by decide +kernel) (by decide +kernel)
theorem tw_vX4_leadsTo : Cond.instanceMethod yX4_leadsTo ∈ dw_TB := dw_mem (i := 506) (by decide +kernel) (by decide +kernel)
theorem tw_eX4_leadsTo : Cond.selects RX4 yX4_leadsTo yX4_leadsTo ∈ dw_TB := dw_mem (i := 507) (by decide +kernel) (by decide +kernel)
theorem tw_kX4_leadsTo : Cond.code yX4_leadsTo cX4_leadsTo 5 (some .boolean) ∈ dw_TB := dw_mem (i := 508) (by decide +kernel) (by decide +kernel)
theorem tw_lX4_26 : Cond.methodLink RX4 26 yX5_leadsIntoPipe ∈ dw_TB := dw_mem (i := 509) (by decide +kernel) (by decide +kernel)
theorem tw_vX5_leadsIntoPipe : Cond.instanceMethod yX5_leadsIntoPipe ∈ dw_TB := dw_mem (i := 510) (by decide +kernel) (by decide +kernel)
theorem tw_eX5_leadsIntoPipe : Cond.selects RX5 yX5_leadsIntoPipe yX5_leadsIntoPipe ∈ dw_TB := dw_mem (i := 511) (by decide +kernel) (by decide +kernel)
theorem tw_kX5_leadsIntoPipe : Cond.code yX5_leadsIntoPipe cX5_leadsIntoPipe 1 (some .boolean) ∈ dw_TB := dw_mem (i := 512) (by decide +kernel) (by decide +kernel)
theorem tw_lX9_194 : Cond.methodLink RX9 194 yX4_rankOf ∈ dw_TB := dw_mem (i := 513) (by decide +kernel) (by decide +kernel)
theorem tw_vX4_rankOf : Cond.instanceMethod yX4_rankOf ∈ dw_TB := dw_mem (i := 514) (by decide +kernel) (by decide +kernel)
theorem tw_eX4_rankOf : Cond.selects RX4 yX4_rankOf yX4_rankOf ∈ dw_TB := dw_mem (i := 515) (by decide +kernel) (by decide +kernel)
theorem tw_kX4_rankOf : Cond.code yX4_rankOf cX4_rankOf 4 (some .int) ∈ dw_TB := dw_mem (i := 516) (by decide +kernel) (by decide +kernel)
theorem tw_lL_49 : Cond.methodLink RL 49 yX9_open ∈ dw_TB := dw_mem (i := 517) (by decide +kernel) (by decide +kernel)
theorem tw_vX9_open : Cond.instanceMethod yX9_open ∈ dw_TB := dw_mem (i := 518) (by decide +kernel) (by decide +kernel)
theorem tw_eX9_open : Cond.selects RX9 yX9_open yX9_open ∈ dw_TB := dw_mem (i := 519) (by decide +kernel) (by decide +kernel)
theorem tw_kX9_open : Cond.code yX9_open cX9_open 3 (some .int) ∈ dw_TB := dw_mem (i := 520) (by decide +kernel) (by decide +kernel)
theorem tw_lL_53 : Cond.methodLink RL 53 yX9_part ∈ dw_TB := dw_mem (i := 521) (by decide +kernel) (by decide +kernel)
theorem tw_vX9_part : Cond.instanceMethod yX9_part ∈ dw_TB := dw_mem (i := 522) (by decide +kernel) (by decide +kernel)
theorem tw_eX9_part : Cond.selects RX9 yX9_part yX9_part ∈ dw_TB := dw_mem (i := 523) (by decide +kernel) (by decide +kernel)
theorem tw_kX9_part : Cond.code yX9_part cX9_part 2 (some .int) ∈ dw_TB := dw_mem (i := 524) (by decide +kernel) (by decide +kernel)
theorem tw_lL_58 : Cond.methodLink RL 58 yX9_block ∈ dw_TB := dw_mem (i := 525) (by decide +kernel) (by decide +kernel)
theorem tw_vX9_block : Cond.instanceMethod yX9_block ∈ dw_TB := dw_mem (i := 526) (by decide +kernel) (by decide +kernel)
theorem tw_eX9_block : Cond.selects RX9 yX9_block yX9_block ∈ dw_TB := dw_mem (i := 527) (by decide +kernel) (by decide +kernel)
theorem tw_kX9_block : Cond.code yX9_block cX9_block 3 (some .int) ∈ dw_TB := dw_mem (i := 528) (by decide +kernel) (by decide +kernel)
theorem tw_lX9_200 : Cond.methodLink RX9 200 yX2_put ∈ dw_TB := dw_mem (i := 529) (by decide +kernel) (by decide +kernel)
theorem tw_vX2_put : Cond.instanceMethod yX2_put ∈ dw_TB := dw_mem (i := 530) (by decide +kernel) (by decide +kernel)
theorem tw_eX2_put : Cond.selects RX2 yX2_put yX2_put ∈ dw_TB := dw_mem (i := 531) (by decide +kernel) (by decide +kernel)
theorem tw_kX2_put : Cond.code yX2_put cX2_put 3 (some .int) ∈ dw_TB := dw_mem (i := 532) (by decide +kernel) (by decide +kernel)
theorem tw_lX2_13 : Cond.methodLink RX2 13 yX2_has ∈ dw_TB := dw_mem (i := 533) (by decide +kernel) (by decide +kernel)
theorem tw_vX2_has : Cond.instanceMethod yX2_has ∈ dw_TB := dw_mem (i := 534) (by decide +kernel) (by decide +kernel)
theorem tw_eX2_has : Cond.selects RX2 yX2_has yX2_has ∈ dw_TB := dw_mem (i := 535) (by decide +kernel) (by decide +kernel)
theorem tw_kX2_has : Cond.code yX2_has cX2_has 2 (some .boolean) ∈ dw_TB := dw_mem (i := 536) (by decide +kernel) (by decide +kernel)
theorem tw_lL_63 : Cond.methodLink RL 63 yX9_of ∈ dw_TB := dw_mem (i := 537) (by decide +kernel) (by decide +kernel)
theorem tw_vX9_of : Cond.instanceMethod yX9_of ∈ dw_TB := dw_mem (i := 538) (by decide +kernel) (by decide +kernel)
theorem tw_eX9_of : Cond.selects RX9 yX9_of yX9_of ∈ dw_TB := dw_mem (i := 539) (by decide +kernel) (by decide +kernel)
theorem tw_kX9_of : Cond.code yX9_of cX9_of 4 (some .int) ∈ dw_TB := dw_mem (i := 540) (by decide +kernel) (by decide +kernel)
theorem tw_lX9_213 : Cond.methodLink RX9 213 yX2_has ∈ dw_TB := dw_mem (i := 541) (by decide +kernel) (by decide +kernel)
theorem tw_lX9_219 : Cond.methodLink RX9 219 yX4_peakOf ∈ dw_TB := dw_mem (i := 542) (by decide +kernel) (by decide +kernel)
theorem tw_vX4_peakOf : Cond.instanceMethod yX4_peakOf ∈ dw_TB := dw_mem (i := 543) (by decide +kernel) (by decide +kernel)
theorem tw_eX4_peakOf : Cond.selects RX4 yX4_peakOf yX4_peakOf ∈ dw_TB := dw_mem (i := 544) (by decide +kernel) (by decide +kernel)
theorem tw_kX4_peakOf : Cond.code yX4_peakOf cX4_peakOf 4 (some .int) ∈ dw_TB := dw_mem (i := 545) (by decide +kernel) (by decide +kernel)
theorem tw_lX4_36 : Cond.methodLink RX4 36 yJ9_min_7cf53 ∈ dw_TB := dw_mem (i := 546) (by decide +kernel) (by decide +kernel)
theorem tw_sJ9_min_7cf53 : Cond.static yJ9_min_7cf53 ∈ dw_TB := dw_mem (i := 547) (by decide +kernel) (by decide +kernel)
theorem tw_kJ9_min_7cf53 : Cond.code Lib.Math.min.name Lib.Math.min.code 2 (some .int) ∈ dw_TB := dw_mem (i := 548) (by decide +kernel) (by decide +kernel)
theorem tw_lL_67 : Cond.methodLink RL 67 yX9_step ∈ dw_TB := dw_mem (i := 549) (by decide +kernel) (by decide +kernel)
theorem tw_vX9_step : Cond.instanceMethod yX9_step ∈ dw_TB := dw_mem (i := 550) (by decide +kernel) (by decide +kernel)
theorem tw_eX9_step : Cond.selects RX9 yX9_step yX9_step ∈ dw_TB := dw_mem (i := 551) (by decide +kernel) (by decide +kernel)
theorem tw_kX9_step : Cond.code yX9_step cX9_step 5 (some .int) ∈ dw_TB := dw_mem (i := 552) (by decide +kernel) (by decide +kernel)
theorem tw_lX9_225 : Cond.methodLink RX9 225 yX1_coverAt ∈ dw_TB := dw_mem (i := 553) (by decide +kernel) (by decide +kernel)
theorem tw_lL_71 : Cond.methodLink RL 71 yX9_rain ∈ dw_TB := dw_mem (i := 554) (by decide +kernel) (by decide +kernel)
theorem tw_vX9_rain : Cond.instanceMethod yX9_rain ∈ dw_TB := dw_mem (i := 555) (by decide +kernel) (by decide +kernel)
theorem tw_eX9_rain : Cond.selects RX9 yX9_rain yX9_rain ∈ dw_TB := dw_mem (i := 556) (by decide +kernel) (by decide +kernel)
theorem tw_kX9_rain : Cond.code yX9_rain cX9_rain 3 (some .int) ∈ dw_TB := dw_mem (i := 557) (by decide +kernel) (by decide +kernel)
theorem tw_lL_75 : Cond.methodLink RL 75 yX9_hours ∈ dw_TB := dw_mem (i := 558) (by decide +kernel) (by decide +kernel)
theorem tw_vX9_hours : Cond.instanceMethod yX9_hours ∈ dw_TB := dw_mem (i := 559) (by decide +kernel) (by decide +kernel)
theorem tw_eX9_hours : Cond.selects RX9 yX9_hours yX9_hours ∈ dw_TB := dw_mem (i := 560) (by decide +kernel) (by decide +kernel)
theorem tw_kX9_hours : Cond.code yX9_hours cX9_hours 4 (some .int) ∈ dw_TB := dw_mem (i := 561) (by decide +kernel) (by decide +kernel)
theorem tw_lX9_232 : Cond.methodLink RX9 232 yX9_sum ∈ dw_TB := dw_mem (i := 562) (by decide +kernel) (by decide +kernel)
theorem tw_sX9_sum : Cond.static yX9_sum ∈ dw_TB := dw_mem (i := 563) (by decide +kernel) (by decide +kernel)
theorem tw_kX9_sum : Cond.code yX9_sum cX9_sum 3 (some .int) ∈ dw_TB := dw_mem (i := 564) (by decide +kernel) (by decide +kernel)
theorem tw_lX9_236 : Cond.methodLink RX9 236 yX0_plan ∈ dw_TB := dw_mem (i := 565) (by decide +kernel) (by decide +kernel)
theorem tw_vX0_plan : Cond.instanceMethod yX0_plan ∈ dw_TB := dw_mem (i := 566) (by decide +kernel) (by decide +kernel)
theorem tw_eX0_plan : Cond.selects RX0 yX0_plan yX0_plan ∈ dw_TB := dw_mem (i := 567) (by decide +kernel) (by decide +kernel)
theorem tw_kX0_plan : Cond.code yX0_plan cX0_plan 2 none ∈ dw_TB := dw_mem (i := 568) (by decide +kernel) (by decide +kernel)
theorem tw_lX0_24 : Cond.methodLink RX0 24 yX0_planDrains ∈ dw_TB := dw_mem (i := 569) (by decide +kernel) (by decide +kernel)
theorem tw_vX0_planDrains : Cond.instanceMethod yX0_planDrains ∈ dw_TB := dw_mem (i := 571) (by decide +kernel) (by decide +kernel)
theorem tw_kX0_planDrains : Cond.code yX0_planDrains cX0_planDrains 3 none ∈ dw_TB := dw_mem (i := 572) (by decide +kernel) (by decide +kernel)
theorem tw_lX0_45 : Cond.methodLink RX0 45 yX5_isLateral ∈ dw_TB := dw_mem (i := 574) (by decide +kernel) (by decide +kernel)
theorem tw_vX5_isLateral : Cond.instanceMethod yX5_isLateral ∈ dw_TB := dw_mem (i := 575) (by decide +kernel) (by decide +kernel)
theorem tw_eX5_isLateral : Cond.selects RX5 yX5_isLateral yX5_isLateral ∈ dw_TB := dw_mem (i := 576) (by decide +kernel) (by decide +kernel)
theorem tw_kX5_isLateral : Cond.code yX5_isLateral cX5_isLateral 1 (some .boolean) ∈ dw_TB := dw_mem (i := 577) (by decide +kernel) (by decide +kernel)
theorem tw_lX0_55 : Cond.methodLink RX0 55 yX0_addDrain ∈ dw_TB := dw_mem (i := 578) (by decide +kernel) (by decide +kernel)
theorem tw_vX0_addDrain : Cond.instanceMethod yX0_addDrain ∈ dw_TB := dw_mem (i := 580) (by decide +kernel) (by decide +kernel)
theorem tw_kX0_addDrain : Cond.code yX0_addDrain cX0_addDrain 5 none ∈ dw_TB := dw_mem (i := 581) (by decide +kernel) (by decide +kernel)
theorem tw_lX0_64 : Cond.methodLink RX0 64 yX3_placeAt ∈ dw_TB := dw_mem (i := 582) (by decide +kernel) (by decide +kernel)
theorem tw_lX0_28 : Cond.methodLink RX0 28 yX0_planOrder ∈ dw_TB := dw_mem (i := 583) (by decide +kernel) (by decide +kernel)
theorem tw_vX0_planOrder : Cond.instanceMethod yX0_planOrder ∈ dw_TB := dw_mem (i := 585) (by decide +kernel) (by decide +kernel)
theorem tw_kX0_planOrder : Cond.code yX0_planOrder cX0_planOrder 5 none ∈ dw_TB := dw_mem (i := 586) (by decide +kernel) (by decide +kernel)
theorem tw_lX0_68 : Cond.methodLink RX0 68 yX4_rankOf ∈ dw_TB := dw_mem (i := 587) (by decide +kernel) (by decide +kernel)
theorem tw_lX9_240 : Cond.methodLink RX9 240 yX0_passHour ∈ dw_TB := dw_mem (i := 588) (by decide +kernel) (by decide +kernel)
theorem tw_vX0_passHour : Cond.instanceMethod yX0_passHour ∈ dw_TB := dw_mem (i := 589) (by decide +kernel) (by decide +kernel)
theorem tw_eX0_passHour : Cond.selects RX0 yX0_passHour yX0_passHour ∈ dw_TB := dw_mem (i := 590) (by decide +kernel) (by decide +kernel)
theorem tw_kX0_passHour : Cond.code yX0_passHour cX0_passHour 4 none ∈ dw_TB := dw_mem (i := 591) (by decide +kernel) (by decide +kernel)
theorem tw_lX0_82 : Cond.methodLink RX0 82 yX0_wetPlace ∈ dw_TB := dw_mem (i := 592) (by decide +kernel) (by decide +kernel)
theorem tw_vX0_wetPlace : Cond.instanceMethod yX0_wetPlace ∈ dw_TB := dw_mem (i := 594) (by decide +kernel) (by decide +kernel)
theorem tw_kX0_wetPlace : Cond.code yX0_wetPlace cX0_wetPlace 8 none ∈ dw_TB := dw_mem (i := 595) (by decide +kernel) (by decide +kernel)
theorem tw_lX0_122 : Cond.methodLink RX0 122 yJ9_max_7cf53 ∈ dw_TB := dw_mem (i := 596) (by decide +kernel) (by decide +kernel)
theorem tw_sJ9_max_7cf53 : Cond.static yJ9_max_7cf53 ∈ dw_TB := dw_mem (i := 597) (by decide +kernel) (by decide +kernel)
theorem tw_kJ9_max_7cf53 : Cond.code Lib.Math.max.name Lib.Math.max.code 2 (some .int) ∈ dw_TB := dw_mem (i := 598) (by decide +kernel) (by decide +kernel)
theorem tw_lX0_131 : Cond.methodLink RX0 131 yJ9_min_7cf53 ∈ dw_TB := dw_mem (i := 599) (by decide +kernel) (by decide +kernel)
theorem tw_lX0_86 : Cond.methodLink RX0 86 yX0_drainPlace ∈ dw_TB := dw_mem (i := 600) (by decide +kernel) (by decide +kernel)
theorem tw_vX0_drainPlace : Cond.instanceMethod yX0_drainPlace ∈ dw_TB := dw_mem (i := 602) (by decide +kernel) (by decide +kernel)
theorem tw_kX0_drainPlace : Cond.code yX0_drainPlace cX0_drainPlace 11 none ∈ dw_TB := dw_mem (i := 603) (by decide +kernel) (by decide +kernel)
theorem tw_lX0_144 : Cond.methodLink RX0 144 yX2_has ∈ dw_TB := dw_mem (i := 604) (by decide +kernel) (by decide +kernel)
theorem tw_lX0_93 : Cond.methodLink RX0 93 yX0_passOn ∈ dw_TB := dw_mem (i := 605) (by decide +kernel) (by decide +kernel)
theorem tw_vX0_passOn : Cond.instanceMethod yX0_passOn ∈ dw_TB := dw_mem (i := 607) (by decide +kernel) (by decide +kernel)
theorem tw_kX0_passOn : Cond.code yX0_passOn cX0_passOn 7 none ∈ dw_TB := dw_mem (i := 608) (by decide +kernel) (by decide +kernel)
theorem tw_lX0_156 : Cond.methodLink RX0 156 yX0_mostInto ∈ dw_TB := dw_mem (i := 609) (by decide +kernel) (by decide +kernel)
theorem tw_vX0_mostInto : Cond.instanceMethod yX0_mostInto ∈ dw_TB := dw_mem (i := 611) (by decide +kernel) (by decide +kernel)
theorem tw_kX0_mostInto : Cond.code yX0_mostInto cX0_mostInto 6 (some .int) ∈ dw_TB := dw_mem (i := 612) (by decide +kernel) (by decide +kernel)
theorem tw_lX0_166 : Cond.methodLink RX0 166 yX5_leadsIntoPipe ∈ dw_TB := dw_mem (i := 613) (by decide +kernel) (by decide +kernel)
theorem tw_lX0_175 : Cond.methodLink RX0 175 yX3_levelAt ∈ dw_TB := dw_mem (i := 614) (by decide +kernel) (by decide +kernel)
theorem tw_lL_79 : Cond.methodLink RL 79 yX9_at ∈ dw_TB := dw_mem (i := 615) (by decide +kernel) (by decide +kernel)
theorem tw_vX9_at : Cond.instanceMethod yX9_at ∈ dw_TB := dw_mem (i := 616) (by decide +kernel) (by decide +kernel)
theorem tw_eX9_at : Cond.selects RX9 yX9_at yX9_at ∈ dw_TB := dw_mem (i := 617) (by decide +kernel) (by decide +kernel)
theorem tw_kX9_at : Cond.code yX9_at cX9_at 3 (some .int) ∈ dw_TB := dw_mem (i := 618) (by decide +kernel) (by decide +kernel)
theorem tw_lX9_250 : Cond.methodLink RX9 250 yX6_isReached ∈ dw_TB := dw_mem (i := 619) (by decide +kernel) (by decide +kernel)
theorem tw_vX6_isReached : Cond.instanceMethod yX6_isReached ∈ dw_TB := dw_mem (i := 620) (by decide +kernel) (by decide +kernel)
theorem tw_eX6_isReached : Cond.selects RX6 yX6_isReached yX6_isReached ∈ dw_TB := dw_mem (i := 621) (by decide +kernel) (by decide +kernel)
theorem tw_kX6_isReached : Cond.code yX6_isReached cX6_isReached 3 (some .boolean) ∈ dw_TB := dw_mem (i := 622) (by decide +kernel) (by decide +kernel)
theorem tw_lX6_81 : Cond.methodLink RX6 81 yX5_isLateral ∈ dw_TB := dw_mem (i := 623) (by decide +kernel) (by decide +kernel)
theorem tw_lX6_90 : Cond.methodLink RX6 90 yX1_isReachedBy ∈ dw_TB := dw_mem (i := 624) (by decide +kernel) (by decide +kernel)
theorem tw_vX1_isReachedBy : Cond.instanceMethod yX1_isReachedBy ∈ dw_TB := dw_mem (i := 625) (by decide +kernel) (by decide +kernel)
theorem tw_eX1_isReachedBy : Cond.selects RX1 yX1_isReachedBy yX1_isReachedBy ∈ dw_TB := dw_mem (i := 626) (by decide +kernel) (by decide +kernel)
theorem tw_kX1_isReachedBy : Cond.code yX1_isReachedBy cX1_isReachedBy 6 (some .boolean) ∈ dw_TB := dw_mem (i := 627) (by decide +kernel) (by decide +kernel)
theorem tw_lL_83 : Cond.methodLink RL 83 yX9_all ∈ dw_TB := dw_mem (i := 628) (by decide +kernel) (by decide +kernel)
theorem tw_vX9_all : Cond.instanceMethod yX9_all ∈ dw_TB := dw_mem (i := 629) (by decide +kernel) (by decide +kernel)
theorem tw_eX9_all : Cond.selects RX9 yX9_all yX9_all ∈ dw_TB := dw_mem (i := 630) (by decide +kernel) (by decide +kernel)
theorem tw_kX9_all : Cond.code yX9_all cX9_all 2 (some .int) ∈ dw_TB := dw_mem (i := 631) (by decide +kernel) (by decide +kernel)
theorem tw_lL_87 : Cond.methodLink RL 87 yX9_many ∈ dw_TB := dw_mem (i := 632) (by decide +kernel) (by decide +kernel)
theorem tw_vX9_many : Cond.instanceMethod yX9_many ∈ dw_TB := dw_mem (i := 633) (by decide +kernel) (by decide +kernel)
theorem tw_eX9_many : Cond.selects RX9 yX9_many yX9_many ∈ dw_TB := dw_mem (i := 634) (by decide +kernel) (by decide +kernel)
theorem tw_kX9_many : Cond.code yX9_many cX9_many 2 (some .int) ∈ dw_TB := dw_mem (i := 635) (by decide +kernel) (by decide +kernel)
theorem tw_lX9_259 : Cond.methodLink RX9 259 yX6_countUnreached ∈ dw_TB := dw_mem (i := 636) (by decide +kernel) (by decide +kernel)
theorem tw_vX6_countUnreached : Cond.instanceMethod yX6_countUnreached ∈ dw_TB := dw_mem (i := 637) (by decide +kernel) (by decide +kernel)
theorem tw_eX6_countUnreached : Cond.selects RX6 yX6_countUnreached yX6_countUnreached ∈ dw_TB := dw_mem (i := 638) (by decide +kernel) (by decide +kernel)
theorem tw_kX6_countUnreached : Cond.code yX6_countUnreached cX6_countUnreached 3 (some .int) ∈ dw_TB := dw_mem (i := 639) (by decide +kernel) (by decide +kernel)
theorem tw_lX6_97 : Cond.methodLink RX6 97 yX6_isReached ∈ dw_TB := dw_mem (i := 640) (by decide +kernel) (by decide +kernel)
theorem tw_lX9_263 : Cond.methodLink RX9 263 yX2_size ∈ dw_TB := dw_mem (i := 641) (by decide +kernel) (by decide +kernel)
theorem tw_vX2_size : Cond.instanceMethod yX2_size ∈ dw_TB := dw_mem (i := 642) (by decide +kernel) (by decide +kernel)
theorem tw_eX2_size : Cond.selects RX2 yX2_size yX2_size ∈ dw_TB := dw_mem (i := 643) (by decide +kernel) (by decide +kernel)
theorem tw_kX2_size : Cond.code yX2_size cX2_size 1 (some .int) ∈ dw_TB := dw_mem (i := 644) (by decide +kernel) (by decide +kernel)
theorem tw_lX2_17 : Cond.methodLink RX2 17 yJ13_bitCount_95d88 ∈ dw_TB := dw_mem (i := 645) (by decide +kernel) (by decide +kernel)
theorem tw_sJ13_bitCount_95d88 : Cond.static yJ13_bitCount_95d88 ∈ dw_TB := dw_mem (i := 646) (by decide +kernel) (by decide +kernel)
theorem tw_kJ13_bitCount_95d88 : Cond.code yJ13_bitCount_95d88 cJ13_bitCount_95d88 2 (some .int) ∈ dw_TB := dw_mem (i := 647) (by decide +kernel) (by decide +kernel)
theorem tw_lL_91 : Cond.methodLink RL 91 yX9_dry ∈ dw_TB := dw_mem (i := 651) (by decide +kernel) (by decide +kernel)
theorem tw_vX9_dry : Cond.instanceMethod yX9_dry ∈ dw_TB := dw_mem (i := 652) (by decide +kernel) (by decide +kernel)
theorem tw_eX9_dry : Cond.selects RX9 yX9_dry yX9_dry ∈ dw_TB := dw_mem (i := 653) (by decide +kernel) (by decide +kernel)
theorem tw_kX9_dry : Cond.code yX9_dry cX9_dry 4 (some .int) ∈ dw_TB := dw_mem (i := 654) (by decide +kernel) (by decide +kernel)
theorem tw_lL_95 : Cond.methodLink RL 95 yX9_mark ∈ dw_TB := dw_mem (i := 655) (by decide +kernel) (by decide +kernel)
theorem tw_vX9_mark : Cond.instanceMethod yX9_mark ∈ dw_TB := dw_mem (i := 656) (by decide +kernel) (by decide +kernel)
theorem tw_eX9_mark : Cond.selects RX9 yX9_mark yX9_mark ∈ dw_TB := dw_mem (i := 657) (by decide +kernel) (by decide +kernel)
theorem tw_kX9_mark : Cond.code yX9_mark cX9_mark 3 (some .int) ∈ dw_TB := dw_mem (i := 658) (by decide +kernel) (by decide +kernel)
theorem tw_lL_99 : Cond.methodLink RL 99 yX9_tree ∈ dw_TB := dw_mem (i := 659) (by decide +kernel) (by decide +kernel)
theorem tw_vX9_tree : Cond.instanceMethod yX9_tree ∈ dw_TB := dw_mem (i := 660) (by decide +kernel) (by decide +kernel)
theorem tw_eX9_tree : Cond.selects RX9 yX9_tree yX9_tree ∈ dw_TB := dw_mem (i := 661) (by decide +kernel) (by decide +kernel)
theorem tw_kX9_tree : Cond.code yX9_tree cX9_tree 1 (some .int) ∈ dw_TB := dw_mem (i := 662) (by decide +kernel) (by decide +kernel)
theorem tw_lX9_266 : Cond.methodLink RX9 266 yX7_grow ∈ dw_TB := dw_mem (i := 663) (by decide +kernel) (by decide +kernel)
theorem tw_vX7_grow : Cond.instanceMethod yX7_grow ∈ dw_TB := dw_mem (i := 664) (by decide +kernel) (by decide +kernel)
theorem tw_eX7_grow : Cond.selects RX7 yX7_grow yX7_grow ∈ dw_TB := dw_mem (i := 665) (by decide +kernel) (by decide +kernel)
theorem tw_kX7_grow : Cond.code yX7_grow cX7_grow 4 none ∈ dw_TB := dw_mem (i := 666) (by decide +kernel) (by decide +kernel)
theorem tw_lX7_25 : Cond.methodLink RX7 25 yX2_size ∈ dw_TB := dw_mem (i := 667) (by decide +kernel) (by decide +kernel)
theorem tw_lX7_31 : Cond.methodLink RX7 31 yX7_findLeast ∈ dw_TB := dw_mem (i := 668) (by decide +kernel) (by decide +kernel)
theorem tw_vX7_findLeast : Cond.instanceMethod yX7_findLeast ∈ dw_TB := dw_mem (i := 670) (by decide +kernel) (by decide +kernel)
theorem tw_kX7_findLeast : Cond.code yX7_findLeast cX7_findLeast 5 none ∈ dw_TB := dw_mem (i := 671) (by decide +kernel) (by decide +kernel)
theorem tw_lX7_49 : Cond.methodLink RX7 49 yX2_has ∈ dw_TB := dw_mem (i := 673) (by decide +kernel) (by decide +kernel)
theorem tw_lX7_53 : Cond.methodLink RX7 53 yX1_costBetween ∈ dw_TB := dw_mem (i := 674) (by decide +kernel) (by decide +kernel)
theorem tw_vX1_costBetween : Cond.instanceMethod yX1_costBetween ∈ dw_TB := dw_mem (i := 675) (by decide +kernel) (by decide +kernel)
theorem tw_eX1_costBetween : Cond.selects RX1 yX1_costBetween yX1_costBetween ∈ dw_TB := dw_mem (i := 676) (by decide +kernel) (by decide +kernel)
theorem tw_kX1_costBetween : Cond.code yX1_costBetween cX1_costBetween 3 (some .int) ∈ dw_TB := dw_mem (i := 677) (by decide +kernel) (by decide +kernel)
theorem tw_lX7_57 : Cond.methodLink RX7 57 yX7_offer ∈ dw_TB := dw_mem (i := 678) (by decide +kernel) (by decide +kernel)
theorem tw_vX7_offer : Cond.instanceMethod yX7_offer ∈ dw_TB := dw_mem (i := 680) (by decide +kernel) (by decide +kernel)
theorem tw_kX7_offer : Cond.code yX7_offer cX7_offer 4 none ∈ dw_TB := dw_mem (i := 681) (by decide +kernel) (by decide +kernel)
theorem tw_lX7_35 : Cond.methodLink RX7 35 yX7_take ∈ dw_TB := dw_mem (i := 682) (by decide +kernel) (by decide +kernel)
theorem tw_vX7_take : Cond.instanceMethod yX7_take ∈ dw_TB := dw_mem (i := 684) (by decide +kernel) (by decide +kernel)
theorem tw_kX7_take : Cond.code yX7_take cX7_take 4 none ∈ dw_TB := dw_mem (i := 685) (by decide +kernel) (by decide +kernel)
theorem tw_lL_104 : Cond.methodLink RL 104 yX9_pair ∈ dw_TB := dw_mem (i := 686) (by decide +kernel) (by decide +kernel)
theorem tw_vX9_pair : Cond.instanceMethod yX9_pair ∈ dw_TB := dw_mem (i := 687) (by decide +kernel) (by decide +kernel)
theorem tw_eX9_pair : Cond.selects RX9 yX9_pair yX9_pair ∈ dw_TB := dw_mem (i := 688) (by decide +kernel) (by decide +kernel)
theorem tw_kX9_pair : Cond.code yX9_pair cX9_pair 2 (some .int) ∈ dw_TB := dw_mem (i := 689) (by decide +kernel) (by decide +kernel)
theorem tw_lL_108 : Cond.methodLink RL 108 yX9_sight ∈ dw_TB := dw_mem (i := 690) (by decide +kernel) (by decide +kernel)
theorem tw_vX9_sight : Cond.instanceMethod yX9_sight ∈ dw_TB := dw_mem (i := 691) (by decide +kernel) (by decide +kernel)
theorem tw_eX9_sight : Cond.selects RX9 yX9_sight yX9_sight ∈ dw_TB := dw_mem (i := 692) (by decide +kernel) (by decide +kernel)
theorem tw_kX9_sight : Cond.code yX9_sight cX9_sight 3 (some .int) ∈ dw_TB := dw_mem (i := 693) (by decide +kernel) (by decide +kernel)
theorem tw_lL_112 : Cond.methodLink RL 112 yX9_see ∈ dw_TB := dw_mem (i := 694) (by decide +kernel) (by decide +kernel)
theorem tw_vX9_see : Cond.instanceMethod yX9_see ∈ dw_TB := dw_mem (i := 695) (by decide +kernel) (by decide +kernel)
theorem tw_eX9_see : Cond.selects RX9 yX9_see yX9_see ∈ dw_TB := dw_mem (i := 696) (by decide +kernel) (by decide +kernel)
theorem tw_kX9_see : Cond.code yX9_see cX9_see 1 (some .int) ∈ dw_TB := dw_mem (i := 697) (by decide +kernel) (by decide +kernel)
theorem tw_lX9_277 : Cond.methodLink RX9 277 yX8_putStanding ∈ dw_TB := dw_mem (i := 698) (by decide +kernel) (by decide +kernel)
theorem tw_vX8_putStanding : Cond.instanceMethod yX8_putStanding ∈ dw_TB := dw_mem (i := 699) (by decide +kernel) (by decide +kernel)
theorem tw_eX8_putStanding : Cond.selects RX8 yX8_putStanding yX8_putStanding ∈ dw_TB := dw_mem (i := 700) (by decide +kernel) (by decide +kernel)
theorem tw_kX8_putStanding : Cond.code yX8_putStanding cX8_putStanding 3 none ∈ dw_TB := dw_mem (i := 701) (by decide +kernel) (by decide +kernel)
theorem tw_lX8_59 : Cond.methodLink RX8 59 yX2_put ∈ dw_TB := dw_mem (i := 702) (by decide +kernel) (by decide +kernel)
theorem tw_lL_116 : Cond.methodLink RL 116 yX9_where ∈ dw_TB := dw_mem (i := 703) (by decide +kernel) (by decide +kernel)
theorem tw_vX9_where : Cond.instanceMethod yX9_where ∈ dw_TB := dw_mem (i := 704) (by decide +kernel) (by decide +kernel)
theorem tw_eX9_where : Cond.selects RX9 yX9_where yX9_where ∈ dw_TB := dw_mem (i := 705) (by decide +kernel) (by decide +kernel)
theorem tw_kX9_where : Cond.code yX9_where cX9_where 5 (some .int) ∈ dw_TB := dw_mem (i := 706) (by decide +kernel) (by decide +kernel)
theorem tw_lX9_281 : Cond.methodLink RX9 281 yX9_fits ∈ dw_TB := dw_mem (i := 707) (by decide +kernel) (by decide +kernel)
theorem tw_vX9_fits : Cond.instanceMethod yX9_fits ∈ dw_TB := dw_mem (i := 709) (by decide +kernel) (by decide +kernel)
theorem tw_kX9_fits : Cond.code yX9_fits cX9_fits 5 (some .boolean) ∈ dw_TB := dw_mem (i := 710) (by decide +kernel) (by decide +kernel)
theorem tw_lX9_293 : Cond.methodLink RX9 293 yX8_copyFrom ∈ dw_TB := dw_mem (i := 711) (by decide +kernel) (by decide +kernel)
theorem tw_vX8_copyFrom : Cond.instanceMethod yX8_copyFrom ∈ dw_TB := dw_mem (i := 712) (by decide +kernel) (by decide +kernel)
theorem tw_eX8_copyFrom : Cond.selects RX8 yX8_copyFrom yX8_copyFrom ∈ dw_TB := dw_mem (i := 713) (by decide +kernel) (by decide +kernel)
theorem tw_kX8_copyFrom : Cond.code yX8_copyFrom cX8_copyFrom 2 none ∈ dw_TB := dw_mem (i := 714) (by decide +kernel) (by decide +kernel)
theorem tw_sX9_copy : Cond.static yX9_copy ∈ dw_TB := dw_mem (i := 716) (by decide +kernel) (by decide +kernel)
theorem tw_kX9_copy : Cond.code yX9_copy cX9_copy 4 none ∈ dw_TB := dw_mem (i := 717) (by decide +kernel) (by decide +kernel)
theorem tw_lX9_304 : Cond.methodLink RX9 304 yJ9_min_7cf53 ∈ dw_TB := dw_mem (i := 718) (by decide +kernel) (by decide +kernel)
theorem tw_lX8_55 : Cond.methodLink RX8 55 yX2_copyFrom ∈ dw_TB := dw_mem (i := 719) (by decide +kernel) (by decide +kernel)
theorem tw_vX2_copyFrom : Cond.instanceMethod yX2_copyFrom ∈ dw_TB := dw_mem (i := 720) (by decide +kernel) (by decide +kernel)
theorem tw_eX2_copyFrom : Cond.selects RX2 yX2_copyFrom yX2_copyFrom ∈ dw_TB := dw_mem (i := 721) (by decide +kernel) (by decide +kernel)
theorem tw_kX2_copyFrom : Cond.code yX2_copyFrom cX2_copyFrom 2 none ∈ dw_TB := dw_mem (i := 722) (by decide +kernel) (by decide +kernel)
theorem tw_lX9_297 : Cond.methodLink RX9 297 yX8_isStandingJustOn ∈ dw_TB := dw_mem (i := 723) (by decide +kernel) (by decide +kernel)
theorem tw_vX8_isStandingJustOn : Cond.instanceMethod yX8_isStandingJustOn ∈ dw_TB := dw_mem (i := 724) (by decide +kernel) (by decide +kernel)
theorem tw_eX8_isStandingJustOn : Cond.selects RX8 yX8_isStandingJustOn yX8_isStandingJustOn ∈ dw_TB := dw_mem (i := 725) (by decide +kernel) (by decide +kernel)
theorem tw_kX8_isStandingJustOn : Cond.code yX8_isStandingJustOn cX8_isStandingJustOn 3 (some .boolean) ∈ dw_TB := dw_mem (i := 726) (by decide +kernel) (by decide +kernel)
theorem tw_lX8_63 : Cond.methodLink RX8 63 yX2_has ∈ dw_TB := dw_mem (i := 727) (by decide +kernel) (by decide +kernel)
theorem tw_lX9_284 : Cond.methodLink RX9 284 yX9_fitsAlone ∈ dw_TB := dw_mem (i := 728) (by decide +kernel) (by decide +kernel)
theorem tw_vX9_fitsAlone : Cond.instanceMethod yX9_fitsAlone ∈ dw_TB := dw_mem (i := 730) (by decide +kernel) (by decide +kernel)
theorem tw_kX9_fitsAlone : Cond.code yX9_fitsAlone cX9_fitsAlone 3 (some .boolean) ∈ dw_TB := dw_mem (i := 731) (by decide +kernel) (by decide +kernel)
theorem tw_lX9_287 : Cond.methodLink RX9 287 yX9_pairWhere ∈ dw_TB := dw_mem (i := 732) (by decide +kernel) (by decide +kernel)
theorem tw_vX9_pairWhere : Cond.instanceMethod yX9_pairWhere ∈ dw_TB := dw_mem (i := 734) (by decide +kernel) (by decide +kernel)
theorem tw_kX9_pairWhere : Cond.code yX9_pairWhere cX9_pairWhere 6 (some .int) ∈ dw_TB := dw_mem (i := 735) (by decide +kernel) (by decide +kernel)
theorem tw_lX9_290 : Cond.methodLink RX9 290 yX9_fitsTogether ∈ dw_TB := dw_mem (i := 736) (by decide +kernel) (by decide +kernel)
theorem tw_vX9_fitsTogether : Cond.instanceMethod yX9_fitsTogether ∈ dw_TB := dw_mem (i := 738) (by decide +kernel) (by decide +kernel)
theorem tw_kX9_fitsTogether : Cond.code yX9_fitsTogether cX9_fitsTogether 4 (some .boolean) ∈ dw_TB := dw_mem (i := 739) (by decide +kernel) (by decide +kernel)
theorem tw_lL_120 : Cond.methodLink RL 120 yX9_keep ∈ dw_TB := dw_mem (i := 740) (by decide +kernel) (by decide +kernel)
theorem tw_vX9_keep : Cond.instanceMethod yX9_keep ∈ dw_TB := dw_mem (i := 741) (by decide +kernel) (by decide +kernel)
theorem tw_eX9_keep : Cond.selects RX9 yX9_keep yX9_keep ∈ dw_TB := dw_mem (i := 742) (by decide +kernel) (by decide +kernel)
theorem tw_kX9_keep : Cond.code yX9_keep cX9_keep 1 (some .int) ∈ dw_TB := dw_mem (i := 743) (by decide +kernel) (by decide +kernel)
theorem tw_lX9_301 : Cond.methodLink RX9 301 yX6_copyFrom ∈ dw_TB := dw_mem (i := 744) (by decide +kernel) (by decide +kernel)
theorem tw_vX6_copyFrom : Cond.instanceMethod yX6_copyFrom ∈ dw_TB := dw_mem (i := 745) (by decide +kernel) (by decide +kernel)
theorem tw_eX6_copyFrom : Cond.selects RX6 yX6_copyFrom yX6_copyFrom ∈ dw_TB := dw_mem (i := 746) (by decide +kernel) (by decide +kernel)
theorem tw_kX6_copyFrom : Cond.code yX6_copyFrom cX6_copyFrom 2 none ∈ dw_TB := dw_mem (i := 747) (by decide +kernel) (by decide +kernel)
theorem tw_lX6_53 : Cond.methodLink RX6 53 yX1_copyFrom ∈ dw_TB := dw_mem (i := 748) (by decide +kernel) (by decide +kernel)
theorem tw_vX1_copyFrom : Cond.instanceMethod yX1_copyFrom ∈ dw_TB := dw_mem (i := 749) (by decide +kernel) (by decide +kernel)
theorem tw_eX1_copyFrom : Cond.selects RX1 yX1_copyFrom yX1_copyFrom ∈ dw_TB := dw_mem (i := 750) (by decide +kernel) (by decide +kernel)
theorem tw_kX1_copyFrom : Cond.code yX1_copyFrom cX1_copyFrom 2 none ∈ dw_TB := dw_mem (i := 751) (by decide +kernel) (by decide +kernel)
theorem tw_lX6_57 : Cond.methodLink RX6 57 yX3_copyFrom ∈ dw_TB := dw_mem (i := 753) (by decide +kernel) (by decide +kernel)
theorem tw_lX6_60 : Cond.methodLink RX6 60 yX4_copyFrom ∈ dw_TB := dw_mem (i := 754) (by decide +kernel) (by decide +kernel)
theorem tw_vX4_copyFrom : Cond.instanceMethod yX4_copyFrom ∈ dw_TB := dw_mem (i := 755) (by decide +kernel) (by decide +kernel)
theorem tw_eX4_copyFrom : Cond.selects RX4 yX4_copyFrom yX4_copyFrom ∈ dw_TB := dw_mem (i := 756) (by decide +kernel) (by decide +kernel)
theorem tw_kX4_copyFrom : Cond.code yX4_copyFrom cX4_copyFrom 3 none ∈ dw_TB := dw_mem (i := 757) (by decide +kernel) (by decide +kernel)
theorem tw_lX4_22 : Cond.methodLink RX4 22 yX5_copyFrom ∈ dw_TB := dw_mem (i := 758) (by decide +kernel) (by decide +kernel)
theorem tw_vX5_copyFrom : Cond.instanceMethod yX5_copyFrom ∈ dw_TB := dw_mem (i := 759) (by decide +kernel) (by decide +kernel)
theorem tw_eX5_copyFrom : Cond.selects RX5 yX5_copyFrom yX5_copyFrom ∈ dw_TB := dw_mem (i := 760) (by decide +kernel) (by decide +kernel)
theorem tw_kX5_copyFrom : Cond.code yX5_copyFrom cX5_copyFrom 2 none ∈ dw_TB := dw_mem (i := 761) (by decide +kernel) (by decide +kernel)
theorem tw_lX6_63 : Cond.methodLink RX6 63 yX8_copyFrom ∈ dw_TB := dw_mem (i := 762) (by decide +kernel) (by decide +kernel)
theorem tw_lX6_70 : Cond.methodLink RX6 70 yX2_copyFrom ∈ dw_TB := dw_mem (i := 764) (by decide +kernel) (by decide +kernel)
theorem tw_lL_124 : Cond.methodLink RL 124 yX9_back ∈ dw_TB := dw_mem (i := 765) (by decide +kernel) (by decide +kernel)
theorem tw_vX9_back : Cond.instanceMethod yX9_back ∈ dw_TB := dw_mem (i := 766) (by decide +kernel) (by decide +kernel)
theorem tw_eX9_back : Cond.selects RX9 yX9_back yX9_back ∈ dw_TB := dw_mem (i := 767) (by decide +kernel) (by decide +kernel)
theorem tw_kX9_back : Cond.code yX9_back cX9_back 1 (some .int) ∈ dw_TB := dw_mem (i := 768) (by decide +kernel) (by decide +kernel)
theorem tw_cL_10 : Cond.classLink RL 10 RX10 ∈ dw_TB := dw_mem (i := 769) (by decide +kernel) (by decide +kernel)
theorem tw_nX10 : Cond.instantiable RX10 7 ∈ dw_TB := dw_mem (i := 770) (by decide +kernel) (by decide +kernel)
theorem tw_lL_12 : Cond.methodLink RL 12 yX10_init ∈ dw_TB := dw_mem (i := 771) (by decide +kernel) (by decide +kernel)
theorem tw_vX10_init : Cond.instanceMethod yX10_init ∈ dw_TB := dw_mem (i := 772) (by decide +kernel) (by decide +kernel)
theorem tw_kX10_init : Cond.code yX10_init cX10_init 1 none ∈ dw_TB := dw_mem (i := 773) (by decide +kernel) (by decide +kernel)
theorem tw_lX10_1 : Cond.methodLink RX10 1 objectInit ∈ dw_TB := dw_mem (i := 774) (by decide +kernel) (by decide +kernel)
theorem tw_fX10_7 : Cond.fieldLink RX10 7 "DrainOfficeModel" "now" "[I" ∈ dw_TB := dw_mem (i := 775) (by decide +kernel) (by decide +kernel)
theorem tw_fX10_13 : Cond.fieldLink RX10 13 "DrainOfficeModel" "kept" "[I" ∈ dw_TB := dw_mem (i := 776) (by decide +kernel) (by decide +kernel)
theorem tw_fX10_16 : Cond.fieldLink RX10 16 "DrainOfficeModel" "tried" "[I" ∈ dw_TB := dw_mem (i := 777) (by decide +kernel) (by decide +kernel)
theorem tw_fX10_141 : Cond.fieldLink RX10 141 "DrainOfficeModel" "isKept" "Z" ∈ dw_TB := dw_mem (i := 778) (by decide +kernel) (by decide +kernel)
theorem tw_fX10_19 : Cond.fieldLink RX10 19 "DrainOfficeModel" "heaps" "[I" ∈ dw_TB := dw_mem (i := 779) (by decide +kernel) (by decide +kernel)
theorem tw_fX10_22 : Cond.fieldLink RX10 22 "DrainOfficeModel" "pairs" "[I" ∈ dw_TB := dw_mem (i := 780) (by decide +kernel) (by decide +kernel)
theorem tw_fX10_123 : Cond.fieldLink RX10 123 "DrainOfficeModel" "pairMany" "I" ∈ dw_TB := dw_mem (i := 781) (by decide +kernel) (by decide +kernel)
theorem tw_lL_17 : Cond.methodLink RL 17 yX10_land ∈ dw_TB := dw_mem (i := 797) (by decide +kernel) (by decide +kernel)
theorem tw_vX10_land : Cond.instanceMethod yX10_land ∈ dw_TB := dw_mem (i := 798) (by decide +kernel) (by decide +kernel)
theorem tw_eX10_land : Cond.selects RX10 yX10_land yX10_land ∈ dw_TB := dw_mem (i := 799) (by decide +kernel) (by decide +kernel)
theorem tw_kX10_land : Cond.code yX10_land cX10_land 4 (some .int) ∈ dw_TB := dw_mem (i := 800) (by decide +kernel) (by decide +kernel)
theorem tw_lX10_29 : Cond.methodLink RX10 29 yX10_in ∈ dw_TB := dw_mem (i := 801) (by decide +kernel) (by decide +kernel)
theorem tw_sX10_in : Cond.static yX10_in ∈ dw_TB := dw_mem (i := 802) (by decide +kernel) (by decide +kernel)
theorem tw_kX10_in : Cond.code yX10_in cX10_in 3 (some .boolean) ∈ dw_TB := dw_mem (i := 803) (by decide +kernel) (by decide +kernel)
theorem tw_lL_21 : Cond.methodLink RL 21 yX10_height ∈ dw_TB := dw_mem (i := 804) (by decide +kernel) (by decide +kernel)
theorem tw_vX10_height : Cond.instanceMethod yX10_height ∈ dw_TB := dw_mem (i := 805) (by decide +kernel) (by decide +kernel)
theorem tw_eX10_height : Cond.selects RX10 yX10_height yX10_height ∈ dw_TB := dw_mem (i := 806) (by decide +kernel) (by decide +kernel)
theorem tw_kX10_height : Cond.code yX10_height cX10_height 3 (some .int) ∈ dw_TB := dw_mem (i := 807) (by decide +kernel) (by decide +kernel)
theorem tw_lX10_33 : Cond.methodLink RX10 33 yX10_isPlace ∈ dw_TB := dw_mem (i := 808) (by decide +kernel) (by decide +kernel)
theorem tw_vX10_isPlace : Cond.instanceMethod yX10_isPlace ∈ dw_TB := dw_mem (i := 810) (by decide +kernel) (by decide +kernel)
theorem tw_kX10_isPlace : Cond.code yX10_isPlace cX10_isPlace 2 (some .boolean) ∈ dw_TB := dw_mem (i := 811) (by decide +kernel) (by decide +kernel)
theorem tw_lX10_25 : Cond.methodLink RX10 25 yX10_places ∈ dw_TB := dw_mem (i := 812) (by decide +kernel) (by decide +kernel)
theorem tw_vX10_places : Cond.instanceMethod yX10_places ∈ dw_TB := dw_mem (i := 814) (by decide +kernel) (by decide +kernel)
theorem tw_kX10_places : Cond.code yX10_places cX10_places 1 (some .int) ∈ dw_TB := dw_mem (i := 815) (by decide +kernel) (by decide +kernel)
theorem tw_lL_25 : Cond.methodLink RL 25 yX10_soil ∈ dw_TB := dw_mem (i := 816) (by decide +kernel) (by decide +kernel)
theorem tw_vX10_soil : Cond.instanceMethod yX10_soil ∈ dw_TB := dw_mem (i := 817) (by decide +kernel) (by decide +kernel)
theorem tw_eX10_soil : Cond.selects RX10 yX10_soil yX10_soil ∈ dw_TB := dw_mem (i := 818) (by decide +kernel) (by decide +kernel)
theorem tw_kX10_soil : Cond.code yX10_soil cX10_soil 3 (some .int) ∈ dw_TB := dw_mem (i := 819) (by decide +kernel) (by decide +kernel)
theorem tw_lL_30 : Cond.methodLink RL 30 yX10_soils ∈ dw_TB := dw_mem (i := 820) (by decide +kernel) (by decide +kernel)
theorem tw_vX10_soils : Cond.instanceMethod yX10_soils ∈ dw_TB := dw_mem (i := 821) (by decide +kernel) (by decide +kernel)
theorem tw_eX10_soils : Cond.selects RX10 yX10_soils yX10_soils ∈ dw_TB := dw_mem (i := 822) (by decide +kernel) (by decide +kernel)
theorem tw_kX10_soils : Cond.code yX10_soils cX10_soils 6 (some .int) ∈ dw_TB := dw_mem (i := 823) (by decide +kernel) (by decide +kernel)
theorem tw_lL_34 : Cond.methodLink RL 34 yX10_ditch ∈ dw_TB := dw_mem (i := 824) (by decide +kernel) (by decide +kernel)
theorem tw_vX10_ditch : Cond.instanceMethod yX10_ditch ∈ dw_TB := dw_mem (i := 825) (by decide +kernel) (by decide +kernel)
theorem tw_eX10_ditch : Cond.selects RX10 yX10_ditch yX10_ditch ∈ dw_TB := dw_mem (i := 826) (by decide +kernel) (by decide +kernel)
theorem tw_kX10_ditch : Cond.code yX10_ditch cX10_ditch 3 (some .int) ∈ dw_TB := dw_mem (i := 827) (by decide +kernel) (by decide +kernel)
theorem tw_lL_39 : Cond.methodLink RL 39 yX10_trench ∈ dw_TB := dw_mem (i := 828) (by decide +kernel) (by decide +kernel)
theorem tw_vX10_trench : Cond.instanceMethod yX10_trench ∈ dw_TB := dw_mem (i := 829) (by decide +kernel) (by decide +kernel)
theorem tw_eX10_trench : Cond.selects RX10 yX10_trench yX10_trench ∈ dw_TB := dw_mem (i := 830) (by decide +kernel) (by decide +kernel)
theorem tw_kX10_trench : Cond.code yX10_trench cX10_trench 6 (some .int) ∈ dw_TB := dw_mem (i := 831) (by decide +kernel) (by decide +kernel)
theorem tw_lX10_37 : Cond.methodLink RX10 37 yX10_rowOf ∈ dw_TB := dw_mem (i := 832) (by decide +kernel) (by decide +kernel)
theorem tw_vX10_rowOf : Cond.instanceMethod yX10_rowOf ∈ dw_TB := dw_mem (i := 834) (by decide +kernel) (by decide +kernel)
theorem tw_kX10_rowOf : Cond.code yX10_rowOf cX10_rowOf 2 (some .int) ∈ dw_TB := dw_mem (i := 835) (by decide +kernel) (by decide +kernel)
theorem tw_lX10_41 : Cond.methodLink RX10 41 yX10_columnOf ∈ dw_TB := dw_mem (i := 836) (by decide +kernel) (by decide +kernel)
theorem tw_vX10_columnOf : Cond.instanceMethod yX10_columnOf ∈ dw_TB := dw_mem (i := 838) (by decide +kernel) (by decide +kernel)
theorem tw_kX10_columnOf : Cond.code yX10_columnOf cX10_columnOf 2 (some .int) ∈ dw_TB := dw_mem (i := 839) (by decide +kernel) (by decide +kernel)
theorem tw_lX10_44 : Cond.methodLink RX10 44 yX10_size ∈ dw_TB := dw_mem (i := 840) (by decide +kernel) (by decide +kernel)
theorem tw_sX10_size : Cond.static yX10_size ∈ dw_TB := dw_mem (i := 841) (by decide +kernel) (by decide +kernel)
theorem tw_kX10_size : Cond.code yX10_size cX10_size 1 (some .int) ∈ dw_TB := dw_mem (i := 842) (by decide +kernel) (by decide +kernel)
theorem tw_lL_44 : Cond.methodLink RL 44 yX10_pipe ∈ dw_TB := dw_mem (i := 843) (by decide +kernel) (by decide +kernel)
theorem tw_vX10_pipe : Cond.instanceMethod yX10_pipe ∈ dw_TB := dw_mem (i := 844) (by decide +kernel) (by decide +kernel)
theorem tw_eX10_pipe : Cond.selects RX10 yX10_pipe yX10_pipe ∈ dw_TB := dw_mem (i := 845) (by decide +kernel) (by decide +kernel)
theorem tw_kX10_pipe : Cond.code yX10_pipe cX10_pipe 7 (some .int) ∈ dw_TB := dw_mem (i := 846) (by decide +kernel) (by decide +kernel)
theorem tw_lX10_47 : Cond.methodLink RX10 47 yX10_placeAt ∈ dw_TB := dw_mem (i := 847) (by decide +kernel) (by decide +kernel)
theorem tw_vX10_placeAt : Cond.instanceMethod yX10_placeAt ∈ dw_TB := dw_mem (i := 849) (by decide +kernel) (by decide +kernel)
theorem tw_kX10_placeAt : Cond.code yX10_placeAt cX10_placeAt 5 (some .int) ∈ dw_TB := dw_mem (i := 850) (by decide +kernel) (by decide +kernel)
theorem tw_lX10_51 : Cond.methodLink RX10 51 yX10_setPipe ∈ dw_TB := dw_mem (i := 851) (by decide +kernel) (by decide +kernel)
theorem tw_vX10_setPipe : Cond.instanceMethod yX10_setPipe ∈ dw_TB := dw_mem (i := 853) (by decide +kernel) (by decide +kernel)
theorem tw_kX10_setPipe : Cond.code yX10_setPipe cX10_setPipe 4 none ∈ dw_TB := dw_mem (i := 854) (by decide +kernel) (by decide +kernel)
theorem tw_lL_48 : Cond.methodLink RL 48 yX10_join ∈ dw_TB := dw_mem (i := 855) (by decide +kernel) (by decide +kernel)
theorem tw_vX10_join : Cond.instanceMethod yX10_join ∈ dw_TB := dw_mem (i := 856) (by decide +kernel) (by decide +kernel)
theorem tw_eX10_join : Cond.selects RX10 yX10_join yX10_join ∈ dw_TB := dw_mem (i := 857) (by decide +kernel) (by decide +kernel)
theorem tw_kX10_join : Cond.code yX10_join cX10_join 6 (some .int) ∈ dw_TB := dw_mem (i := 858) (by decide +kernel) (by decide +kernel)
theorem tw_lX10_62 : Cond.methodLink RX10 62 yX10_isPipe ∈ dw_TB := dw_mem (i := 859) (by decide +kernel) (by decide +kernel)
theorem tw_vX10_isPipe : Cond.instanceMethod yX10_isPipe ∈ dw_TB := dw_mem (i := 861) (by decide +kernel) (by decide +kernel)
theorem tw_kX10_isPipe : Cond.code yX10_isPipe cX10_isPipe 2 (some .boolean) ∈ dw_TB := dw_mem (i := 862) (by decide +kernel) (by decide +kernel)
theorem tw_lX10_55 : Cond.methodLink RX10 55 yX10_pipeOf ∈ dw_TB := dw_mem (i := 863) (by decide +kernel) (by decide +kernel)
theorem tw_vX10_pipeOf : Cond.instanceMethod yX10_pipeOf ∈ dw_TB := dw_mem (i := 865) (by decide +kernel) (by decide +kernel)
theorem tw_kX10_pipeOf : Cond.code yX10_pipeOf cX10_pipeOf 3 (some .int) ∈ dw_TB := dw_mem (i := 866) (by decide +kernel) (by decide +kernel)
theorem tw_lX10_59 : Cond.methodLink RX10 59 yX10_stepPlace ∈ dw_TB := dw_mem (i := 867) (by decide +kernel) (by decide +kernel)
theorem tw_vX10_stepPlace : Cond.instanceMethod yX10_stepPlace ∈ dw_TB := dw_mem (i := 869) (by decide +kernel) (by decide +kernel)
theorem tw_kX10_stepPlace : Cond.code yX10_stepPlace cX10_stepPlace 3 (some .int) ∈ dw_TB := dw_mem (i := 870) (by decide +kernel) (by decide +kernel)
theorem tw_lX10_65 : Cond.methodLink RX10 65 yX10_stepOf ∈ dw_TB := dw_mem (i := 871) (by decide +kernel) (by decide +kernel)
theorem tw_vX10_stepOf : Cond.instanceMethod yX10_stepOf ∈ dw_TB := dw_mem (i := 873) (by decide +kernel) (by decide +kernel)
theorem tw_kX10_stepOf : Cond.code yX10_stepOf cX10_stepOf 5 (some .int) ∈ dw_TB := dw_mem (i := 874) (by decide +kernel) (by decide +kernel)
theorem tw_lX10_68 : Cond.methodLink RX10 68 yX10_levelAt ∈ dw_TB := dw_mem (i := 875) (by decide +kernel) (by decide +kernel)
theorem tw_vX10_levelAt : Cond.instanceMethod yX10_levelAt ∈ dw_TB := dw_mem (i := 877) (by decide +kernel) (by decide +kernel)
theorem tw_kX10_levelAt : Cond.code yX10_levelAt cX10_levelAt 3 (some .int) ∈ dw_TB := dw_mem (i := 878) (by decide +kernel) (by decide +kernel)
theorem tw_lX10_71 : Cond.methodLink RX10 71 yX10_rank ∈ dw_TB := dw_mem (i := 879) (by decide +kernel) (by decide +kernel)
theorem tw_vX10_rank : Cond.instanceMethod yX10_rank ∈ dw_TB := dw_mem (i := 881) (by decide +kernel) (by decide +kernel)
theorem tw_kX10_rank : Cond.code yX10_rank cX10_rank 4 (some .int) ∈ dw_TB := dw_mem (i := 882) (by decide +kernel) (by decide +kernel)
theorem tw_lL_52 : Cond.methodLink RL 52 yX10_open ∈ dw_TB := dw_mem (i := 883) (by decide +kernel) (by decide +kernel)
theorem tw_vX10_open : Cond.instanceMethod yX10_open ∈ dw_TB := dw_mem (i := 884) (by decide +kernel) (by decide +kernel)
theorem tw_eX10_open : Cond.selects RX10 yX10_open yX10_open ∈ dw_TB := dw_mem (i := 885) (by decide +kernel) (by decide +kernel)
theorem tw_kX10_open : Cond.code yX10_open cX10_open 3 (some .int) ∈ dw_TB := dw_mem (i := 886) (by decide +kernel) (by decide +kernel)
theorem tw_lL_57 : Cond.methodLink RL 57 yX10_part ∈ dw_TB := dw_mem (i := 887) (by decide +kernel) (by decide +kernel)
theorem tw_vX10_part : Cond.instanceMethod yX10_part ∈ dw_TB := dw_mem (i := 888) (by decide +kernel) (by decide +kernel)
theorem tw_eX10_part : Cond.selects RX10 yX10_part yX10_part ∈ dw_TB := dw_mem (i := 889) (by decide +kernel) (by decide +kernel)
theorem tw_kX10_part : Cond.code yX10_part cX10_part 3 (some .int) ∈ dw_TB := dw_mem (i := 890) (by decide +kernel) (by decide +kernel)
theorem tw_lL_62 : Cond.methodLink RL 62 yX10_block ∈ dw_TB := dw_mem (i := 891) (by decide +kernel) (by decide +kernel)
theorem tw_vX10_block : Cond.instanceMethod yX10_block ∈ dw_TB := dw_mem (i := 892) (by decide +kernel) (by decide +kernel)
theorem tw_eX10_block : Cond.selects RX10 yX10_block yX10_block ∈ dw_TB := dw_mem (i := 893) (by decide +kernel) (by decide +kernel)
theorem tw_kX10_block : Cond.code yX10_block cX10_block 4 (some .int) ∈ dw_TB := dw_mem (i := 894) (by decide +kernel) (by decide +kernel)
theorem tw_lL_66 : Cond.methodLink RL 66 yX10_of ∈ dw_TB := dw_mem (i := 895) (by decide +kernel) (by decide +kernel)
theorem tw_vX10_of : Cond.instanceMethod yX10_of ∈ dw_TB := dw_mem (i := 896) (by decide +kernel) (by decide +kernel)
theorem tw_eX10_of : Cond.selects RX10 yX10_of yX10_of ∈ dw_TB := dw_mem (i := 897) (by decide +kernel) (by decide +kernel)
theorem tw_kX10_of : Cond.code yX10_of cX10_of 3 (some .int) ∈ dw_TB := dw_mem (i := 898) (by decide +kernel) (by decide +kernel)
theorem tw_lX10_74 : Cond.methodLink RX10 74 yX10_bears ∈ dw_TB := dw_mem (i := 899) (by decide +kernel) (by decide +kernel)
theorem tw_vX10_bears : Cond.instanceMethod yX10_bears ∈ dw_TB := dw_mem (i := 901) (by decide +kernel) (by decide +kernel)
theorem tw_kX10_bears : Cond.code yX10_bears cX10_bears 2 (some .int) ∈ dw_TB := dw_mem (i := 902) (by decide +kernel) (by decide +kernel)
theorem tw_lX10_80 : Cond.methodLink RX10 80 yX10_holds ∈ dw_TB := dw_mem (i := 903) (by decide +kernel) (by decide +kernel)
theorem tw_vX10_holds : Cond.instanceMethod yX10_holds ∈ dw_TB := dw_mem (i := 905) (by decide +kernel) (by decide +kernel)
theorem tw_kX10_holds : Cond.code yX10_holds cX10_holds 2 (some .int) ∈ dw_TB := dw_mem (i := 906) (by decide +kernel) (by decide +kernel)
theorem tw_lX10_83 : Cond.methodLink RX10 83 yX10_peak ∈ dw_TB := dw_mem (i := 907) (by decide +kernel) (by decide +kernel)
theorem tw_vX10_peak : Cond.instanceMethod yX10_peak ∈ dw_TB := dw_mem (i := 909) (by decide +kernel) (by decide +kernel)
theorem tw_kX10_peak : Cond.code yX10_peak cX10_peak 4 (some .int) ∈ dw_TB := dw_mem (i := 910) (by decide +kernel) (by decide +kernel)
theorem tw_lX10_77 : Cond.methodLink RX10 77 yX10_lesser ∈ dw_TB := dw_mem (i := 911) (by decide +kernel) (by decide +kernel)
theorem tw_sX10_lesser : Cond.static yX10_lesser ∈ dw_TB := dw_mem (i := 912) (by decide +kernel) (by decide +kernel)
theorem tw_kX10_lesser : Cond.code yX10_lesser cX10_lesser 2 (some .int) ∈ dw_TB := dw_mem (i := 913) (by decide +kernel) (by decide +kernel)
theorem tw_lL_70 : Cond.methodLink RL 70 yX10_step ∈ dw_TB := dw_mem (i := 914) (by decide +kernel) (by decide +kernel)
theorem tw_vX10_step : Cond.instanceMethod yX10_step ∈ dw_TB := dw_mem (i := 915) (by decide +kernel) (by decide +kernel)
theorem tw_eX10_step : Cond.selects RX10 yX10_step yX10_step ∈ dw_TB := dw_mem (i := 916) (by decide +kernel) (by decide +kernel)
theorem tw_kX10_step : Cond.code yX10_step cX10_step 5 (some .int) ∈ dw_TB := dw_mem (i := 917) (by decide +kernel) (by decide +kernel)
theorem tw_lL_74 : Cond.methodLink RL 74 yX10_rain ∈ dw_TB := dw_mem (i := 918) (by decide +kernel) (by decide +kernel)
theorem tw_vX10_rain : Cond.instanceMethod yX10_rain ∈ dw_TB := dw_mem (i := 919) (by decide +kernel) (by decide +kernel)
theorem tw_eX10_rain : Cond.selects RX10 yX10_rain yX10_rain ∈ dw_TB := dw_mem (i := 920) (by decide +kernel) (by decide +kernel)
theorem tw_kX10_rain : Cond.code yX10_rain cX10_rain 4 (some .int) ∈ dw_TB := dw_mem (i := 921) (by decide +kernel) (by decide +kernel)
theorem tw_lL_78 : Cond.methodLink RL 78 yX10_hours ∈ dw_TB := dw_mem (i := 922) (by decide +kernel) (by decide +kernel)
theorem tw_vX10_hours : Cond.instanceMethod yX10_hours ∈ dw_TB := dw_mem (i := 923) (by decide +kernel) (by decide +kernel)
theorem tw_eX10_hours : Cond.selects RX10 yX10_hours yX10_hours ∈ dw_TB := dw_mem (i := 924) (by decide +kernel) (by decide +kernel)
theorem tw_kX10_hours : Cond.code yX10_hours cX10_hours 4 (some .int) ∈ dw_TB := dw_mem (i := 925) (by decide +kernel) (by decide +kernel)
theorem tw_lX10_101 : Cond.methodLink RX10 101 yX10_hour ∈ dw_TB := dw_mem (i := 926) (by decide +kernel) (by decide +kernel)
theorem tw_vX10_hour : Cond.instanceMethod yX10_hour ∈ dw_TB := dw_mem (i := 928) (by decide +kernel) (by decide +kernel)
theorem tw_kX10_hour : Cond.code yX10_hour cX10_hour 4 (some .int) ∈ dw_TB := dw_mem (i := 929) (by decide +kernel) (by decide +kernel)
theorem tw_lX10_92 : Cond.methodLink RX10 92 yX10_fall ∈ dw_TB := dw_mem (i := 930) (by decide +kernel) (by decide +kernel)
theorem tw_vX10_fall : Cond.instanceMethod yX10_fall ∈ dw_TB := dw_mem (i := 932) (by decide +kernel) (by decide +kernel)
theorem tw_kX10_fall : Cond.code yX10_fall cX10_fall 4 none ∈ dw_TB := dw_mem (i := 933) (by decide +kernel) (by decide +kernel)
theorem tw_lX10_86 : Cond.methodLink RX10 86 yX10_soilOf ∈ dw_TB := dw_mem (i := 934) (by decide +kernel) (by decide +kernel)
theorem tw_vX10_soilOf : Cond.instanceMethod yX10_soilOf ∈ dw_TB := dw_mem (i := 936) (by decide +kernel) (by decide +kernel)
theorem tw_kX10_soilOf : Cond.code yX10_soilOf cX10_soilOf 3 (some .int) ∈ dw_TB := dw_mem (i := 937) (by decide +kernel) (by decide +kernel)
theorem tw_lX10_95 : Cond.methodLink RX10 95 yX10_seep ∈ dw_TB := dw_mem (i := 938) (by decide +kernel) (by decide +kernel)
theorem tw_vX10_seep : Cond.instanceMethod yX10_seep ∈ dw_TB := dw_mem (i := 940) (by decide +kernel) (by decide +kernel)
theorem tw_kX10_seep : Cond.code yX10_seep cX10_seep 5 none ∈ dw_TB := dw_mem (i := 941) (by decide +kernel) (by decide +kernel)
theorem tw_lX10_89 : Cond.methodLink RX10 89 yX10_isLateral ∈ dw_TB := dw_mem (i := 942) (by decide +kernel) (by decide +kernel)
theorem tw_vX10_isLateral : Cond.instanceMethod yX10_isLateral ∈ dw_TB := dw_mem (i := 944) (by decide +kernel) (by decide +kernel)
theorem tw_kX10_isLateral : Cond.code yX10_isLateral cX10_isLateral 2 (some .boolean) ∈ dw_TB := dw_mem (i := 945) (by decide +kernel) (by decide +kernel)
theorem tw_lX10_98 : Cond.methodLink RX10 98 yX10_pass ∈ dw_TB := dw_mem (i := 946) (by decide +kernel) (by decide +kernel)
theorem tw_vX10_pass : Cond.instanceMethod yX10_pass ∈ dw_TB := dw_mem (i := 948) (by decide +kernel) (by decide +kernel)
theorem tw_kX10_pass : Cond.code yX10_pass cX10_pass 5 (some .int) ∈ dw_TB := dw_mem (i := 949) (by decide +kernel) (by decide +kernel)
theorem tw_lL_82 : Cond.methodLink RL 82 yX10_at ∈ dw_TB := dw_mem (i := 950) (by decide +kernel) (by decide +kernel)
theorem tw_vX10_at : Cond.instanceMethod yX10_at ∈ dw_TB := dw_mem (i := 951) (by decide +kernel) (by decide +kernel)
theorem tw_eX10_at : Cond.selects RX10 yX10_at yX10_at ∈ dw_TB := dw_mem (i := 952) (by decide +kernel) (by decide +kernel)
theorem tw_kX10_at : Cond.code yX10_at cX10_at 3 (some .int) ∈ dw_TB := dw_mem (i := 953) (by decide +kernel) (by decide +kernel)
theorem tw_lX10_104 : Cond.methodLink RX10 104 yX10_isReached ∈ dw_TB := dw_mem (i := 954) (by decide +kernel) (by decide +kernel)
theorem tw_vX10_isReached : Cond.instanceMethod yX10_isReached ∈ dw_TB := dw_mem (i := 956) (by decide +kernel) (by decide +kernel)
theorem tw_kX10_isReached : Cond.code yX10_isReached cX10_isReached 7 (some .boolean) ∈ dw_TB := dw_mem (i := 957) (by decide +kernel) (by decide +kernel)
theorem tw_lL_86 : Cond.methodLink RL 86 yX10_all ∈ dw_TB := dw_mem (i := 958) (by decide +kernel) (by decide +kernel)
theorem tw_vX10_all : Cond.instanceMethod yX10_all ∈ dw_TB := dw_mem (i := 959) (by decide +kernel) (by decide +kernel)
theorem tw_eX10_all : Cond.selects RX10 yX10_all yX10_all ∈ dw_TB := dw_mem (i := 960) (by decide +kernel) (by decide +kernel)
theorem tw_kX10_all : Cond.code yX10_all cX10_all 2 (some .int) ∈ dw_TB := dw_mem (i := 961) (by decide +kernel) (by decide +kernel)
theorem tw_lX10_107 : Cond.methodLink RX10 107 yX10_sum ∈ dw_TB := dw_mem (i := 962) (by decide +kernel) (by decide +kernel)
theorem tw_vX10_sum : Cond.instanceMethod yX10_sum ∈ dw_TB := dw_mem (i := 964) (by decide +kernel) (by decide +kernel)
theorem tw_kX10_sum : Cond.code yX10_sum cX10_sum 4 (some .int) ∈ dw_TB := dw_mem (i := 965) (by decide +kernel) (by decide +kernel)
theorem tw_lX10_110 : Cond.methodLink RX10 110 yX10_sumOfPipes ∈ dw_TB := dw_mem (i := 966) (by decide +kernel) (by decide +kernel)
theorem tw_vX10_sumOfPipes : Cond.instanceMethod yX10_sumOfPipes ∈ dw_TB := dw_mem (i := 968) (by decide +kernel) (by decide +kernel)
theorem tw_kX10_sumOfPipes : Cond.code yX10_sumOfPipes cX10_sumOfPipes 4 (some .int) ∈ dw_TB := dw_mem (i := 969) (by decide +kernel) (by decide +kernel)
theorem tw_lL_90 : Cond.methodLink RL 90 yX10_many ∈ dw_TB := dw_mem (i := 970) (by decide +kernel) (by decide +kernel)
theorem tw_vX10_many : Cond.instanceMethod yX10_many ∈ dw_TB := dw_mem (i := 971) (by decide +kernel) (by decide +kernel)
theorem tw_eX10_many : Cond.selects RX10 yX10_many yX10_many ∈ dw_TB := dw_mem (i := 972) (by decide +kernel) (by decide +kernel)
theorem tw_kX10_many : Cond.code yX10_many cX10_many 2 (some .int) ∈ dw_TB := dw_mem (i := 973) (by decide +kernel) (by decide +kernel)
theorem tw_lX10_113 : Cond.methodLink RX10 113 yX10_dryMany ∈ dw_TB := dw_mem (i := 974) (by decide +kernel) (by decide +kernel)
theorem tw_vX10_dryMany : Cond.instanceMethod yX10_dryMany ∈ dw_TB := dw_mem (i := 976) (by decide +kernel) (by decide +kernel)
theorem tw_kX10_dryMany : Cond.code yX10_dryMany cX10_dryMany 3 (some .int) ∈ dw_TB := dw_mem (i := 977) (by decide +kernel) (by decide +kernel)
theorem tw_lL_94 : Cond.methodLink RL 94 yX10_dry ∈ dw_TB := dw_mem (i := 978) (by decide +kernel) (by decide +kernel)
theorem tw_vX10_dry : Cond.instanceMethod yX10_dry ∈ dw_TB := dw_mem (i := 979) (by decide +kernel) (by decide +kernel)
theorem tw_eX10_dry : Cond.selects RX10 yX10_dry yX10_dry ∈ dw_TB := dw_mem (i := 980) (by decide +kernel) (by decide +kernel)
theorem tw_kX10_dry : Cond.code yX10_dry cX10_dry 4 (some .int) ∈ dw_TB := dw_mem (i := 981) (by decide +kernel) (by decide +kernel)
theorem tw_lL_98 : Cond.methodLink RL 98 yX10_mark ∈ dw_TB := dw_mem (i := 982) (by decide +kernel) (by decide +kernel)
theorem tw_vX10_mark : Cond.instanceMethod yX10_mark ∈ dw_TB := dw_mem (i := 983) (by decide +kernel) (by decide +kernel)
theorem tw_eX10_mark : Cond.selects RX10 yX10_mark yX10_mark ∈ dw_TB := dw_mem (i := 984) (by decide +kernel) (by decide +kernel)
theorem tw_kX10_mark : Cond.code yX10_mark cX10_mark 3 (some .int) ∈ dw_TB := dw_mem (i := 985) (by decide +kernel) (by decide +kernel)
theorem tw_lX10_116 : Cond.methodLink RX10 116 yX10_set ∈ dw_TB := dw_mem (i := 986) (by decide +kernel) (by decide +kernel)
theorem tw_vX10_set : Cond.instanceMethod yX10_set ∈ dw_TB := dw_mem (i := 988) (by decide +kernel) (by decide +kernel)
theorem tw_kX10_set : Cond.code yX10_set cX10_set 5 (some .int) ∈ dw_TB := dw_mem (i := 989) (by decide +kernel) (by decide +kernel)
theorem tw_lL_103 : Cond.methodLink RL 103 yX10_tree ∈ dw_TB := dw_mem (i := 990) (by decide +kernel) (by decide +kernel)
theorem tw_vX10_tree : Cond.instanceMethod yX10_tree ∈ dw_TB := dw_mem (i := 991) (by decide +kernel) (by decide +kernel)
theorem tw_eX10_tree : Cond.selects RX10 yX10_tree yX10_tree ∈ dw_TB := dw_mem (i := 992) (by decide +kernel) (by decide +kernel)
theorem tw_kX10_tree : Cond.code yX10_tree cX10_tree 3 (some .int) ∈ dw_TB := dw_mem (i := 993) (by decide +kernel) (by decide +kernel)
theorem tw_lX10_131 : Cond.methodLink RX10 131 yX10_findTree ∈ dw_TB := dw_mem (i := 994) (by decide +kernel) (by decide +kernel)
theorem tw_vX10_findTree : Cond.instanceMethod yX10_findTree ∈ dw_TB := dw_mem (i := 996) (by decide +kernel) (by decide +kernel)
theorem tw_kX10_findTree : Cond.code yX10_findTree cX10_findTree 2 none ∈ dw_TB := dw_mem (i := 997) (by decide +kernel) (by decide +kernel)
theorem tw_lX10_127 : Cond.methodLink RX10 127 yX10_takePair ∈ dw_TB := dw_mem (i := 998) (by decide +kernel) (by decide +kernel)
theorem tw_vX10_takePair : Cond.instanceMethod yX10_takePair ∈ dw_TB := dw_mem (i := 1000) (by decide +kernel) (by decide +kernel)
theorem tw_kX10_takePair : Cond.code yX10_takePair cX10_takePair 5 (some .boolean) ∈ dw_TB := dw_mem (i := 1001) (by decide +kernel) (by decide +kernel)
theorem tw_lX10_120 : Cond.methodLink RX10 120 yX10_cost ∈ dw_TB := dw_mem (i := 1002) (by decide +kernel) (by decide +kernel)
theorem tw_vX10_cost : Cond.instanceMethod yX10_cost ∈ dw_TB := dw_mem (i := 1004) (by decide +kernel) (by decide +kernel)
theorem tw_kX10_cost : Cond.code yX10_cost cX10_cost 3 (some .int) ∈ dw_TB := dw_mem (i := 1005) (by decide +kernel) (by decide +kernel)
theorem tw_lL_107 : Cond.methodLink RL 107 yX10_pair ∈ dw_TB := dw_mem (i := 1006) (by decide +kernel) (by decide +kernel)
theorem tw_vX10_pair : Cond.instanceMethod yX10_pair ∈ dw_TB := dw_mem (i := 1007) (by decide +kernel) (by decide +kernel)
theorem tw_eX10_pair : Cond.selects RX10 yX10_pair yX10_pair ∈ dw_TB := dw_mem (i := 1008) (by decide +kernel) (by decide +kernel)
theorem tw_kX10_pair : Cond.code yX10_pair cX10_pair 2 (some .int) ∈ dw_TB := dw_mem (i := 1009) (by decide +kernel) (by decide +kernel)
theorem tw_lL_111 : Cond.methodLink RL 111 yX10_sight ∈ dw_TB := dw_mem (i := 1010) (by decide +kernel) (by decide +kernel)
theorem tw_vX10_sight : Cond.instanceMethod yX10_sight ∈ dw_TB := dw_mem (i := 1011) (by decide +kernel) (by decide +kernel)
theorem tw_eX10_sight : Cond.selects RX10 yX10_sight yX10_sight ∈ dw_TB := dw_mem (i := 1012) (by decide +kernel) (by decide +kernel)
theorem tw_kX10_sight : Cond.code yX10_sight cX10_sight 3 (some .int) ∈ dw_TB := dw_mem (i := 1013) (by decide +kernel) (by decide +kernel)
theorem tw_lL_115 : Cond.methodLink RL 115 yX10_see ∈ dw_TB := dw_mem (i := 1014) (by decide +kernel) (by decide +kernel)
theorem tw_vX10_see : Cond.instanceMethod yX10_see ∈ dw_TB := dw_mem (i := 1015) (by decide +kernel) (by decide +kernel)
theorem tw_eX10_see : Cond.selects RX10 yX10_see yX10_see ∈ dw_TB := dw_mem (i := 1016) (by decide +kernel) (by decide +kernel)
theorem tw_kX10_see : Cond.code yX10_see cX10_see 3 (some .int) ∈ dw_TB := dw_mem (i := 1017) (by decide +kernel) (by decide +kernel)
theorem tw_lL_119 : Cond.methodLink RL 119 yX10_where ∈ dw_TB := dw_mem (i := 1018) (by decide +kernel) (by decide +kernel)
theorem tw_vX10_where : Cond.instanceMethod yX10_where ∈ dw_TB := dw_mem (i := 1019) (by decide +kernel) (by decide +kernel)
theorem tw_eX10_where : Cond.selects RX10 yX10_where yX10_where ∈ dw_TB := dw_mem (i := 1020) (by decide +kernel) (by decide +kernel)
theorem tw_kX10_where : Cond.code yX10_where cX10_where 6 (some .int) ∈ dw_TB := dw_mem (i := 1021) (by decide +kernel) (by decide +kernel)
theorem tw_lX10_138 : Cond.methodLink RX10 138 yX10_fits ∈ dw_TB := dw_mem (i := 1022) (by decide +kernel) (by decide +kernel)
theorem tw_vX10_fits : Cond.instanceMethod yX10_fits ∈ dw_TB := dw_mem (i := 1024) (by decide +kernel) (by decide +kernel)
theorem tw_kX10_fits : Cond.code yX10_fits cX10_fits 6 (some .boolean) ∈ dw_TB := dw_mem (i := 1025) (by decide +kernel) (by decide +kernel)
theorem tw_lX10_134 : Cond.methodLink RX10 134 yX10_copy ∈ dw_TB := dw_mem (i := 1026) (by decide +kernel) (by decide +kernel)
theorem tw_sX10_copy : Cond.static yX10_copy ∈ dw_TB := dw_mem (i := 1027) (by decide +kernel) (by decide +kernel)
theorem tw_kX10_copy : Cond.code yX10_copy cX10_copy 3 none ∈ dw_TB := dw_mem (i := 1028) (by decide +kernel) (by decide +kernel)
theorem tw_lL_123 : Cond.methodLink RL 123 yX10_keep ∈ dw_TB := dw_mem (i := 1029) (by decide +kernel) (by decide +kernel)
theorem tw_vX10_keep : Cond.instanceMethod yX10_keep ∈ dw_TB := dw_mem (i := 1030) (by decide +kernel) (by decide +kernel)
theorem tw_eX10_keep : Cond.selects RX10 yX10_keep yX10_keep ∈ dw_TB := dw_mem (i := 1031) (by decide +kernel) (by decide +kernel)
theorem tw_kX10_keep : Cond.code yX10_keep cX10_keep 1 (some .int) ∈ dw_TB := dw_mem (i := 1032) (by decide +kernel) (by decide +kernel)
theorem tw_lL_127 : Cond.methodLink RL 127 yX10_back ∈ dw_TB := dw_mem (i := 1033) (by decide +kernel) (by decide +kernel)
theorem tw_vX10_back : Cond.instanceMethod yX10_back ∈ dw_TB := dw_mem (i := 1034) (by decide +kernel) (by decide +kernel)
theorem tw_eX10_back : Cond.selects RX10 yX10_back yX10_back ∈ dw_TB := dw_mem (i := 1035) (by decide +kernel) (by decide +kernel)
theorem tw_kX10_back : Cond.code yX10_back cX10_back 1 (some .int) ∈ dw_TB := dw_mem (i := 1036) (by decide +kernel) (by decide +kernel)
theorem tw_u0 : ∀ w ∈ u_ws RX0 TX0 4, w ∈ dw_TB := by decide +kernel
theorem tw_u1 : ∀ w ∈ u_ws RX1 TX1 9, w ∈ dw_TB := by decide +kernel
theorem tw_u2 : ∀ w ∈ u_ws RX2 TX2 1, w ∈ dw_TB := by decide +kernel
theorem tw_u3 : ∀ w ∈ u_ws RX3 TX3 5, w ∈ dw_TB := by decide +kernel
theorem tw_u4 : ∀ w ∈ u_ws RX4 TX4 2, w ∈ dw_TB := by decide +kernel
theorem tw_u5 : ∀ w ∈ u_ws RX5 TX5 6, w ∈ dw_TB := by decide +kernel
theorem tw_u6 : ∀ w ∈ u_ws RX6 TX6 7, w ∈ dw_TB := by decide +kernel
theorem tw_u7 : ∀ w ∈ u_ws RX7 TX7 7, w ∈ dw_TB := by decide +kernel
theorem tw_u8 : ∀ w ∈ u_ws RX8 TX8 9, w ∈ dw_TB := by decide +kernel
theorem tw_u9 : ∀ w ∈ u_ws RX9 TX9 6, w ∈ dw_TB := by decide +kernel
theorem tw_u10 : ∀ w ∈ u_ws RX10 TX10 7, w ∈ dw_TB := by decide +kernel
end
section
/-! rows over the fixed world -/
def dw_tys (Γ : dw_G) : List (ClassId × FieldType) := [(Γ.2.1, .int), (Γ.2.2.1, .object RX5)]
def dw_K (Γ : dw_G) (U : State) : Prop := va_K Γ.1 vwCl (dw_tys Γ) U ∧ ∀ q ∈ dw_nest, va_Nw (.methodLinkNest q.1 q.2.1 q.2.2.1 q.2.2.2) U
theorem dw_K.warm {Γ : dw_G} {s U : State} (hW : s.WarmedH U.vm) (h : dw_K Γ s) : dw_K Γ U := ⟨va_K.moved hW.alike h.1, fun q hq => va_Nw.warmM hW (h.2 q hq)⟩
theorem dw_K.calling {Γ : dw_G} {U : State} {g : JFrame} {mk : MethodId} {a : Array Value} (h : dw_K Γ U) : dw_K Γ (U.calling g mk a) := ⟨va_K.moved (u := U) (U := U.calling g mk a) (Vm.Alike.refl U.vm) h.1, fun q hq => va_Nw.same rfl (u := U) (U := U.calling g mk a) rfl (h.2 q hq)⟩
/-- what is fixed in a method's body -/
def dw_C (Γ : dw_G) (p : Program) (s : State) (m : MethodId) (args : Array Value) (meth : Method) (c : Code) (cc : ByteArray) (nL : Nat) (own : String) : Prop :=
  p.tables.exec = Jvm.exec ∧ c.code = cc ∧ c.maxLocals = nL ∧ s.vm.findClass own = some m.cls ∧ (∀ w ∈ dw_TB, w.before args s = true) ∧ dw_K Γ s ∧ dw_inj Γ
/-- what changes: the heap holds the memory, nothing else has changed -/
def dw_Z (Γ : dw_G) (A : Nat → Prop) (H0 : Heap) (μ : dw_M) (H : Heap) (locs : List Loc) : Prop := va_P Γ.1 vwCl (dw_wl Γ μ) H ∧ va_S A H0 H locs
def dw_P (Γ : dw_G) (av : List Value) (μ : dw_M) : Array Value → State → Prop := va_Pc av (fun U => va_P Γ.1 vwCl (dw_wl Γ μ) U.heap ∧ dw_K Γ U)
def dw_Qi (Γ : dw_G) (r : Int32) (μ : dw_M) : Array Value → State → Outcome → State → Prop := va_Qi (fun (x : Int32) (_ : Unit) => x = r) (fun _ t => va_P Γ.1 vwCl (dw_wl Γ μ) t.heap) (dw_A Γ)
def dw_Qv (Γ : dw_G) (μ : dw_M) : Array Value → State → Outcome → State → Prop := va_Qv (fun _ : Unit => True) (fun _ t => va_P Γ.1 vwCl (dw_wl Γ μ) t.heap) (dw_A Γ)
abbrev dw_rm (fr lo : Nat) : Room := { frames := fr, cells := 0, slots := 0, locals := lo }
theorem dw_P.blind {Γ : dw_G} {av : List Value} {μ : dw_M} : FrameBlind (dw_P Γ av μ) := fun a U g mk q => ⟨q.1, q.2.1, q.2.2.calling⟩
section DWA
variable {p : Program} {l : Launch} {e : Env} {R : Room} {s : State} {m : MethodId} {args : Array Value} {below : List Frame} {meth : Method} {c : Code} {H : Heap} {locs : List Loc} {cells slots : Nat} {Q : State → Prop}
variable {cc : ByteArray} {pc nL : Nat} {ls : Array Slot} {rest : List Value} {Γ : dw_G} {A : Nat → Prop} {H0 : Heap} {μ : dw_M} {own : String}
/-- the body of a method -/
theorem dw_met {y : MethodName} {ret : Option FieldType} {fr lo : Nat} {av : List Value} {Qc : Array Value → State → Outcome → State → Prop} (hy : plainName y.cls = true) (ho : y.cls = own) (hn : (lg_sl av).length ≤ nL) (hj : dw_inj Γ)
    (body : ∀ (p : Program) (e : Env) (s : State) (m : MethodId) (below : List Frame) (meth : Method) (c : Code), dw_C Γ p s m av.toArray meth c cc nL own → meth.sig.returnType = ret → meth.locks = false → dw_Z Γ (dw_A Γ) s.heap μ s.heap [] → ∀ ls : Array Slot, lv_has ls nL (lv_args 0 av) → W p l e (dw_rm fr lo) s m av.toArray below meth c s.heap [] 0 0 (MQ below Qc av.toArray s 0 0 (dw_A Γ)) (F0 m 0 ls [])) :
    Met l y (dw_ws y cc nL ret) (dw_rm fr lo) (dw_P Γ av μ) Qc 0 0 (dw_A Γ) := by
  refine Met.ofW (cc := cc) (maxL := nL) (ret := ret) hy rfl ?_
  intro p e s m args below meth c s₁ B hml hv
  obtain ⟨rfl, hP, hK⟩ := hv
  have hts := atoms_spec (ws := dw_ws y cc nL ret) B.pre
  have hown : s.vm.findClass own = some m.cls := by rw [← ho]; exact findClass_of_methodNamed B.named
  have hl := lv_entry av (n := nL) hn
  rw [lg_entry_eq]
  exact body p e s m below meth c ⟨B.exec, B.bytes, hml, hown, fun w h => hts w (List.mem_cons_of_mem _ h), hK, hj⟩ B.returns B.notSynchronized ⟨hP, va_S.rf⟩ _ hl
/-- a field of an object -/
theorem dw_get (C0 : dw_C Γ p s m args meth c cc nL own) (Z : dw_Z Γ A H0 μ H locs) {i ci N : Nat} {fs : List Value} {C : String} {T : u_T} (hi : i < 149) (he : dw_cz Γ i (μ.1 i) (μ.2 i) = .inr (ci, fs)) (hc : vwCl[ci]? = some (C, T, N)) (hin : ∀ w ∈ u_ws C T N, w ∈ dw_TB) (k : Nat) (hk : k < N) {index : Nat} {ref : String} (hlink : Cond.fieldLink own index ref (T k).2.1 (T k).2.2.1 ∈ dw_TB) (hsame : (T k).1 = ref) {v : Value} (hv : fs[k]? = some v) (hdg : decode cc pc = .ok (.getfield index, 3))
    (kk : W p l e R s m args below meth c H locs cells slots Q (F0 m (pc + 3) ls (v :: rest))) : W p l e R s m args below meth c H locs cells slots Q (F0 m pc ls (.ref (dw_ad Γ i) :: rest)) := by
  obtain ⟨hx, hb, hml, hown, hT, hK, hj⟩ := C0
  exact va_get hx hb hT hin hown hK.1 Z.1 i (by rw [dw_at hi, he]) hc k hk (hT _ hlink) (fun x h => by rw [hsame] at h; exact h) hv hdg kk
/-- an int field is written -/
theorem dw_put (C0 : dw_C Γ p s m args meth c cc nL own) (Z : dw_Z Γ A H0 μ H locs) (hA : ∀ q, dw_A Γ q → A q) {i ci N : Nat} {fs : List Value} {C : String} {T : u_T} {ty0 : Nat → FieldType} (hi : i < 149) (he : dw_cz Γ i (μ.1 i) (μ.2 i) = .inr (ci, fs)) (hc : vwCl[ci]? = some (C, T, N)) (hin : ∀ w ∈ u_ws C T N, w ∈ dw_TB) (hty : ∀ k, k < N → parseFieldDescriptor (T k).2.2.1 = some (ty0 k)) (hnm : ∀ a, a < N → ∀ b, b < N → a ≠ b → (T a).2.1 ≠ (T b).2.1) (k : Nat) (hk : k < N) {index : Nat} {ref : String} (hlink : Cond.fieldLink own index ref (T k).2.1 (T k).2.2.1 ∈ dw_TB) (hsame : (T k).1 = ref) (hfin : (T k).2.2.2 = false) {v : Value} (hn : narrow (ty0 k) v = v) (hfit : fits (ty0 k) v = true) (hl : k < fs.length) {ν : dw_M} (hE : (.inr (ci, fs.set k v) : va_E) = dw_cz Γ i (ν.1 i) (ν.2 i)) (h1 : ∀ j, j ≠ i → ν.1 j = μ.1 j) (h2 : ∀ j, j ≠ i → ν.2 j = μ.2 j) (hdg : decode cc pc = .ok (.putfield index, 3))
    (kk : ∀ (H1 : Heap) (locs1 : List Loc), dw_Z Γ A H0 ν H1 locs1 → W p l e R s m args below meth c H1 locs1 cells slots Q (F0 m (pc + 3) ls rest)) : W p l e R s m args below meth c H locs cells slots Q (F0 m pc ls (v :: .ref (dw_ad Γ i) :: rest)) := by
  obtain ⟨hx, hb, hml, hown, hT, hK, hj⟩ := C0
  have hD : va_D A (dw_wl Γ μ) := (dw_DD hj μ).weaken (fun _ _ _ h => hA _ h)
  refine va_put hx hb hT hin ty0 hty hnm hown hK.1 Z.1 hD Z.2 i (by rw [dw_at hi, he]) hc k hk (hT _ hlink) (fun x h => by rw [hsame] at h; exact h) hfin (hty k hk) hn hfit hl hdg (fun H1 locs1 hP hD1 hS => ?_)
  rw [dw_set hi hE h1 h2] at hP
  exact kk H1 locs1 ⟨hP, hS⟩
/-- an element of an int array -/
theorem dw_ald (C0 : dw_C Γ p s m args meth c cc nL own) (Z : dw_Z Γ A H0 μ H locs) {i n : Nat} (h : dw_kd i = 11) (hn : dw_ln i = n) {x : Int32} (hx : dw_ok x n = true) (hdg : decode cc pc = .ok (.iaload, 1))
    (kk : W p l e R s m args below meth c H locs cells slots Q (F0 m (pc + 1) ls (.int (μ.1 i x.toNatClampNeg) :: rest))) : W p l e R s m args below meth c H locs cells slots Q (F0 m pc ls (.int x :: .ref (dw_ad Γ i) :: rest)) := by
  obtain ⟨hx', hb, hml, hown, hT, hK, hj⟩ := C0
  subst hn
  exact va_iald hx' hb hK.1 Z.1 i 0 (by rw [dw_at (dw_lt h (by decide)), dw_cz11 h]) rfl (dw_ok_in hx) hdg kk
/-- an element of an int array is written -/
theorem dw_ast (C0 : dw_C Γ p s m args meth c cc nL own) (Z : dw_Z Γ A H0 μ H locs) (hA : ∀ q, dw_A Γ q → A q) {i n : Nat} (h : dw_kd i = 11) (hn : dw_ln i = n) {x v : Int32} (hx : dw_ok x n = true) (hdg : decode cc pc = .ok (.iastore, 1))
    (kk : ∀ (ν : dw_M) (eν : ν = dw_st μ i x.toNatClampNeg v) (H1 : Heap) (locs1 : List Loc), dw_Z Γ A H0 ν H1 locs1 → W p l e R s m args below meth c H1 locs1 cells slots Q (F0 m (pc + 1) ls rest)) : W p l e R s m args below meth c H locs cells slots Q (F0 m pc ls (.int v :: .int x :: .ref (dw_ad Γ i) :: rest)) := by
  obtain ⟨hx', hb, hml, hown, hT, hK, hj⟩ := C0
  subst hn
  have hD : va_D A (dw_wl Γ μ) := (dw_DD hj μ).weaken (fun _ _ _ h => hA _ h)
  refine va_iast hx' hb hK.1 Z.1 hD Z.2 i 0 (by rw [dw_at (dw_lt h (by decide)), dw_cz11 h]) rfl (dw_ok_in hx) hdg (fun H1 locs1 hP hD1 hS => ?_)
  rw [dw_set (ν := dw_st μ i x.toNatClampNeg v) (dw_lt h (by decide)) (by rw [dw_cz11 h, dw_st_at]) (dw_st_ne μ i _ v) (fun _ _ => rfl)] at hP
  exact kk _ rfl H1 locs1 ⟨hP, hS⟩
theorem dw_alen (C0 : dw_C Γ p s m args meth c cc nL own) (Z : dw_Z Γ A H0 μ H locs) {i : Nat} (h : dw_kd i = 11) (hdg : decode cc pc = .ok (.arraylength, 1))
    (kk : W p l e R s m args below meth c H locs cells slots Q (F0 m (pc + 1) ls (.int (nI (dw_ln i)) :: rest))) : W p l e R s m args below meth c H locs cells slots Q (F0 m pc ls (.ref (dw_ad Γ i) :: rest)) := by
  obtain ⟨hx', hb, hml, hown, hT, hK, hj⟩ := C0
  exact va_alen (x := (dw_ln i, .inl (μ.1 i))) hx' hb hK.1 Z.1 i 0 (by rw [dw_at (dw_lt h (by decide)), dw_cz11 h]) (ty := .int) rfl rfl hdg kk
/-- a pipe of the row of pipes -/
theorem dw_aald (C0 : dw_C Γ p s m args meth c cc nL own) (Z : dw_Z Γ A H0 μ H locs) {i : Nat} (h : dw_kd i = 12) {x : Int32} (hx : dw_ok x 20 = true) (hdg : decode cc pc = .ok (.aaload, 1))
    (kk : W p l e R s m args below meth c H locs cells slots Q (F0 m (pc + 1) ls (.ref (dw_ad Γ (i + 1 + 2 * x.toNatClampNeg)) :: rest))) : W p l e R s m args below meth c H locs cells slots Q (F0 m pc ls (.int x :: .ref (dw_ad Γ i) :: rest)) := by
  obtain ⟨hx', hb, hml, hown, hT, hK, hj⟩ := C0
  refine va_aldq hx' hb hK.1 Z.1 i 1 (C := RX5) (by rw [dw_at (dw_lt h (by decide)), dw_cz12 h]) rfl (dw_ok_in hx) hdg ?_
  have e : va_rf (dw_pa Γ i x.toNatClampNeg) = .ref (dw_ad Γ (i + 1 + 2 * x.toNatClampNeg)) := by
    unfold dw_pa
    rw [if_pos (dw_ok_lt hx)]
    rfl
  rw [e]
  exact kk
/-- ends -/
theorem dw_iret {r : Int32} (C0 : dw_C Γ p s m args meth c cc nL own) (Z : dw_Z Γ (dw_A Γ) s.heap μ H locs) (hr : meth.sig.returnType = some .int) (hlk : meth.locks = false) (hdg : decode cc pc = .ok (.ireturn, 1)) : W p l e R s m args below meth c H locs cells slots (MQ below (dw_Qi Γ r μ) args s cells slots (dw_A Γ)) (F0 m pc ls [.int r]) :=
  W.iret (v := r) C0.1 C0.2.1 hr (fun t ht _ => ⟨⟨r, (), rfl, rfl, show va_P Γ.1 vwCl (dw_wl Γ μ) t.heap by rw [ht]; exact Z.1⟩, Z.2.F ht⟩) Z.2.2.2 hdg hlk
theorem dw_zret {r : Int32} (C0 : dw_C Γ p s m args meth c cc nL own) (Z : dw_Z Γ (dw_A Γ) s.heap μ H locs) (hr : meth.sig.returnType = some .boolean) (hlk : meth.locks = false) (hn : narrow .boolean (.int r) = .int r) (hdg : decode cc pc = .ok (.ireturn, 1)) : W p l e R s m args below meth c H locs cells slots (MQ below (dw_Qi Γ r μ) args s cells slots (dw_A Γ)) (F0 m pc ls [.int r]) :=
  W.zret (v := r) C0.1 C0.2.1 hr hn (fun t ht _ => ⟨⟨r, (), rfl, rfl, show va_P Γ.1 vwCl (dw_wl Γ μ) t.heap by rw [ht]; exact Z.1⟩, Z.2.F ht⟩) Z.2.2.2 hdg hlk
theorem dw_vret (C0 : dw_C Γ p s m args meth c cc nL own) (Z : dw_Z Γ (dw_A Γ) s.heap μ H locs) (hr : meth.sig.returnType = none) (hlk : meth.locks = false) (hdg : decode cc pc = .ok (.return_, 1)) : W p l e R s m args below meth c H locs cells slots (MQ below (dw_Qv Γ μ) args s cells slots (dw_A Γ)) (F0 m pc ls []) :=
  W.vret C0.1 C0.2.1 hr (fun t ht _ => ⟨⟨(), rfl, trivial, show va_P Γ.1 vwCl (dw_wl Γ μ) t.heap by rw [ht]; exact Z.1⟩, Z.2.F ht⟩) Z.2.2.2 hdg hlk
variable {y : MethodName} {bytes : ByteArray} {maxL n index fr lo : Nat} {ret : Option FieldType} {As : List Value} {r : Int32} {ν : dw_M} {C : String} {st0 : List Value}
/-- calls of methods of objects -/
theorem dw_cVi (C0 : dw_C Γ p s m args meth c cc nL own) (Z : dw_Z Γ A H0 μ H locs) (hA : ∀ q, dw_A Γ q → A q) {i ci N : Nat} {fs : List Value} {T : u_T} (hi : i < 149) (he : dw_cz Γ i (μ.1 i) (μ.2 i) = .inr (ci, fs)) (hc : vwCl[ci]? = some (C, T, N))
    (hM : Met l y (dw_ws y bytes maxL ret) (dw_rm fr lo) (dw_P Γ (.ref (dw_ad Γ i) :: As) μ) (dw_Qi Γ r ν) 0 0 (dw_A Γ)) (hg : GoodIn dw_TB (wsV own index C y (dw_ws y bytes maxL ret)))
    (hd : y.cls = C ∧ y.cls ≠ "java/lang/invoke/MethodHandle" ∧ y.cls ≠ "java/lang/invoke/VarHandle" ∧ (parseMethodDescriptor y.desc).map (fun d => d.parameters.length) = some As.length) (hR : fr + 1 ≤ R.frames ∧ 8 + (maxL + 11) + lo ≤ R.locals) (hcs : cells ≤ R.cells ∧ slots ≤ R.slots) (hls : ls.size = nL) (hrm : (rest.map fun v => v.category).sum ≤ 8) (hst : st0 = As.reverse ++ .ref (dw_ad Γ i) :: rest) (hdg : decode cc pc = .ok (.invokevirtual index, 3))
    (kk : ∀ (H1 : Heap) (locs1 : List Loc), dw_Z Γ A H0 ν H1 locs1 → W p l e R s m args below meth c H1 locs1 cells slots Q (F0 m (pc + 3) ls (.int r :: rest))) : W p l e R s m args below meth c H locs cells slots Q (F0 m pc ls st0) := by
  obtain ⟨hx, hb, hml, hown, hT, hK, hj⟩ := C0
  refine va_calli (va_runV (As := As) (rest := rest) ⟨hx, hb, hml, hown, hT⟩ hM (cwV As.length hT hg rfl rfl rfl hd hR) ⟨dw_P.blind, va_recv hK.1 Z.1 hc (by rw [dw_at hi, he]), fun U hU hW => ⟨rfl, by rw [hU]; exact Z.1, hK.warm hW⟩⟩ rfl rfl hls hst (lv_room hrm) hdg hcs) Z.2 (fun q _ h => hA q h) hA (fun r1 u t H1 locs1 ht hvm hw hB hz1 hk1 hS => ?_)
  subst hw
  exact kk H1 locs1 ⟨by rw [← ht]; exact hB, hS⟩
theorem dw_cVv (C0 : dw_C Γ p s m args meth c cc nL own) (Z : dw_Z Γ A H0 μ H locs) (hA : ∀ q, dw_A Γ q → A q) {i ci N : Nat} {fs : List Value} {T : u_T} (hi : i < 149) (he : dw_cz Γ i (μ.1 i) (μ.2 i) = .inr (ci, fs)) (hc : vwCl[ci]? = some (C, T, N))
    (hM : Met l y (dw_ws y bytes maxL ret) (dw_rm fr lo) (dw_P Γ (.ref (dw_ad Γ i) :: As) μ) (dw_Qv Γ ν) 0 0 (dw_A Γ)) (hg : GoodIn dw_TB (wsV own index C y (dw_ws y bytes maxL ret)))
    (hd : y.cls = C ∧ y.cls ≠ "java/lang/invoke/MethodHandle" ∧ y.cls ≠ "java/lang/invoke/VarHandle" ∧ (parseMethodDescriptor y.desc).map (fun d => d.parameters.length) = some As.length) (hR : fr + 1 ≤ R.frames ∧ 8 + (maxL + 11) + lo ≤ R.locals) (hcs : cells ≤ R.cells ∧ slots ≤ R.slots) (hls : ls.size = nL) (hrm : (rest.map fun v => v.category).sum ≤ 8) (hst : st0 = As.reverse ++ .ref (dw_ad Γ i) :: rest) (hdg : decode cc pc = .ok (.invokevirtual index, 3))
    (kk : ∀ (H1 : Heap) (locs1 : List Loc), dw_Z Γ A H0 ν H1 locs1 → W p l e R s m args below meth c H1 locs1 cells slots Q (F0 m (pc + 3) ls rest)) : W p l e R s m args below meth c H locs cells slots Q (F0 m pc ls st0) := by
  obtain ⟨hx, hb, hml, hown, hT, hK, hj⟩ := C0
  refine va_callv (va_runV (As := As) (rest := rest) ⟨hx, hb, hml, hown, hT⟩ hM (cwV As.length hT hg rfl rfl rfl hd hR) ⟨dw_P.blind, va_recv hK.1 Z.1 hc (by rw [dw_at hi, he]), fun U hU hW => ⟨rfl, by rw [hU]; exact Z.1, hK.warm hW⟩⟩ rfl rfl hls hst (lv_room hrm) hdg hcs) Z.2 (fun q _ h => hA q h) hA (fun u t H1 locs1 ht hvm hw hB hz1 hk1 hS => ?_)
  exact kk H1 locs1 ⟨by rw [← ht]; exact hB, hS⟩
/-- calls of static methods -/
theorem dw_cSi (C0 : dw_C Γ p s m args meth c cc nL own) (Z : dw_Z Γ A H0 μ H locs) (hA : ∀ q, dw_A Γ q → A q)
    (hM : Met l y (dw_ws y bytes maxL ret) (dw_rm fr lo) (dw_P Γ As μ) (dw_Qi Γ r ν) 0 0 (dw_A Γ)) (hg : GoodIn dw_TB (va_wsS own index y (dw_ws y bytes maxL ret)))
    (hd : y.cls ≠ "java/lang/invoke/MethodHandle" ∧ y.cls ≠ "java/lang/invoke/VarHandle" ∧ (parseMethodDescriptor y.desc).map (fun d => d.parameters.length) = some As.length) (hR : fr + 1 ≤ R.frames ∧ 8 + (maxL + 11) + lo ≤ R.locals) (hcs : cells ≤ R.cells ∧ slots ≤ R.slots) (hls : ls.size = nL) (hrm : (rest.map fun v => v.category).sum ≤ 8) (hst : st0 = As.reverse ++ rest) (hdg : decode cc pc = .ok (.invokestatic index, 3))
    (kk : ∀ (H1 : Heap) (locs1 : List Loc), dw_Z Γ A H0 ν H1 locs1 → W p l e R s m args below meth c H1 locs1 cells slots Q (F0 m (pc + 3) ls (.int r :: rest))) : W p l e R s m args below meth c H locs cells slots Q (F0 m pc ls st0) := by
  obtain ⟨hx, hb, hml, hown, hT, hK, hj⟩ := C0
  refine va_calli (va_runS (As := As) (rest := rest) ⟨hx, hb, hml, hown, hT⟩ hM (va_cwS As.length hT hg rfl rfl rfl hd hR) ⟨dw_P.blind, fun U hU hW => ⟨rfl, by rw [hU]; exact Z.1, hK.warm hW⟩⟩ rfl rfl hls hst (lv_room hrm) hdg hcs) Z.2 (fun q _ h => hA q h) hA (fun r1 u t H1 locs1 ht hvm hw hB hz1 hk1 hS => ?_)
  subst hw
  exact kk H1 locs1 ⟨by rw [← ht]; exact hB, hS⟩
theorem dw_cSv (C0 : dw_C Γ p s m args meth c cc nL own) (Z : dw_Z Γ A H0 μ H locs) (hA : ∀ q, dw_A Γ q → A q)
    (hM : Met l y (dw_ws y bytes maxL ret) (dw_rm fr lo) (dw_P Γ As μ) (dw_Qv Γ ν) 0 0 (dw_A Γ)) (hg : GoodIn dw_TB (va_wsS own index y (dw_ws y bytes maxL ret)))
    (hd : y.cls ≠ "java/lang/invoke/MethodHandle" ∧ y.cls ≠ "java/lang/invoke/VarHandle" ∧ (parseMethodDescriptor y.desc).map (fun d => d.parameters.length) = some As.length) (hR : fr + 1 ≤ R.frames ∧ 8 + (maxL + 11) + lo ≤ R.locals) (hcs : cells ≤ R.cells ∧ slots ≤ R.slots) (hls : ls.size = nL) (hrm : (rest.map fun v => v.category).sum ≤ 8) (hst : st0 = As.reverse ++ rest) (hdg : decode cc pc = .ok (.invokestatic index, 3))
    (kk : ∀ (H1 : Heap) (locs1 : List Loc), dw_Z Γ A H0 ν H1 locs1 → W p l e R s m args below meth c H1 locs1 cells slots Q (F0 m (pc + 3) ls rest)) : W p l e R s m args below meth c H locs cells slots Q (F0 m pc ls st0) := by
  obtain ⟨hx, hb, hml, hown, hT, hK, hj⟩ := C0
  refine va_callv (va_runS (As := As) (rest := rest) ⟨hx, hb, hml, hown, hT⟩ hM (va_cwS As.length hT hg rfl rfl rfl hd hR) ⟨dw_P.blind, fun U hU hW => ⟨rfl, by rw [hU]; exact Z.1, hK.warm hW⟩⟩ rfl rfl hls hst (lv_room hrm) hdg hcs) Z.2 (fun q _ h => hA q h) hA (fun u t H1 locs1 ht hvm hw hB hz1 hk1 hS => ?_)
  exact kk H1 locs1 ⟨by rw [← ht]; exact hB, hS⟩
/-- calls of a nest mate's private static methods -/
theorem dw_cNv {host : String} (C0 : dw_C Γ p s m args meth c cc nL own) (Z : dw_Z Γ A H0 μ H locs) (hA : ∀ q, dw_A Γ q → A q)
    (hM : Met l y (dw_ws y bytes maxL ret) (dw_rm fr lo) (dw_P Γ As μ) (dw_Qv Γ ν) 0 0 (dw_A Γ)) (hq : (own, index, y, host) ∈ dw_nest) (hw : Cond.code y bytes maxL ret ∈ dw_TB) (hini : Cond.initialized y.cls ∈ dw_TB) (hsta : Cond.static y ∈ dw_TB)
    (hd : y.cls ≠ "java/lang/invoke/MethodHandle" ∧ y.cls ≠ "java/lang/invoke/VarHandle" ∧ (parseMethodDescriptor y.desc).map (fun d => d.parameters.length) = some As.length) (hR : fr + 1 ≤ R.frames ∧ 8 + (maxL + 11) + lo ≤ R.locals) (hcs : cells ≤ R.cells ∧ slots ≤ R.slots) (hls : ls.size = nL) (hrm : (rest.map fun v => v.category).sum ≤ 8) (hst : st0 = As.reverse ++ rest) (hdg : decode cc pc = .ok (.invokestatic index, 3))
    (kk : ∀ (H1 : Heap) (locs1 : List Loc), dw_Z Γ A H0 ν H1 locs1 → W p l e R s m args below meth c H1 locs1 cells slots Q (F0 m (pc + 3) ls rest)) : W p l e R s m args below meth c H locs cells slots Q (F0 m pc ls st0) := by
  obtain ⟨hx, hb, hml, hown, hT, hK, hj⟩ := C0
  refine va_callv (va_runSN (As := As) (rest := rest) (host := host) ⟨hx, hb, hml, hown, hT⟩ hM ⟨va_cnB As.length hT (dw_gw hw) rfl rfl rfl (hK.2 _ hq) (hT _ hini) hd hR, hT _ hsta, trivial⟩ ⟨dw_P.blind, fun U hU hW => ⟨rfl, by rw [hU]; exact Z.1, hK.warm hW⟩⟩ rfl rfl hls hst (lv_room hrm) hdg hcs) Z.2 (fun q _ h => hA q h) hA (fun u t H1 locs1 ht hvm hw hB hz1 hk1 hS => ?_)
  exact kk H1 locs1 ⟨by rw [← ht]; exact hB, hS⟩
end DWA
end
