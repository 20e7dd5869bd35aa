section
-- ===== PART A: goes FIRST, ahead of the names: the tables' words, and 'selects' of the private methods out of them =====
/-- a private method of a class that the tables say can be made, by its rows of tables_1 -/
def lw_okq (q : MethodName × Nat) : Prop := (q.1.cls ≠ "java/lang/invoke/MethodHandle" ∧ q.1.cls ≠ "java/lang/invoke/VarHandle") ∧ Cond.instantiable q.1.cls q.2 ∈ tables_1 ∧ Cond.privateMethod q.1 ∈ tables_1 ∧ Cond.instanceMethod q.1 ∈ tables_1
theorem lw_p0 : lw_okq (⟨"FleetYard$YardMap", "addStation", "()V"⟩, 9) := ⟨⟨by decide +kernel, by decide +kernel⟩, List.mem_of_getElem? (i := 319) (by decide +kernel), List.mem_of_getElem? (i := 398) (by decide +kernel), List.mem_of_getElem? (i := 399) (by decide +kernel)⟩
theorem lw_p1 : lw_okq (⟨"FleetYard$YardMap", "addParking", "()V"⟩, 9) := ⟨⟨by decide +kernel, by decide +kernel⟩, List.mem_of_getElem? (i := 319) (by decide +kernel), List.mem_of_getElem? (i := 402) (by decide +kernel), List.mem_of_getElem? (i := 403) (by decide +kernel)⟩
theorem lw_p2 : lw_okq (⟨"FleetYard$YardMap", "cellBeside", "(II)I"⟩, 9) := ⟨⟨by decide +kernel, by decide +kernel⟩, List.mem_of_getElem? (i := 319) (by decide +kernel), List.mem_of_getElem? (i := 410) (by decide +kernel), List.mem_of_getElem? (i := 411) (by decide +kernel)⟩
theorem lw_p3 : lw_okq (⟨"FleetYard", "beginAnew", "()V"⟩, 11) := ⟨⟨by decide +kernel, by decide +kernel⟩, List.mem_of_getElem? (i := 17) (by decide +kernel), List.mem_of_getElem? (i := 422) (by decide +kernel), List.mem_of_getElem? (i := 423) (by decide +kernel)⟩
theorem lw_p4 : lw_okq (⟨"FleetYard$Judge", "faultOfSigns", "(LFleetYard$Tape;LFleetYard$YardMap;)I"⟩, 5) := ⟨⟨by decide +kernel, by decide +kernel⟩, List.mem_of_getElem? (i := 42) (by decide +kernel), List.mem_of_getElem? (i := 527) (by decide +kernel), List.mem_of_getElem? (i := 528) (by decide +kernel)⟩
theorem lw_p5 : lw_okq (⟨"FleetYard$Judge", "takeByte", "(ILFleetYard$YardMap;)I"⟩, 5) := ⟨⟨by decide +kernel, by decide +kernel⟩, List.mem_of_getElem? (i := 42) (by decide +kernel), List.mem_of_getElem? (i := 531) (by decide +kernel), List.mem_of_getElem? (i := 532) (by decide +kernel)⟩
theorem lw_p6 : lw_okq (⟨"FleetYard$Judge", "endLine", "(LFleetYard$YardMap;)I"⟩, 5) := ⟨⟨by decide +kernel, by decide +kernel⟩, List.mem_of_getElem? (i := 42) (by decide +kernel), List.mem_of_getElem? (i := 535) (by decide +kernel), List.mem_of_getElem? (i := 536) (by decide +kernel)⟩
theorem lw_p7 : lw_okq (⟨"FleetYard$Judge", "faultOfWays", "(LFleetYard$YardMap;)I"⟩, 5) := ⟨⟨by decide +kernel, by decide +kernel⟩, List.mem_of_getElem? (i := 42) (by decide +kernel), List.mem_of_getElem? (i := 547) (by decide +kernel), List.mem_of_getElem? (i := 548) (by decide +kernel)⟩
theorem lw_p8 : lw_okq (⟨"FleetYard$Judge", "reachesLaterEndpoints", "(LFleetYard$YardMap;I)Z"⟩, 5) := ⟨⟨by decide +kernel, by decide +kernel⟩, List.mem_of_getElem? (i := 42) (by decide +kernel), List.mem_of_getElem? (i := 555) (by decide +kernel), List.mem_of_getElem? (i := 556) (by decide +kernel)⟩
theorem lw_p9 : lw_okq (⟨"FleetYard$Judge", "flood", "(LFleetYard$YardMap;I)V"⟩, 5) := ⟨⟨by decide +kernel, by decide +kernel⟩, List.mem_of_getElem? (i := 42) (by decide +kernel), List.mem_of_getElem? (i := 559) (by decide +kernel), List.mem_of_getElem? (i := 560) (by decide +kernel)⟩
theorem lw_p10 : lw_okq (⟨"FleetYard$Judge", "visit", "(II)I"⟩, 5) := ⟨⟨by decide +kernel, by decide +kernel⟩, List.mem_of_getElem? (i := 42) (by decide +kernel), List.mem_of_getElem? (i := 564) (by decide +kernel), List.mem_of_getElem? (i := 565) (by decide +kernel)⟩
theorem lw_p11 : lw_okq (⟨"FleetYard", "takeMessages", "()V"⟩, 11) := ⟨⟨by decide +kernel, by decide +kernel⟩, List.mem_of_getElem? (i := 17) (by decide +kernel), List.mem_of_getElem? (i := 605) (by decide +kernel), List.mem_of_getElem? (i := 606) (by decide +kernel)⟩
theorem lw_p12 : lw_okq (⟨"FleetYard", "deliver", "(LFleetYard$Message;)V"⟩, 11) := ⟨⟨by decide +kernel, by decide +kernel⟩, List.mem_of_getElem? (i := 17) (by decide +kernel), List.mem_of_getElem? (i := 613) (by decide +kernel), List.mem_of_getElem? (i := 614) (by decide +kernel)⟩
theorem lw_p13 : lw_okq (⟨"FleetYard", "vehicleAt", "(I)LFleetYard$Vehicle;"⟩, 11) := ⟨⟨by decide +kernel, by decide +kernel⟩, List.mem_of_getElem? (i := 17) (by decide +kernel), List.mem_of_getElem? (i := 617) (by decide +kernel), List.mem_of_getElem? (i := 618) (by decide +kernel)⟩
theorem lw_p14 : lw_okq (⟨"FleetYard", "driveVehicles", "()V"⟩, 11) := ⟨⟨by decide +kernel, by decide +kernel⟩, List.mem_of_getElem? (i := 17) (by decide +kernel), List.mem_of_getElem? (i := 637) (by decide +kernel), List.mem_of_getElem? (i := 638) (by decide +kernel)⟩
theorem lw_p15 : lw_okq (⟨"FleetYard$Radio", "fateOfNext", "()I"⟩, 6) := ⟨⟨by decide +kernel, by decide +kernel⟩, List.mem_of_getElem? (i := 66) (by decide +kernel), List.mem_of_getElem? (i := 653) (by decide +kernel), List.mem_of_getElem? (i := 654) (by decide +kernel)⟩
def lw_privs_1 : List (MethodName × Nat) := [(⟨"FleetYard$YardMap", "addStation", "()V"⟩, 9), (⟨"FleetYard$YardMap", "addParking", "()V"⟩, 9), (⟨"FleetYard$YardMap", "cellBeside", "(II)I"⟩, 9), (⟨"FleetYard", "beginAnew", "()V"⟩, 11), (⟨"FleetYard$Judge", "faultOfSigns", "(LFleetYard$Tape;LFleetYard$YardMap;)I"⟩, 5), (⟨"FleetYard$Judge", "takeByte", "(ILFleetYard$YardMap;)I"⟩, 5), (⟨"FleetYard$Judge", "endLine", "(LFleetYard$YardMap;)I"⟩, 5), (⟨"FleetYard$Judge", "faultOfWays", "(LFleetYard$YardMap;)I"⟩, 5), (⟨"FleetYard$Judge", "reachesLaterEndpoints", "(LFleetYard$YardMap;I)Z"⟩, 5), (⟨"FleetYard$Judge", "flood", "(LFleetYard$YardMap;I)V"⟩, 5), (⟨"FleetYard$Judge", "visit", "(II)I"⟩, 5), (⟨"FleetYard", "takeMessages", "()V"⟩, 11), (⟨"FleetYard", "deliver", "(LFleetYard$Message;)V"⟩, 11), (⟨"FleetYard", "vehicleAt", "(I)LFleetYard$Vehicle;"⟩, 11), (⟨"FleetYard", "driveVehicles", "()V"⟩, 11), (⟨"FleetYard$Radio", "fateOfNext", "()I"⟩, 6)]
theorem lw_r1 : ∀ q ∈ lw_privs_1, lw_okq q := List.forall_mem_cons.mpr ⟨lw_p0, List.forall_mem_cons.mpr ⟨lw_p1, List.forall_mem_cons.mpr ⟨lw_p2, List.forall_mem_cons.mpr ⟨lw_p3, List.forall_mem_cons.mpr ⟨lw_p4, List.forall_mem_cons.mpr ⟨lw_p5, List.forall_mem_cons.mpr ⟨lw_p6, List.forall_mem_cons.mpr ⟨lw_p7, List.forall_mem_cons.mpr ⟨lw_p8, List.forall_mem_cons.mpr ⟨lw_p9, List.forall_mem_cons.mpr ⟨lw_p10, List.forall_mem_cons.mpr ⟨lw_p11, List.forall_mem_cons.mpr ⟨lw_p12, List.forall_mem_cons.mpr ⟨lw_p13, List.forall_mem_cons.mpr ⟨lw_p14, List.forall_mem_cons.mpr ⟨lw_p15, fun _ h => absurd h List.not_mem_nil⟩⟩⟩⟩⟩⟩⟩⟩⟩⟩⟩⟩⟩⟩⟩⟩
theorem lw_p16 : lw_okq (⟨"FleetYard$Base", "leastIdle", "()I"⟩, 5) := ⟨⟨by decide +kernel, by decide +kernel⟩, List.mem_of_getElem? (i := 168) (by decide +kernel), List.mem_of_getElem? (i := 685) (by decide +kernel), List.mem_of_getElem? (i := 686) (by decide +kernel)⟩
theorem lw_p17 : lw_okq (⟨"FleetYard$Base", "givePlan", "(LFleetYard$YardMap;ILFleetYard$TaskBook;II)Z"⟩, 5) := ⟨⟨by decide +kernel, by decide +kernel⟩, List.mem_of_getElem? (i := 168) (by decide +kernel), List.mem_of_getElem? (i := 689) (by decide +kernel), List.mem_of_getElem? (i := 690) (by decide +kernel)⟩
theorem lw_p18 : lw_okq (⟨"FleetYard$Planner", "markGround", "()V"⟩, 14) := ⟨⟨by decide +kernel, by decide +kernel⟩, List.mem_of_getElem? (i := 176) (by decide +kernel), List.mem_of_getElem? (i := 701) (by decide +kernel), List.mem_of_getElem? (i := 702) (by decide +kernel)⟩
theorem lw_p19 : lw_okq (⟨"FleetYard$Planner", "mark", "([III)V"⟩, 14) := ⟨⟨by decide +kernel, by decide +kernel⟩, List.mem_of_getElem? (i := 176) (by decide +kernel), List.mem_of_getElem? (i := 707) (by decide +kernel), List.mem_of_getElem? (i := 708) (by decide +kernel)⟩
theorem lw_p20 : lw_okq (⟨"FleetYard$Planner", "spread", "()I"⟩, 14) := ⟨⟨by decide +kernel, by decide +kernel⟩, List.mem_of_getElem? (i := 176) (by decide +kernel), List.mem_of_getElem? (i := 714) (by decide +kernel), List.mem_of_getElem? (i := 715) (by decide +kernel)⟩
theorem lw_p21 : lw_okq (⟨"FleetYard$Planner", "clearLayer", "(I)V"⟩, 14) := ⟨⟨by decide +kernel, by decide +kernel⟩, List.mem_of_getElem? (i := 176) (by decide +kernel), List.mem_of_getElem? (i := 718) (by decide +kernel), List.mem_of_getElem? (i := 719) (by decide +kernel)⟩
theorem lw_p22 : lw_okq (⟨"FleetYard$Planner", "markHeld", "(I)V"⟩, 14) := ⟨⟨by decide +kernel, by decide +kernel⟩, List.mem_of_getElem? (i := 176) (by decide +kernel), List.mem_of_getElem? (i := 722) (by decide +kernel), List.mem_of_getElem? (i := 723) (by decide +kernel)⟩
theorem lw_p23 : lw_okq (⟨"FleetYard$Planner", "dropEntered", "(I)V"⟩, 14) := ⟨⟨by decide +kernel, by decide +kernel⟩, List.mem_of_getElem? (i := 176) (by decide +kernel), List.mem_of_getElem? (i := 730) (by decide +kernel), List.mem_of_getElem? (i := 731) (by decide +kernel)⟩
theorem lw_p24 : lw_okq (⟨"FleetYard$Planner", "spreadStage", "(II)V"⟩, 14) := ⟨⟨by decide +kernel, by decide +kernel⟩, List.mem_of_getElem? (i := 176) (by decide +kernel), List.mem_of_getElem? (i := 734) (by decide +kernel), List.mem_of_getElem? (i := 735) (by decide +kernel)⟩
theorem lw_p25 : lw_okq (⟨"FleetYard$Planner", "beside", "(II)I"⟩, 14) := ⟨⟨by decide +kernel, by decide +kernel⟩, List.mem_of_getElem? (i := 176) (by decide +kernel), List.mem_of_getElem? (i := 738) (by decide +kernel), List.mem_of_getElem? (i := 739) (by decide +kernel)⟩
theorem lw_p26 : lw_okq (⟨"FleetYard$Planner", "isReached", "(II)Z"⟩, 14) := ⟨⟨by decide +kernel, by decide +kernel⟩, List.mem_of_getElem? (i := 176) (by decide +kernel), List.mem_of_getElem? (i := 742) (by decide +kernel), List.mem_of_getElem? (i := 743) (by decide +kernel)⟩
theorem lw_p27 : lw_okq (⟨"FleetYard$Planner", "keepWhatLeadsHome", "(I)V"⟩, 14) := ⟨⟨by decide +kernel, by decide +kernel⟩, List.mem_of_getElem? (i := 176) (by decide +kernel), List.mem_of_getElem? (i := 746) (by decide +kernel), List.mem_of_getElem? (i := 747) (by decide +kernel)⟩
theorem lw_p28 : lw_okq (⟨"FleetYard$Planner", "keepStage", "(II)V"⟩, 14) := ⟨⟨by decide +kernel, by decide +kernel⟩, List.mem_of_getElem? (i := 176) (by decide +kernel), List.mem_of_getElem? (i := 750) (by decide +kernel), List.mem_of_getElem? (i := 751) (by decide +kernel)⟩
theorem lw_p29 : lw_okq (⟨"FleetYard$Planner", "followFirst", "(ILFleetYard$Route;)V"⟩, 14) := ⟨⟨by decide +kernel, by decide +kernel⟩, List.mem_of_getElem? (i := 176) (by decide +kernel), List.mem_of_getElem? (i := 754) (by decide +kernel), List.mem_of_getElem? (i := 755) (by decide +kernel)⟩
theorem lw_p30 : lw_okq (⟨"FleetYard$Planner", "firstWayOn", "(II)I"⟩, 14) := ⟨⟨by decide +kernel, by decide +kernel⟩, List.mem_of_getElem? (i := 176) (by decide +kernel), List.mem_of_getElem? (i := 759) (by decide +kernel), List.mem_of_getElem? (i := 760) (by decide +kernel)⟩
theorem lw_p31 : lw_okq (⟨"FleetYard$Route", "addStep", "(I)Z"⟩, 9) := ⟨⟨by decide +kernel, by decide +kernel⟩, List.mem_of_getElem? (i := 230) (by decide +kernel), List.mem_of_getElem? (i := 768) (by decide +kernel), List.mem_of_getElem? (i := 769) (by decide +kernel)⟩
def lw_privs_2 : List (MethodName × Nat) := [(⟨"FleetYard$Base", "leastIdle", "()I"⟩, 5), (⟨"FleetYard$Base", "givePlan", "(LFleetYard$YardMap;ILFleetYard$TaskBook;II)Z"⟩, 5), (⟨"FleetYard$Planner", "markGround", "()V"⟩, 14), (⟨"FleetYard$Planner", "mark", "([III)V"⟩, 14), (⟨"FleetYard$Planner", "spread", "()I"⟩, 14), (⟨"FleetYard$Planner", "clearLayer", "(I)V"⟩, 14), (⟨"FleetYard$Planner", "markHeld", "(I)V"⟩, 14), (⟨"FleetYard$Planner", "dropEntered", "(I)V"⟩, 14), (⟨"FleetYard$Planner", "spreadStage", "(II)V"⟩, 14), (⟨"FleetYard$Planner", "beside", "(II)I"⟩, 14), (⟨"FleetYard$Planner", "isReached", "(II)Z"⟩, 14), (⟨"FleetYard$Planner", "keepWhatLeadsHome", "(I)V"⟩, 14), (⟨"FleetYard$Planner", "keepStage", "(II)V"⟩, 14), (⟨"FleetYard$Planner", "followFirst", "(ILFleetYard$Route;)V"⟩, 14), (⟨"FleetYard$Planner", "firstWayOn", "(II)I"⟩, 14), (⟨"FleetYard$Route", "addStep", "(I)Z"⟩, 9)]
theorem lw_r2 : ∀ q ∈ lw_privs_2, lw_okq q := List.forall_mem_cons.mpr ⟨lw_p16, List.forall_mem_cons.mpr ⟨lw_p17, List.forall_mem_cons.mpr ⟨lw_p18, List.forall_mem_cons.mpr ⟨lw_p19, List.forall_mem_cons.mpr ⟨lw_p20, List.forall_mem_cons.mpr ⟨lw_p21, List.forall_mem_cons.mpr ⟨lw_p22, List.forall_mem_cons.mpr ⟨lw_p23, List.forall_mem_cons.mpr ⟨lw_p24, List.forall_mem_cons.mpr ⟨lw_p25, List.forall_mem_cons.mpr ⟨lw_p26, List.forall_mem_cons.mpr ⟨lw_p27, List.forall_mem_cons.mpr ⟨lw_p28, List.forall_mem_cons.mpr ⟨lw_p29, List.forall_mem_cons.mpr ⟨lw_p30, List.forall_mem_cons.mpr ⟨lw_p31, fun _ h => absurd h List.not_mem_nil⟩⟩⟩⟩⟩⟩⟩⟩⟩⟩⟩⟩⟩⟩⟩⟩
theorem lw_p32 : lw_okq (⟨"FleetYard$Route", "addAct", "(I)V"⟩, 9) := ⟨⟨by decide +kernel, by decide +kernel⟩, List.mem_of_getElem? (i := 230) (by decide +kernel), List.mem_of_getElem? (i := 772) (by decide +kernel), List.mem_of_getElem? (i := 773) (by decide +kernel)⟩
theorem lw_p33 : lw_okq (⟨"FleetYard$Base", "noteHopeless", "(III)V"⟩, 5) := ⟨⟨by decide +kernel, by decide +kernel⟩, List.mem_of_getElem? (i := 168) (by decide +kernel), List.mem_of_getElem? (i := 784) (by decide +kernel), List.mem_of_getElem? (i := 785) (by decide +kernel)⟩
theorem lw_p34 : lw_okq (⟨"FleetYard$Base", "isGrantDue", "(III)Z"⟩, 5) := ⟨⟨by decide +kernel, by decide +kernel⟩, List.mem_of_getElem? (i := 168) (by decide +kernel), List.mem_of_getElem? (i := 809) (by decide +kernel), List.mem_of_getElem? (i := 810) (by decide +kernel)⟩
theorem lw_p35 : lw_okq (⟨"FleetYard$Account", "firstActNotOver", "()I"⟩, 7) := ⟨⟨by decide +kernel, by decide +kernel⟩, List.mem_of_getElem? (i := 224) (by decide +kernel), List.mem_of_getElem? (i := 831) (by decide +kernel), List.mem_of_getElem? (i := 832) (by decide +kernel)⟩
theorem lw_p36 : lw_okq (⟨"FleetYard", "vehicleIn", "(I)I"⟩, 11) := ⟨⟨by decide +kernel, by decide +kernel⟩, List.mem_of_getElem? (i := 17) (by decide +kernel), List.mem_of_getElem? (i := 848) (by decide +kernel), List.mem_of_getElem? (i := 849) (by decide +kernel)⟩
theorem lw_p37 : lw_okq (⟨"FleetYardModel", "begins", "()V"⟩, 65) := ⟨⟨by decide +kernel, by decide +kernel⟩, List.mem_of_getElem? (i := 906) (by decide +kernel), List.mem_of_getElem? (i := 913) (by decide +kernel), List.mem_of_getElem? (i := 914) (by decide +kernel)⟩
theorem lw_p38 : lw_okq (⟨"FleetYardModel", "put", "(I)V"⟩, 65) := ⟨⟨by decide +kernel, by decide +kernel⟩, List.mem_of_getElem? (i := 906) (by decide +kernel), List.mem_of_getElem? (i := 1117) (by decide +kernel), List.mem_of_getElem? (i := 1118) (by decide +kernel)⟩
theorem lw_p39 : lw_okq (⟨"FleetYardModel", "cuts", "(I)V"⟩, 65) := ⟨⟨by decide +kernel, by decide +kernel⟩, List.mem_of_getElem? (i := 906) (by decide +kernel), List.mem_of_getElem? (i := 1129) (by decide +kernel), List.mem_of_getElem? (i := 1130) (by decide +kernel)⟩
theorem lw_p40 : lw_okq (⟨"FleetYardModel", "apart", "()I"⟩, 65) := ⟨⟨by decide +kernel, by decide +kernel⟩, List.mem_of_getElem? (i := 906) (by decide +kernel), List.mem_of_getElem? (i := 1136) (by decide +kernel), List.mem_of_getElem? (i := 1137) (by decide +kernel)⟩
theorem lw_p41 : lw_okq (⟨"FleetYardModel", "readAt", "(II)I"⟩, 65) := ⟨⟨by decide +kernel, by decide +kernel⟩, List.mem_of_getElem? (i := 906) (by decide +kernel), List.mem_of_getElem? (i := 1140) (by decide +kernel), List.mem_of_getElem? (i := 1141) (by decide +kernel)⟩
theorem lw_p42 : lw_okq (⟨"FleetYardModel", "messagesCome", "()V"⟩, 65) := ⟨⟨by decide +kernel, by decide +kernel⟩, List.mem_of_getElem? (i := 906) (by decide +kernel), List.mem_of_getElem? (i := 1164) (by decide +kernel), List.mem_of_getElem? (i := 1165) (by decide +kernel)⟩
theorem lw_p43 : lw_okq (⟨"FleetYardModel", "nextComing", "()I"⟩, 65) := ⟨⟨by decide +kernel, by decide +kernel⟩, List.mem_of_getElem? (i := 906) (by decide +kernel), List.mem_of_getElem? (i := 1168) (by decide +kernel), List.mem_of_getElem? (i := 1169) (by decide +kernel)⟩
theorem lw_p44 : lw_okq (⟨"FleetYardModel", "granting", "(IIII)V"⟩, 65) := ⟨⟨by decide +kernel, by decide +kernel⟩, List.mem_of_getElem? (i := 906) (by decide +kernel), List.mem_of_getElem? (i := 1172) (by decide +kernel), List.mem_of_getElem? (i := 1173) (by decide +kernel)⟩
theorem lw_p45 : lw_okq (⟨"FleetYardModel", "reporting", "(III)V"⟩, 65) := ⟨⟨by decide +kernel, by decide +kernel⟩, List.mem_of_getElem? (i := 906) (by decide +kernel), List.mem_of_getElem? (i := 1176) (by decide +kernel), List.mem_of_getElem? (i := 1177) (by decide +kernel)⟩
theorem lw_p46 : lw_okq (⟨"FleetYardModel", "vehicleActs", "(I)V"⟩, 65) := ⟨⟨by decide +kernel, by decide +kernel⟩, List.mem_of_getElem? (i := 906) (by decide +kernel), List.mem_of_getElem? (i := 1180) (by decide +kernel), List.mem_of_getElem? (i := 1181) (by decide +kernel)⟩
theorem lw_p47 : lw_okq (⟨"FleetYardModel", "sends", "(IIIII)V"⟩, 65) := ⟨⟨by decide +kernel, by decide +kernel⟩, List.mem_of_getElem? (i := 906) (by decide +kernel), List.mem_of_getElem? (i := 1184) (by decide +kernel), List.mem_of_getElem? (i := 1185) (by decide +kernel)⟩
def lw_privs_3 : List (MethodName × Nat) := [(⟨"FleetYard$Route", "addAct", "(I)V"⟩, 9), (⟨"FleetYard$Base", "noteHopeless", "(III)V"⟩, 5), (⟨"FleetYard$Base", "isGrantDue", "(III)Z"⟩, 5), (⟨"FleetYard$Account", "firstActNotOver", "()I"⟩, 7), (⟨"FleetYard", "vehicleIn", "(I)I"⟩, 11), (⟨"FleetYardModel", "begins", "()V"⟩, 65), (⟨"FleetYardModel", "put", "(I)V"⟩, 65), (⟨"FleetYardModel", "cuts", "(I)V"⟩, 65), (⟨"FleetYardModel", "apart", "()I"⟩, 65), (⟨"FleetYardModel", "readAt", "(II)I"⟩, 65), (⟨"FleetYardModel", "messagesCome", "()V"⟩, 65), (⟨"FleetYardModel", "nextComing", "()I"⟩, 65), (⟨"FleetYardModel", "granting", "(IIII)V"⟩, 65), (⟨"FleetYardModel", "reporting", "(III)V"⟩, 65), (⟨"FleetYardModel", "vehicleActs", "(I)V"⟩, 65), (⟨"FleetYardModel", "sends", "(IIIII)V"⟩, 65)]
theorem lw_r3 : ∀ q ∈ lw_privs_3, lw_okq q := List.forall_mem_cons.mpr ⟨lw_p32, List.forall_mem_cons.mpr ⟨lw_p33, List.forall_mem_cons.mpr ⟨lw_p34, List.forall_mem_cons.mpr ⟨lw_p35, List.forall_mem_cons.mpr ⟨lw_p36, List.forall_mem_cons.mpr ⟨lw_p37, List.forall_mem_cons.mpr ⟨lw_p38, List.forall_mem_cons.mpr ⟨lw_p39, List.forall_mem_cons.mpr ⟨lw_p40, List.forall_mem_cons.mpr ⟨lw_p41, List.forall_mem_cons.mpr ⟨lw_p42, List.forall_mem_cons.mpr ⟨lw_p43, List.forall_mem_cons.mpr ⟨lw_p44, List.forall_mem_cons.mpr ⟨lw_p45, List.forall_mem_cons.mpr ⟨lw_p46, List.forall_mem_cons.mpr ⟨lw_p47, fun _ h => absurd h List.not_mem_nil⟩⟩⟩⟩⟩⟩⟩⟩⟩⟩⟩⟩⟩⟩⟩⟩
theorem lw_p48 : lw_okq (⟨"FleetYardModel", "baseActs", "()I"⟩, 65) := ⟨⟨by decide +kernel, by decide +kernel⟩, List.mem_of_getElem? (i := 906) (by decide +kernel), List.mem_of_getElem? (i := 1188) (by decide +kernel), List.mem_of_getElem? (i := 1189) (by decide +kernel)⟩
theorem lw_p49 : lw_okq (⟨"FleetYardModel", "known", "(I)I"⟩, 65) := ⟨⟨by decide +kernel, by decide +kernel⟩, List.mem_of_getElem? (i := 906) (by decide +kernel), List.mem_of_getElem? (i := 1192) (by decide +kernel), List.mem_of_getElem? (i := 1193) (by decide +kernel)⟩
theorem lw_p50 : lw_okq (⟨"FleetYardModel", "finds", "(IIII)Z"⟩, 65) := ⟨⟨by decide +kernel, by decide +kernel⟩, List.mem_of_getElem? (i := 906) (by decide +kernel), List.mem_of_getElem? (i := 1196) (by decide +kernel), List.mem_of_getElem? (i := 1197) (by decide +kernel)⟩
theorem lw_p51 : lw_okq (⟨"FleetYardModel", "leadsTo", "(IIIII)I"⟩, 65) := ⟨⟨by decide +kernel, by decide +kernel⟩, List.mem_of_getElem? (i := 906) (by decide +kernel), List.mem_of_getElem? (i := 1200) (by decide +kernel), List.mem_of_getElem? (i := 1201) (by decide +kernel)⟩
theorem lw_p52 : lw_okq (⟨"FleetYardModel", "neighbour", "(II)I"⟩, 65) := ⟨⟨by decide +kernel, by decide +kernel⟩, List.mem_of_getElem? (i := 906) (by decide +kernel), List.mem_of_getElem? (i := 1204) (by decide +kernel), List.mem_of_getElem? (i := 1205) (by decide +kernel)⟩
theorem lw_p53 : lw_okq (⟨"FleetYardModel", "isClear", "(IIII)Z"⟩, 65) := ⟨⟨by decide +kernel, by decide +kernel⟩, List.mem_of_getElem? (i := 906) (by decide +kernel), List.mem_of_getElem? (i := 1208) (by decide +kernel), List.mem_of_getElem? (i := 1209) (by decide +kernel)⟩
theorem lw_p54 : lw_okq (⟨"FleetYardModel", "tripAt", "(II)I"⟩, 65) := ⟨⟨by decide +kernel, by decide +kernel⟩, List.mem_of_getElem? (i := 906) (by decide +kernel), List.mem_of_getElem? (i := 1212) (by decide +kernel), List.mem_of_getElem? (i := 1213) (by decide +kernel)⟩
theorem lw_p55 : lw_okq (⟨"FleetYardModel", "grants", "(I)V"⟩, 65) := ⟨⟨by decide +kernel, by decide +kernel⟩, List.mem_of_getElem? (i := 906) (by decide +kernel), List.mem_of_getElem? (i := 1216) (by decide +kernel), List.mem_of_getElem? (i := 1217) (by decide +kernel)⟩
theorem lw_p56 : lw_okq (⟨"FleetYardModel", "waitFor", "(I)V"⟩, 65) := ⟨⟨by decide +kernel, by decide +kernel⟩, List.mem_of_getElem? (i := 906) (by decide +kernel), List.mem_of_getElem? (i := 1220) (by decide +kernel), List.mem_of_getElem? (i := 1221) (by decide +kernel)⟩
theorem lw_p57 : lw_okq (⟨"FleetYardModel", "isOver", "(II)Z"⟩, 65) := ⟨⟨by decide +kernel, by decide +kernel⟩, List.mem_of_getElem? (i := 906) (by decide +kernel), List.mem_of_getElem? (i := 1224) (by decide +kernel), List.mem_of_getElem? (i := 1225) (by decide +kernel)⟩
def lw_privs_4 : List (MethodName × Nat) := [(⟨"FleetYardModel", "baseActs", "()I"⟩, 65), (⟨"FleetYardModel", "known", "(I)I"⟩, 65), (⟨"FleetYardModel", "finds", "(IIII)Z"⟩, 65), (⟨"FleetYardModel", "leadsTo", "(IIIII)I"⟩, 65), (⟨"FleetYardModel", "neighbour", "(II)I"⟩, 65), (⟨"FleetYardModel", "isClear", "(IIII)Z"⟩, 65), (⟨"FleetYardModel", "tripAt", "(II)I"⟩, 65), (⟨"FleetYardModel", "grants", "(I)V"⟩, 65), (⟨"FleetYardModel", "waitFor", "(I)V"⟩, 65), (⟨"FleetYardModel", "isOver", "(II)Z"⟩, 65)]
theorem lw_r4 : ∀ q ∈ lw_privs_4, lw_okq q := List.forall_mem_cons.mpr ⟨lw_p48, List.forall_mem_cons.mpr ⟨lw_p49, List.forall_mem_cons.mpr ⟨lw_p50, List.forall_mem_cons.mpr ⟨lw_p51, List.forall_mem_cons.mpr ⟨lw_p52, List.forall_mem_cons.mpr ⟨lw_p53, List.forall_mem_cons.mpr ⟨lw_p54, List.forall_mem_cons.mpr ⟨lw_p55, List.forall_mem_cons.mpr ⟨lw_p56, List.forall_mem_cons.mpr ⟨lw_p57, fun _ h => absurd h List.not_mem_nil⟩⟩⟩⟩⟩⟩⟩⟩⟩⟩
def lw_privs : List (MethodName × Nat) := lw_privs_1 ++ (lw_privs_2 ++ (lw_privs_3 ++ (lw_privs_4)))
def lw_tbl : List Cond := k2_sels lw_privs ++ tables_1
theorem lw_privs_ok : ∀ q ∈ lw_privs, lw_okq q := by
  show ∀ q ∈ lw_privs_1 ++ (lw_privs_2 ++ (lw_privs_3 ++ (lw_privs_4))), lw_okq q
  exact List.forall_mem_append.mpr ⟨lw_r1, List.forall_mem_append.mpr ⟨lw_r2, List.forall_mem_append.mpr ⟨lw_r3, lw_r4⟩⟩⟩
end
section
def RX0 : String := "FleetYard$Account"
def TX0 : u_T := fun k => match k with
  | 0 => ("FleetYard$Account", "route", "LFleetYard$Route;", true)
  | 1 => ("FleetYard$Account", "plan", "I", false)
  | 2 => ("FleetYard$Account", "task", "I", false)
  | 3 => ("FleetYard$Account", "knownPlan", "I", false)
  | 4 => ("FleetYard$Account", "knownAct", "I", false)
  | 5 => ("FleetYard$Account", "granted", "I", false)
  | _ => ("FleetYard$Account", "grantTick", "I", false)
def tyX0 : Nat → FieldType := fun k => match k with
  | 0 => .object "FleetYard$Route"
  | 1 => .int
  | 2 => .int
  | 3 => .int
  | 4 => .int
  | 5 => .int
  | _ => .int
theorem nmX0 : ∀ a, a < 7 → ∀ b, b < 7 → a ≠ b → (TX0 a).2.1 ≠ (TX0 b).2.1 := by decide +kernel
theorem tyX0_ok : ∀ k, k < 7 → parseFieldDescriptor (TX0 k).2.2.1 = some (tyX0 k) := by decide +kernel
abbrev cX0_init : ByteArray := prog_2_method_1_code
def yX0_init : MethodName := ⟨RX0, "<init>", "()V"⟩
abbrev cX0_beginAnew : ByteArray := prog_2_method_2_code
def yX0_beginAnew : MethodName := ⟨RX0, "beginAnew", "(I)V"⟩
abbrev cX0_take : ByteArray := prog_2_method_3_code
def yX0_take : MethodName := ⟨RX0, "take", "(I)V"⟩
abbrev cX0_learn : ByteArray := prog_2_method_4_code
def yX0_learn : MethodName := ⟨RX0, "learn", "(LFleetYard$Message;)V"⟩
abbrev cX0_isIdle : ByteArray := prog_2_method_5_code
def yX0_isIdle : MethodName := ⟨RX0, "isIdle", "()Z"⟩
abbrev cX0_actsKnown : ByteArray := prog_2_method_6_code
def yX0_actsKnown : MethodName := ⟨RX0, "actsKnown", "()I"⟩
abbrev cX0_isDoneWhole : ByteArray := prog_2_method_7_code
def yX0_isDoneWhole : MethodName := ⟨RX0, "isDoneWhole", "()Z"⟩
abbrev cX0_nextActTo : ByteArray := prog_2_method_8_code
def yX0_nextActTo : MethodName := ⟨RX0, "nextActTo", "(I)I"⟩
abbrev cX0_openActsTo : ByteArray := prog_2_method_9_code
def yX0_openActsTo : MethodName := ⟨RX0, "openActsTo", "(I)I"⟩
abbrev cX0_firstActNotOver : ByteArray := prog_2_method_10_code
def yX0_firstActNotOver : MethodName := ⟨RX0, "firstActNotOver", "()I"⟩
def RX1 : String := "FleetYard$Base"
def TX1 : u_T := fun k => match k with
  | 0 => ("FleetYard$Base", "accounts", "[LFleetYard$Account;", true)
  | 1 => ("FleetYard$Base", "planner", "LFleetYard$Planner;", true)
  | 2 => ("FleetYard$Base", "fleet", "I", false)
  | 3 => ("FleetYard$Base", "hopelessTask", "I", false)
  | _ => ("FleetYard$Base", "hopelessVehicle", "I", false)
def tyX1 : Nat → FieldType := fun k => match k with
  | 0 => .array (.object "FleetYard$Account")
  | 1 => .object "FleetYard$Planner"
  | 2 => .int
  | 3 => .int
  | _ => .int
theorem nmX1 : ∀ a, a < 5 → ∀ b, b < 5 → a ≠ b → (TX1 a).2.1 ≠ (TX1 b).2.1 := by decide +kernel
theorem tyX1_ok : ∀ k, k < 5 → parseFieldDescriptor (TX1 k).2.2.1 = some (tyX1 k) := by decide +kernel
abbrev cX1_init : ByteArray := prog_3_method_1_code
def yX1_init : MethodName := ⟨RX1, "<init>", "()V"⟩
abbrev cX1_beginAnew : ByteArray := prog_3_method_2_code
def yX1_beginAnew : MethodName := ⟨RX1, "beginAnew", "(LFleetYard$YardMap;)V"⟩
abbrev cX1_accountAt : ByteArray := prog_3_method_3_code
def yX1_accountAt : MethodName := ⟨RX1, "accountAt", "(I)LFleetYard$Account;"⟩
abbrev cX1_waitingAt : ByteArray := prog_3_method_4_code
def yX1_waitingAt : MethodName := ⟨RX1, "waitingAt", "(I)I"⟩
abbrev cX1_firstWaitingAt : ByteArray := prog_3_method_5_code
def yX1_firstWaitingAt : MethodName := ⟨RX1, "firstWaitingAt", "(I)I"⟩
abbrev cX1_noteFinished : ByteArray := prog_3_method_6_code
def yX1_noteFinished : MethodName := ⟨RX1, "noteFinished", "(LFleetYard$TaskBook;I)V"⟩
abbrev cX1_handOut : ByteArray := prog_3_method_7_code
def yX1_handOut : MethodName := ⟨RX1, "handOut", "(LFleetYard$YardMap;LFleetYard$TaskBook;I)V"⟩
abbrev cX1_leastIdle : ByteArray := prog_3_method_8_code
def yX1_leastIdle : MethodName := ⟨RX1, "leastIdle", "()I"⟩
abbrev cX1_givePlan : ByteArray := prog_3_method_9_code
def yX1_givePlan : MethodName := ⟨RX1, "givePlan", "(LFleetYard$YardMap;ILFleetYard$TaskBook;II)Z"⟩
abbrev cX1_noteHopeless : ByteArray := prog_3_method_10_code
def yX1_noteHopeless : MethodName := ⟨RX1, "noteHopeless", "(III)V"⟩
abbrev cX1_sendGrants : ByteArray := prog_3_method_11_code
def yX1_sendGrants : MethodName := ⟨RX1, "sendGrants", "(LFleetYard$Radio;I)V"⟩
abbrev cX1_isGrantDue : ByteArray := prog_3_method_12_code
def yX1_isGrantDue : MethodName := ⟨RX1, "isGrantDue", "(III)Z"⟩
def RX2 : String := "FleetYard$Judge"
def TX2 : u_T := fun k => match k with
  | 0 => ("FleetYard$Judge", "queue", "[I", true)
  | 1 => ("FleetYard$Judge", "seen", "[I", true)
  | 2 => ("FleetYard$Judge", "faultPlace", "I", false)
  | 3 => ("FleetYard$Judge", "line", "I", false)
  | _ => ("FleetYard$Judge", "column", "I", false)
def tyX2 : Nat → FieldType := fun k => match k with
  | 0 => .array .int
  | 1 => .array .int
  | 2 => .int
  | 3 => .int
  | _ => .int
theorem nmX2 : ∀ a, a < 5 → ∀ b, b < 5 → a ≠ b → (TX2 a).2.1 ≠ (TX2 b).2.1 := by decide +kernel
theorem tyX2_ok : ∀ k, k < 5 → parseFieldDescriptor (TX2 k).2.2.1 = some (tyX2 k) := by decide +kernel
abbrev cX2_init : ByteArray := prog_4_method_1_code
def yX2_init : MethodName := ⟨RX2, "<init>", "()V"⟩
abbrev cX2_faultOf : ByteArray := prog_4_method_2_code
def yX2_faultOf : MethodName := ⟨RX2, "faultOf", "(LFleetYard$Tape;LFleetYard$YardMap;)I"⟩
abbrev cX2_faultOfSigns : ByteArray := prog_4_method_3_code
def yX2_faultOfSigns : MethodName := ⟨RX2, "faultOfSigns", "(LFleetYard$Tape;LFleetYard$YardMap;)I"⟩
abbrev cX2_takeByte : ByteArray := prog_4_method_4_code
def yX2_takeByte : MethodName := ⟨RX2, "takeByte", "(ILFleetYard$YardMap;)I"⟩
abbrev cX2_endLine : ByteArray := prog_4_method_5_code
def yX2_endLine : MethodName := ⟨RX2, "endLine", "(LFleetYard$YardMap;)I"⟩
abbrev cX2_kindOfSign : ByteArray := prog_4_method_6_code
def yX2_kindOfSign : MethodName := ⟨RX2, "kindOfSign", "(I)I"⟩
abbrev cX2_faultOfNumbers : ByteArray := prog_4_method_7_code
def yX2_faultOfNumbers : MethodName := ⟨RX2, "faultOfNumbers", "(LFleetYard$YardMap;)I"⟩
abbrev cX2_faultOfWays : ByteArray := prog_4_method_8_code
def yX2_faultOfWays : MethodName := ⟨RX2, "faultOfWays", "(LFleetYard$YardMap;)I"⟩
abbrev cX2_reachesLaterEndpoints : ByteArray := prog_4_method_9_code
def yX2_reachesLaterEndpoints : MethodName := ⟨RX2, "reachesLaterEndpoints", "(LFleetYard$YardMap;I)Z"⟩
abbrev cX2_flood : ByteArray := prog_4_method_10_code
def yX2_flood : MethodName := ⟨RX2, "flood", "(LFleetYard$YardMap;I)V"⟩
abbrev cX2_visit : ByteArray := prog_4_method_11_code
def yX2_visit : MethodName := ⟨RX2, "visit", "(II)I"⟩
def RX3 : String := "FleetYard$Message"
def TX3 : u_T := fun k => match k with
  | 0 => ("FleetYard$Message", "isGrant", "Z", false)
  | 1 => ("FleetYard$Message", "vehicle", "I", false)
  | 2 => ("FleetYard$Message", "plan", "I", false)
  | 3 => ("FleetYard$Message", "act", "I", false)
  | 4 => ("FleetYard$Message", "cell", "I", false)
  | 5 => ("FleetYard$Message", "due", "I", false)
  | _ => ("FleetYard$Message", "comings", "I", false)
def tyX3 : Nat → FieldType := fun k => match k with
  | 0 => .boolean
  | 1 => .int
  | 2 => .int
  | 3 => .int
  | 4 => .int
  | 5 => .int
  | _ => .int
theorem nmX3 : ∀ a, a < 7 → ∀ b, b < 7 → a ≠ b → (TX3 a).2.1 ≠ (TX3 b).2.1 := by decide +kernel
theorem tyX3_ok : ∀ k, k < 7 → parseFieldDescriptor (TX3 k).2.2.1 = some (tyX3 k) := by decide +kernel
abbrev cX3_init : ByteArray := prog_5_method_1_code
def yX3_init : MethodName := ⟨RX3, "<init>", "()V"⟩
def RX4 : String := "FleetYard$Planner"
def TX4 : u_T := fun k => match k with
  | 0 => ("FleetYard$Planner", "reached", "[I", true)
  | 1 => ("FleetYard$Planner", "open", "[I", true)
  | 2 => ("FleetYard$Planner", "turns", "[I", true)
  | 3 => ("FleetYard$Planner", "heldBefore", "[I", false)
  | 4 => ("FleetYard$Planner", "heldAfter", "[I", false)
  | 5 => ("FleetYard$Planner", "map", "LFleetYard$YardMap;", false)
  | 6 => ("FleetYard$Planner", "accounts", "[LFleetYard$Account;", false)
  | 7 => ("FleetYard$Planner", "width", "I", false)
  | 8 => ("FleetYard$Planner", "lines", "I", false)
  | 9 => ("FleetYard$Planner", "own", "I", false)
  | 10 => ("FleetYard$Planner", "start", "I", false)
  | 11 => ("FleetYard$Planner", "from", "I", false)
  | 12 => ("FleetYard$Planner", "to", "I", false)
  | _ => ("FleetYard$Planner", "parking", "I", false)
def tyX4 : Nat → FieldType := fun k => match k with
  | 0 => .array .int
  | 1 => .array .int
  | 2 => .array .int
  | 3 => .array .int
  | 4 => .array .int
  | 5 => .object "FleetYard$YardMap"
  | 6 => .array (.object "FleetYard$Account")
  | 7 => .int
  | 8 => .int
  | 9 => .int
  | 10 => .int
  | 11 => .int
  | 12 => .int
  | _ => .int
theorem nmX4 : ∀ a, a < 14 → ∀ b, b < 14 → a ≠ b → (TX4 a).2.1 ≠ (TX4 b).2.1 := by decide +kernel
theorem tyX4_ok : ∀ k, k < 14 → parseFieldDescriptor (TX4 k).2.2.1 = some (tyX4 k) := by decide +kernel
abbrev cX4_init : ByteArray := prog_6_method_1_code
def yX4_init : MethodName := ⟨RX4, "<init>", "()V"⟩
abbrev cX4_findTrip : ByteArray := prog_6_method_2_code
def yX4_findTrip : MethodName := ⟨RX4, "findTrip", "(LFleetYard$YardMap;[LFleetYard$Account;IIII)Z"⟩
abbrev cX4_markGround : ByteArray := prog_6_method_3_code
def yX4_markGround : MethodName := ⟨RX4, "markGround", "()V"⟩
abbrev cX4_spread : ByteArray := prog_6_method_4_code
def yX4_spread : MethodName := ⟨RX4, "spread", "()I"⟩
abbrev cX4_markHeld : ByteArray := prog_6_method_5_code
def yX4_markHeld : MethodName := ⟨RX4, "markHeld", "(I)V"⟩
abbrev cX4_dropEntered : ByteArray := prog_6_method_6_code
def yX4_dropEntered : MethodName := ⟨RX4, "dropEntered", "(I)V"⟩
abbrev cX4_spreadStage : ByteArray := prog_6_method_7_code
def yX4_spreadStage : MethodName := ⟨RX4, "spreadStage", "(II)V"⟩
abbrev cX4_keepWhatLeadsHome : ByteArray := prog_6_method_8_code
def yX4_keepWhatLeadsHome : MethodName := ⟨RX4, "keepWhatLeadsHome", "(I)V"⟩
abbrev cX4_keepStage : ByteArray := prog_6_method_9_code
def yX4_keepStage : MethodName := ⟨RX4, "keepStage", "(II)V"⟩
abbrev cX4_followFirst : ByteArray := prog_6_method_10_code
def yX4_followFirst : MethodName := ⟨RX4, "followFirst", "(ILFleetYard$Route;)V"⟩
abbrev cX4_firstWayOn : ByteArray := prog_6_method_11_code
def yX4_firstWayOn : MethodName := ⟨RX4, "firstWayOn", "(II)I"⟩
abbrev cX4_beside : ByteArray := prog_6_method_12_code
def yX4_beside : MethodName := ⟨RX4, "beside", "(II)I"⟩
abbrev cX4_rowOf : ByteArray := prog_6_method_13_code
def yX4_rowOf : MethodName := ⟨RX4, "rowOf", "(II)I"⟩
abbrev cX4_clearLayer : ByteArray := prog_6_method_14_code
def yX4_clearLayer : MethodName := ⟨RX4, "clearLayer", "(I)V"⟩
abbrev cX4_mark : ByteArray := prog_6_method_15_code
def yX4_mark : MethodName := ⟨RX4, "mark", "([III)V"⟩
abbrev cX4_isReached : ByteArray := prog_6_method_16_code
def yX4_isReached : MethodName := ⟨RX4, "isReached", "(II)Z"⟩
def RX5 : String := "FleetYard$Radio"
def TX5 : u_T := fun k => match k with
  | 0 => ("FleetYard$Radio", "fateRow", "[I", true)
  | 1 => ("FleetYard$Radio", "messages", "[LFleetYard$Message;", true)
  | 2 => ("FleetYard$Radio", "fateCount", "I", false)
  | 3 => ("FleetYard$Radio", "size", "I", false)
  | 4 => ("FleetYard$Radio", "sent", "I", false)
  | _ => ("FleetYard$Radio", "lost", "I", false)
def tyX5 : Nat → FieldType := fun k => match k with
  | 0 => .array .int
  | 1 => .array (.object "FleetYard$Message")
  | 2 => .int
  | 3 => .int
  | 4 => .int
  | _ => .int
theorem nmX5 : ∀ a, a < 6 → ∀ b, b < 6 → a ≠ b → (TX5 a).2.1 ≠ (TX5 b).2.1 := by decide +kernel
theorem tyX5_ok : ∀ k, k < 6 → parseFieldDescriptor (TX5 k).2.2.1 = some (tyX5 k) := by decide +kernel
abbrev cX5_init : ByteArray := prog_7_method_1_code
def yX5_init : MethodName := ⟨RX5, "<init>", "()V"⟩
abbrev cX5_clear : ByteArray := prog_7_method_2_code
def yX5_clear : MethodName := ⟨RX5, "clear", "()V"⟩
abbrev cX5_clearFates : ByteArray := prog_7_method_3_code
def yX5_clearFates : MethodName := ⟨RX5, "clearFates", "(I)Z"⟩
abbrev cX5_setFate : ByteArray := prog_7_method_4_code
def yX5_setFate : MethodName := ⟨RX5, "setFate", "(II)Z"⟩
abbrev cX5_send : ByteArray := prog_7_method_5_code
def yX5_send : MethodName := ⟨RX5, "send", "(IZIIII)V"⟩
abbrev cX5_fateOfNext : ByteArray := prog_7_method_6_code
def yX5_fateOfNext : MethodName := ⟨RX5, "fateOfNext", "()I"⟩
abbrev cX5_comingAt : ByteArray := prog_7_method_7_code
def yX5_comingAt : MethodName := ⟨RX5, "comingAt", "(II)LFleetYard$Message;"⟩
abbrev cX5_forgetCome : ByteArray := prog_7_method_8_code
def yX5_forgetCome : MethodName := ⟨RX5, "forgetCome", "(I)V"⟩
abbrev cX5_comingsOnTheWay : ByteArray := prog_7_method_9_code
def yX5_comingsOnTheWay : MethodName := ⟨RX5, "comingsOnTheWay", "()I"⟩
def RX6 : String := "FleetYard$Route"
def TX6 : u_T := fun k => match k with
  | 0 => ("FleetYard$Route", "cells", "[I", true)
  | 1 => ("FleetYard$Route", "actCells", "[I", true)
  | 2 => ("FleetYard$Route", "actMoments", "[I", true)
  | 3 => ("FleetYard$Route", "parking", "I", false)
  | 4 => ("FleetYard$Route", "start", "I", false)
  | 5 => ("FleetYard$Route", "steps", "I", false)
  | 6 => ("FleetYard$Route", "acts", "I", false)
  | 7 => ("FleetYard$Route", "loadingAct", "I", false)
  | _ => ("FleetYard$Route", "endingAct", "I", false)
def tyX6 : Nat → FieldType := fun k => match k with
  | 0 => .array .int
  | 1 => .array .int
  | 2 => .array .int
  | 3 => .int
  | 4 => .int
  | 5 => .int
  | 6 => .int
  | 7 => .int
  | _ => .int
theorem nmX6 : ∀ a, a < 9 → ∀ b, b < 9 → a ≠ b → (TX6 a).2.1 ≠ (TX6 b).2.1 := by decide +kernel
theorem tyX6_ok : ∀ k, k < 9 → parseFieldDescriptor (TX6 k).2.2.1 = some (tyX6 k) := by decide +kernel
abbrev cX6_init : ByteArray := prog_8_method_1_code
def yX6_init : MethodName := ⟨RX6, "<init>", "()V"⟩
abbrev cX6_begin : ByteArray := prog_8_method_2_code
def yX6_begin : MethodName := ⟨RX6, "begin", "(II)V"⟩
abbrev cX6_addMove : ByteArray := prog_8_method_3_code
def yX6_addMove : MethodName := ⟨RX6, "addMove", "(I)V"⟩
abbrev cX6_addWait : ByteArray := prog_8_method_4_code
def yX6_addWait : MethodName := ⟨RX6, "addWait", "(I)V"⟩
abbrev cX6_addTurn : ByteArray := prog_8_method_5_code
def yX6_addTurn : MethodName := ⟨RX6, "addTurn", "(II)V"⟩
abbrev cX6_addStep : ByteArray := prog_8_method_6_code
def yX6_addStep : MethodName := ⟨RX6, "addStep", "(I)Z"⟩
abbrev cX6_addAct : ByteArray := prog_8_method_7_code
def yX6_addAct : MethodName := ⟨RX6, "addAct", "(I)V"⟩
abbrev cX6_lastMoment : ByteArray := prog_8_method_8_code
def yX6_lastMoment : MethodName := ⟨RX6, "lastMoment", "()I"⟩
abbrev cX6_cellAt : ByteArray := prog_8_method_9_code
def yX6_cellAt : MethodName := ⟨RX6, "cellAt", "(I)I"⟩
abbrev cX6_hasAct : ByteArray := prog_8_method_10_code
def yX6_hasAct : MethodName := ⟨RX6, "hasAct", "(I)Z"⟩
abbrev cX6_cellOfAct : ByteArray := prog_8_method_11_code
def yX6_cellOfAct : MethodName := ⟨RX6, "cellOfAct", "(I)I"⟩
abbrev cX6_momentOfAct : ByteArray := prog_8_method_12_code
def yX6_momentOfAct : MethodName := ⟨RX6, "momentOfAct", "(I)I"⟩
abbrev cX6_stageAfter : ByteArray := prog_8_method_13_code
def yX6_stageAfter : MethodName := ⟨RX6, "stageAfter", "(I)I"⟩
def RX7 : String := "FleetYard$Tape"
def TX7 : u_T := fun k => match k with
  | 0 => ("FleetYard$Tape", "bytes", "[B", true)
  | _ => ("FleetYard$Tape", "length", "I", false)
def tyX7 : Nat → FieldType := fun k => match k with
  | 0 => .array .byte
  | _ => .int
theorem nmX7 : ∀ a, a < 2 → ∀ b, b < 2 → a ≠ b → (TX7 a).2.1 ≠ (TX7 b).2.1 := by decide +kernel
theorem tyX7_ok : ∀ k, k < 2 → parseFieldDescriptor (TX7 k).2.2.1 = some (tyX7 k) := by decide +kernel
abbrev cX7_init : ByteArray := prog_9_method_1_code
def yX7_init : MethodName := ⟨RX7, "<init>", "()V"⟩
abbrev cX7_hasRoomForFive : ByteArray := prog_9_method_2_code
def yX7_hasRoomForFive : MethodName := ⟨RX7, "hasRoomForFive", "()Z"⟩
abbrev cX7_addWord : ByteArray := prog_9_method_3_code
def yX7_addWord : MethodName := ⟨RX7, "addWord", "(I)V"⟩
def RX8 : String := "FleetYard$TaskBook"
def TX8 : u_T := fun k => match k with
  | 0 => ("FleetYard$TaskBook", "from", "[I", true)
  | 1 => ("FleetYard$TaskBook", "to", "[I", true)
  | 2 => ("FleetYard$TaskBook", "takers", "[I", true)
  | 3 => ("FleetYard$TaskBook", "takenAt", "[I", true)
  | 4 => ("FleetYard$TaskBook", "finishedAt", "[I", true)
  | 5 => ("FleetYard$TaskBook", "came", "I", false)
  | 6 => ("FleetYard$TaskBook", "given", "I", false)
  | _ => ("FleetYard$TaskBook", "finished", "I", false)
def tyX8 : Nat → FieldType := fun k => match k with
  | 0 => .array .int
  | 1 => .array .int
  | 2 => .array .int
  | 3 => .array .int
  | 4 => .array .int
  | 5 => .int
  | 6 => .int
  | _ => .int
theorem nmX8 : ∀ a, a < 8 → ∀ b, b < 8 → a ≠ b → (TX8 a).2.1 ≠ (TX8 b).2.1 := by decide +kernel
theorem tyX8_ok : ∀ k, k < 8 → parseFieldDescriptor (TX8 k).2.2.1 = some (tyX8 k) := by decide +kernel
abbrev cX8_init : ByteArray := prog_10_method_1_code
def yX8_init : MethodName := ⟨RX8, "<init>", "()V"⟩
abbrev cX8_clear : ByteArray := prog_10_method_2_code
def yX8_clear : MethodName := ⟨RX8, "clear", "()V"⟩
abbrev cX8_add : ByteArray := prog_10_method_3_code
def yX8_add : MethodName := ⟨RX8, "add", "(II)I"⟩
abbrev cX8_has : ByteArray := prog_10_method_4_code
def yX8_has : MethodName := ⟨RX8, "has", "(I)Z"⟩
abbrev cX8_give : ByteArray := prog_10_method_5_code
def yX8_give : MethodName := ⟨RX8, "give", "(III)V"⟩
abbrev cX8_finish : ByteArray := prog_10_method_6_code
def yX8_finish : MethodName := ⟨RX8, "finish", "(II)V"⟩
abbrev cX8_answer : ByteArray := prog_10_method_7_code
def yX8_answer : MethodName := ⟨RX8, "answer", "(II)I"⟩
def RX9 : String := "FleetYard$Vehicle"
def TX9 : u_T := fun k => match k with
  | 0 => ("FleetYard$Vehicle", "cell", "I", false)
  | 1 => ("FleetYard$Vehicle", "plan", "I", false)
  | 2 => ("FleetYard$Vehicle", "act", "I", false)
  | 3 => ("FleetYard$Vehicle", "hasGrant", "Z", false)
  | 4 => ("FleetYard$Vehicle", "grantedCell", "I", false)
  | _ => ("FleetYard$Vehicle", "silent", "I", false)
def tyX9 : Nat → FieldType := fun k => match k with
  | 0 => .int
  | 1 => .int
  | 2 => .int
  | 3 => .boolean
  | 4 => .int
  | _ => .int
theorem nmX9 : ∀ a, a < 6 → ∀ b, b < 6 → a ≠ b → (TX9 a).2.1 ≠ (TX9 b).2.1 := by decide +kernel
theorem tyX9_ok : ∀ k, k < 6 → parseFieldDescriptor (TX9 k).2.2.1 = some (tyX9 k) := by decide +kernel
abbrev cX9_init : ByteArray := prog_11_method_1_code
def yX9_init : MethodName := ⟨RX9, "<init>", "()V"⟩
abbrev cX9_beginAnew : ByteArray := prog_11_method_2_code
def yX9_beginAnew : MethodName := ⟨RX9, "beginAnew", "(I)V"⟩
abbrev cX9_halts : ByteArray := prog_11_method_3_code
def yX9_halts : MethodName := ⟨RX9, "halts", "()Z"⟩
abbrev cX9_hear : ByteArray := prog_11_method_4_code
def yX9_hear : MethodName := ⟨RX9, "hear", "(LFleetYard$Message;)V"⟩
abbrev cX9_obey : ByteArray := prog_11_method_5_code
def yX9_obey : MethodName := ⟨RX9, "obey", "()Z"⟩
def RX10 : String := "FleetYard$YardMap"
def TX10 : u_T := fun k => match k with
  | 0 => ("FleetYard$YardMap", "kinds", "[I", true)
  | 1 => ("FleetYard$YardMap", "ordinals", "[I", true)
  | 2 => ("FleetYard$YardMap", "neighbours", "[I", true)
  | 3 => ("FleetYard$YardMap", "stations", "[I", true)
  | 4 => ("FleetYard$YardMap", "parkings", "[I", true)
  | 5 => ("FleetYard$YardMap", "cells", "I", false)
  | 6 => ("FleetYard$YardMap", "width", "I", false)
  | 7 => ("FleetYard$YardMap", "stationCount", "I", false)
  | _ => ("FleetYard$YardMap", "parkingCount", "I", false)
def tyX10 : Nat → FieldType := fun k => match k with
  | 0 => .array .int
  | 1 => .array .int
  | 2 => .array .int
  | 3 => .array .int
  | 4 => .array .int
  | 5 => .int
  | 6 => .int
  | 7 => .int
  | _ => .int
theorem nmX10 : ∀ a, a < 9 → ∀ b, b < 9 → a ≠ b → (TX10 a).2.1 ≠ (TX10 b).2.1 := by decide +kernel
theorem tyX10_ok : ∀ k, k < 9 → parseFieldDescriptor (TX10 k).2.2.1 = some (tyX10 k) := by decide +kernel
abbrev cX10_init : ByteArray := prog_12_method_1_code
def yX10_init : MethodName := ⟨RX10, "<init>", "()V"⟩
abbrev cX10_clear : ByteArray := prog_12_method_2_code
def yX10_clear : MethodName := ⟨RX10, "clear", "()V"⟩
abbrev cX10_addCell : ByteArray := prog_12_method_3_code
def yX10_addCell : MethodName := ⟨RX10, "addCell", "(I)V"⟩
abbrev cX10_addStation : ByteArray := prog_12_method_4_code
def yX10_addStation : MethodName := ⟨RX10, "addStation", "()V"⟩
abbrev cX10_addParking : ByteArray := prog_12_method_5_code
def yX10_addParking : MethodName := ⟨RX10, "addParking", "()V"⟩
abbrev cX10_hasCell : ByteArray := prog_12_method_6_code
def yX10_hasCell : MethodName := ⟨RX10, "hasCell", "(I)Z"⟩
abbrev cX10_kindOf : ByteArray := prog_12_method_7_code
def yX10_kindOf : MethodName := ⟨RX10, "kindOf", "(I)I"⟩
abbrev cX10_ordinalOf : ByteArray := prog_12_method_8_code
def yX10_ordinalOf : MethodName := ⟨RX10, "ordinalOf", "(I)I"⟩
abbrev cX10_isEndpoint : ByteArray := prog_12_method_9_code
def yX10_isEndpoint : MethodName := ⟨RX10, "isEndpoint", "(I)Z"⟩
abbrev cX10_stationCell : ByteArray := prog_12_method_10_code
def yX10_stationCell : MethodName := ⟨RX10, "stationCell", "(I)I"⟩
abbrev cX10_parkingCell : ByteArray := prog_12_method_11_code
def yX10_parkingCell : MethodName := ⟨RX10, "parkingCell", "(I)I"⟩
abbrev cX10_joinCells : ByteArray := prog_12_method_12_code
def yX10_joinCells : MethodName := ⟨RX10, "joinCells", "()V"⟩
abbrev cX10_cellBeside : ByteArray := prog_12_method_13_code
def yX10_cellBeside : MethodName := ⟨RX10, "cellBeside", "(II)I"⟩
abbrev cX10_neighbour : ByteArray := prog_12_method_14_code
def yX10_neighbour : MethodName := ⟨RX10, "neighbour", "(II)I"⟩
def RX11 : String := "FleetYard"
def TX11 : u_T := fun k => match k with
  | 0 => ("FleetYard", "tape", "LFleetYard$Tape;", true)
  | 1 => ("FleetYard", "judge", "LFleetYard$Judge;", true)
  | 2 => ("FleetYard", "radio", "LFleetYard$Radio;", true)
  | 3 => ("FleetYard", "tasks", "LFleetYard$TaskBook;", true)
  | 4 => ("FleetYard", "base", "LFleetYard$Base;", true)
  | 5 => ("FleetYard", "vehicles", "[LFleetYard$Vehicle;", true)
  | 6 => ("FleetYard", "map", "LFleetYard$YardMap;", false)
  | 7 => ("FleetYard", "spareMap", "LFleetYard$YardMap;", false)
  | 8 => ("FleetYard", "faultPlace", "I", false)
  | 9 => ("FleetYard", "tick", "I", false)
  | _ => ("FleetYard", "actsDone", "I", false)
def tyX11 : Nat → FieldType := fun k => match k with
  | 0 => .object "FleetYard$Tape"
  | 1 => .object "FleetYard$Judge"
  | 2 => .object "FleetYard$Radio"
  | 3 => .object "FleetYard$TaskBook"
  | 4 => .object "FleetYard$Base"
  | 5 => .array (.object "FleetYard$Vehicle")
  | 6 => .object "FleetYard$YardMap"
  | 7 => .object "FleetYard$YardMap"
  | 8 => .int
  | 9 => .int
  | _ => .int
theorem nmX11 : ∀ a, a < 11 → ∀ b, b < 11 → a ≠ b → (TX11 a).2.1 ≠ (TX11 b).2.1 := by decide +kernel
theorem tyX11_ok : ∀ k, k < 11 → parseFieldDescriptor (TX11 k).2.2.1 = some (tyX11 k) := by decide +kernel
abbrev cX11_init : ByteArray := prog_1_method_1_code
def yX11_init : MethodName := ⟨RX11, "<init>", "()V"⟩
abbrev cX11_feed : ByteArray := prog_1_method_2_code
def yX11_feed : MethodName := ⟨RX11, "feed", "(IIIII)I"⟩
abbrev cX11_back : ByteArray := prog_1_method_3_code
def yX11_back : MethodName := ⟨RX11, "back", "(I)I"⟩
abbrev cX11_read : ByteArray := prog_1_method_4_code
def yX11_read : MethodName := ⟨RX11, "read", "()I"⟩
abbrev cX11_place : ByteArray := prog_1_method_5_code
def yX11_place : MethodName := ⟨RX11, "place", "()I"⟩
abbrev cX11_fates : ByteArray := prog_1_method_6_code
def yX11_fates : MethodName := ⟨RX11, "fates", "(I)Z"⟩
abbrev cX11_fate : ByteArray := prog_1_method_7_code
def yX11_fate : MethodName := ⟨RX11, "fate", "(II)Z"⟩
abbrev cX11_task : ByteArray := prog_1_method_8_code
def yX11_task : MethodName := ⟨RX11, "task", "(II)I"⟩
abbrev cX11_run : ByteArray := prog_1_method_9_code
def yX11_run : MethodName := ⟨RX11, "run", "(I)I"⟩
abbrev cX11_cell : ByteArray := prog_1_method_10_code
def yX11_cell : MethodName := ⟨RX11, "cell", "(II)I"⟩
abbrev cX11_vehicle : ByteArray := prog_1_method_11_code
def yX11_vehicle : MethodName := ⟨RX11, "vehicle", "(II)I"⟩
abbrev cX11_trip : ByteArray := prog_1_method_12_code
def yX11_trip : MethodName := ⟨RX11, "trip", "(II)I"⟩
abbrev cX11_plan : ByteArray := prog_1_method_13_code
def yX11_plan : MethodName := ⟨RX11, "plan", "(III)I"⟩
abbrev cX11_told : ByteArray := prog_1_method_14_code
def yX11_told : MethodName := ⟨RX11, "told", "(II)I"⟩
abbrev cX11_count : ByteArray := prog_1_method_15_code
def yX11_count : MethodName := ⟨RX11, "count", "(I)I"⟩
abbrev cX11_beginAnew : ByteArray := prog_1_method_16_code
def yX11_beginAnew : MethodName := ⟨RX11, "beginAnew", "()V"⟩
abbrev cX11_vehicleAt : ByteArray := prog_1_method_17_code
def yX11_vehicleAt : MethodName := ⟨RX11, "vehicleAt", "(I)LFleetYard$Vehicle;"⟩
abbrev cX11_vehicleIn : ByteArray := prog_1_method_18_code
def yX11_vehicleIn : MethodName := ⟨RX11, "vehicleIn", "(I)I"⟩
abbrev cX11_ofVehicle : ByteArray := prog_1_method_19_code
def yX11_ofVehicle : MethodName := ⟨RX11, "ofVehicle", "(LFleetYard$Vehicle;LFleetYard$Account;I)I"⟩
abbrev cX11_ofAccount : ByteArray := prog_1_method_20_code
def yX11_ofAccount : MethodName := ⟨RX11, "ofAccount", "(LFleetYard$Account;I)I"⟩
abbrev cX11_takeMessages : ByteArray := prog_1_method_21_code
def yX11_takeMessages : MethodName := ⟨RX11, "takeMessages", "()V"⟩
abbrev cX11_deliver : ByteArray := prog_1_method_22_code
def yX11_deliver : MethodName := ⟨RX11, "deliver", "(LFleetYard$Message;)V"⟩
abbrev cX11_driveVehicles : ByteArray := prog_1_method_23_code
def yX11_driveVehicles : MethodName := ⟨RX11, "driveVehicles", "()V"⟩
def RX12 : String := "FleetYardModel"
def TX12 : u_T := fun k => match k with
  | 0 => ("FleetYardModel", "thrown", "I", false)
  | 1 => ("FleetYardModel", "tape", "[B", true)
  | 2 => ("FleetYardModel", "taped", "I", false)
  | 3 => ("FleetYardModel", "fault", "I", false)
  | 4 => ("FleetYardModel", "place", "I", false)
  | 5 => ("FleetYardModel", "lines", "I", false)
  | 6 => ("FleetYardModel", "wide", "I", false)
  | 7 => ("FleetYardModel", "kind", "[I", true)
  | 8 => ("FleetYardModel", "ofKind", "[I", true)
  | 9 => ("FleetYardModel", "stations", "I", false)
  | 10 => ("FleetYardModel", "vehicles", "I", false)
  | 11 => ("FleetYardModel", "station", "[I", true)
  | 12 => ("FleetYardModel", "parking", "[I", true)
  | 13 => ("FleetYardModel", "readLines", "I", false)
  | 14 => ("FleetYardModel", "readWide", "I", false)
  | 15 => ("FleetYardModel", "met", "[Z", true)
  | 16 => ("FleetYardModel", "waits", "[I", true)
  | 17 => ("FleetYardModel", "fateMany", "I", false)
  | 18 => ("FleetYardModel", "fate", "[I", true)
  | 19 => ("FleetYardModel", "tasks", "I", false)
  | 20 => ("FleetYardModel", "given", "I", false)
  | 21 => ("FleetYardModel", "finished", "I", false)
  | 22 => ("FleetYardModel", "from", "[I", true)
  | 23 => ("FleetYardModel", "to", "[I", true)
  | 24 => ("FleetYardModel", "whose", "[I", true)
  | 25 => ("FleetYardModel", "givenAt", "[I", true)
  | 26 => ("FleetYardModel", "finishedAt", "[I", true)
  | 27 => ("FleetYardModel", "trip", "[I", true)
  | 28 => ("FleetYardModel", "tripBegin", "[I", true)
  | 29 => ("FleetYardModel", "tripEnd", "[I", true)
  | 30 => ("FleetYardModel", "acts", "[I", true)
  | 31 => ("FleetYardModel", "actCell", "[I", true)
  | 32 => ("FleetYardModel", "actMoment", "[I", true)
  | 33 => ("FleetYardModel", "comes", "[Z", true)
  | 34 => ("FleetYardModel", "leads", "[Z", true)
  | 35 => ("FleetYardModel", "sent", "I", false)
  | 36 => ("FleetYardModel", "lost", "I", false)
  | 37 => ("FleetYardModel", "comings", "I", false)
  | 38 => ("FleetYardModel", "cTick", "[I", true)
  | 39 => ("FleetYardModel", "cMessage", "[I", true)
  | 40 => ("FleetYardModel", "cSort", "[I", true)
  | 41 => ("FleetYardModel", "cVehicle", "[I", true)
  | 42 => ("FleetYardModel", "cPlan", "[I", true)
  | 43 => ("FleetYardModel", "cAct", "[I", true)
  | 44 => ("FleetYardModel", "cCell", "[I", true)
  | 45 => ("FleetYardModel", "heard", "[Z", true)
  | 46 => ("FleetYardModel", "at", "[I", true)
  | 47 => ("FleetYardModel", "load", "[I", true)
  | 48 => ("FleetYardModel", "ownPlan", "[I", true)
  | 49 => ("FleetYardModel", "ownAct", "[I", true)
  | 50 => ("FleetYardModel", "hasGrant", "[Z", true)
  | 51 => ("FleetYardModel", "grantCell", "[I", true)
  | 52 => ("FleetYardModel", "silent", "[I", true)
  | 53 => ("FleetYardModel", "actsDone", "I", false)
  | 54 => ("FleetYardModel", "idle", "[Z", true)
  | 55 => ("FleetYardModel", "knownPlan", "[I", true)
  | 56 => ("FleetYardModel", "knownAct", "[I", true)
  | 57 => ("FleetYardModel", "plans", "[I", true)
  | 58 => ("FleetYardModel", "taskOf", "[I", true)
  | 59 => ("FleetYardModel", "granted", "[I", true)
  | 60 => ("FleetYardModel", "grantedAt", "[I", true)
  | 61 => ("FleetYardModel", "ticks", "I", false)
  | 62 => ("FleetYardModel", "waiting", "I", false)
  | 63 => ("FleetYardModel", "firstVehicle", "I", false)
  | _ => ("FleetYardModel", "firstAct", "I", false)
def tyX12 : Nat → FieldType := fun k => match k with
  | 0 => .int
  | 1 => .array .byte
  | 2 => .int
  | 3 => .int
  | 4 => .int
  | 5 => .int
  | 6 => .int
  | 7 => .array .int
  | 8 => .array .int
  | 9 => .int
  | 10 => .int
  | 11 => .array .int
  | 12 => .array .int
  | 13 => .int
  | 14 => .int
  | 15 => .array .boolean
  | 16 => .array .int
  | 17 => .int
  | 18 => .array .int
  | 19 => .int
  | 20 => .int
  | 21 => .int
  | 22 => .array .int
  | 23 => .array .int
  | 24 => .array .int
  | 25 => .array .int
  | 26 => .array .int
  | 27 => .array .int
  | 28 => .array .int
  | 29 => .array .int
  | 30 => .array .int
  | 31 => .array .int
  | 32 => .array .int
  | 33 => .array .boolean
  | 34 => .array .boolean
  | 35 => .int
  | 36 => .int
  | 37 => .int
  | 38 => .array .int
  | 39 => .array .int
  | 40 => .array .int
  | 41 => .array .int
  | 42 => .array .int
  | 43 => .array .int
  | 44 => .array .int
  | 45 => .array .boolean
  | 46 => .array .int
  | 47 => .array .int
  | 48 => .array .int
  | 49 => .array .int
  | 50 => .array .boolean
  | 51 => .array .int
  | 52 => .array .int
  | 53 => .int
  | 54 => .array .boolean
  | 55 => .array .int
  | 56 => .array .int
  | 57 => .array .int
  | 58 => .array .int
  | 59 => .array .int
  | 60 => .array .int
  | 61 => .int
  | 62 => .int
  | 63 => .int
  | _ => .int
theorem nmX12 : ∀ a, a < 65 → ∀ b, b < 65 → a ≠ b → (TX12 a).2.1 ≠ (TX12 b).2.1 := by decide +kernel
theorem tyX12_ok : ∀ k, k < 65 → parseFieldDescriptor (TX12 k).2.2.1 = some (tyX12 k) := by decide +kernel
abbrev cX12_init : ByteArray := prog_14_method_2_code
def yX12_init : MethodName := ⟨RX12, "<init>", "()V"⟩
abbrev cX12_feed : ByteArray := prog_14_method_3_code
def yX12_feed : MethodName := ⟨RX12, "feed", "(IIIII)I"⟩
abbrev cX12_put : ByteArray := prog_14_method_4_code
def yX12_put : MethodName := ⟨RX12, "put", "(I)V"⟩
abbrev cX12_back : ByteArray := prog_14_method_5_code
def yX12_back : MethodName := ⟨RX12, "back", "(I)I"⟩
abbrev cX12_sort : ByteArray := prog_14_method_6_code
def yX12_sort : MethodName := ⟨RX12, "sort", "(I)I"⟩
abbrev cX12_cuts : ByteArray := prog_14_method_7_code
def yX12_cuts : MethodName := ⟨RX12, "cuts", "(I)V"⟩
abbrev cX12_read : ByteArray := prog_14_method_8_code
def yX12_read : MethodName := ⟨RX12, "read", "()I"⟩
abbrev cX12_place : ByteArray := prog_14_method_9_code
def yX12_place : MethodName := ⟨RX12, "place", "()I"⟩
abbrev cX12_readAt : ByteArray := prog_14_method_10_code
def yX12_readAt : MethodName := ⟨RX12, "readAt", "(II)I"⟩
abbrev cX12_apart : ByteArray := prog_14_method_11_code
def yX12_apart : MethodName := ⟨RX12, "apart", "()I"⟩
abbrev cX12_neighbour : ByteArray := prog_14_method_12_code
def yX12_neighbour : MethodName := ⟨RX12, "neighbour", "(II)I"⟩
abbrev cX12_begins : ByteArray := prog_14_method_13_code
def yX12_begins : MethodName := ⟨RX12, "begins", "()V"⟩
abbrev cX12_fates : ByteArray := prog_14_method_14_code
def yX12_fates : MethodName := ⟨RX12, "fates", "(I)Z"⟩
abbrev cX12_fate : ByteArray := prog_14_method_15_code
def yX12_fate : MethodName := ⟨RX12, "fate", "(II)Z"⟩
abbrev cX12_task : ByteArray := prog_14_method_16_code
def yX12_task : MethodName := ⟨RX12, "task", "(II)I"⟩
abbrev cX12_tripAt : ByteArray := prog_14_method_17_code
def yX12_tripAt : MethodName := ⟨RX12, "tripAt", "(II)I"⟩
abbrev cX12_isClear : ByteArray := prog_14_method_18_code
def yX12_isClear : MethodName := ⟨RX12, "isClear", "(IIII)Z"⟩
abbrev cX12_leadsTo : ByteArray := prog_14_method_19_code
def yX12_leadsTo : MethodName := ⟨RX12, "leadsTo", "(IIIII)I"⟩
abbrev cX12_finds : ByteArray := prog_14_method_20_code
def yX12_finds : MethodName := ⟨RX12, "finds", "(IIII)Z"⟩
abbrev cX12_sends : ByteArray := prog_14_method_21_code
def yX12_sends : MethodName := ⟨RX12, "sends", "(IIIII)V"⟩
abbrev cX12_nextComing : ByteArray := prog_14_method_22_code
def yX12_nextComing : MethodName := ⟨RX12, "nextComing", "()I"⟩
abbrev cX12_messagesCome : ByteArray := prog_14_method_23_code
def yX12_messagesCome : MethodName := ⟨RX12, "messagesCome", "()V"⟩
abbrev cX12_granting : ByteArray := prog_14_method_24_code
def yX12_granting : MethodName := ⟨RX12, "granting", "(IIII)V"⟩
abbrev cX12_vehicleActs : ByteArray := prog_14_method_25_code
def yX12_vehicleActs : MethodName := ⟨RX12, "vehicleActs", "(I)V"⟩
abbrev cX12_reporting : ByteArray := prog_14_method_26_code
def yX12_reporting : MethodName := ⟨RX12, "reporting", "(III)V"⟩
abbrev cX12_known : ByteArray := prog_14_method_27_code
def yX12_known : MethodName := ⟨RX12, "known", "(I)I"⟩
abbrev cX12_isOver : ByteArray := prog_14_method_28_code
def yX12_isOver : MethodName := ⟨RX12, "isOver", "(II)Z"⟩
abbrev cX12_waitFor : ByteArray := prog_14_method_29_code
def yX12_waitFor : MethodName := ⟨RX12, "waitFor", "(I)V"⟩
abbrev cX12_baseActs : ByteArray := prog_14_method_30_code
def yX12_baseActs : MethodName := ⟨RX12, "baseActs", "()I"⟩
abbrev cX12_grants : ByteArray := prog_14_method_31_code
def yX12_grants : MethodName := ⟨RX12, "grants", "(I)V"⟩
abbrev cX12_run : ByteArray := prog_14_method_32_code
def yX12_run : MethodName := ⟨RX12, "run", "(I)I"⟩
abbrev cX12_cell : ByteArray := prog_14_method_33_code
def yX12_cell : MethodName := ⟨RX12, "cell", "(II)I"⟩
abbrev cX12_vehicle : ByteArray := prog_14_method_34_code
def yX12_vehicle : MethodName := ⟨RX12, "vehicle", "(II)I"⟩
abbrev cX12_trip : ByteArray := prog_14_method_35_code
def yX12_trip : MethodName := ⟨RX12, "trip", "(II)I"⟩
abbrev cX12_plan : ByteArray := prog_14_method_36_code
def yX12_plan : MethodName := ⟨RX12, "plan", "(III)I"⟩
abbrev cX12_told : ByteArray := prog_14_method_37_code
def yX12_told : MethodName := ⟨RX12, "told", "(II)I"⟩
abbrev cX12_count : ByteArray := prog_14_method_38_code
def yX12_count : MethodName := ⟨RX12, "count", "(I)I"⟩
def RJ9 : String := "java/lang/Math"
def TJ9 : u_T := fun k => match k with
  | _ => ("", "", "", false)
def tyJ9 : Nat → FieldType := fun k => match k with
  | _ => .int
theorem nmJ9 : ∀ a, a < 0 → ∀ b, b < 0 → a ≠ b → (TJ9 a).2.1 ≠ (TJ9 b).2.1 := by decide +kernel
theorem tyJ9_ok : ∀ k, k < 0 → parseFieldDescriptor (TJ9 k).2.2.1 = some (tyJ9 k) := by decide +kernel
abbrev cJ9_min_7cf53 : ByteArray := prog_15_method_69_code
def yJ9_min_7cf53 : MethodName := ⟨RJ9, "min", "(II)I"⟩
def RJ7 : String := "java/util/Arrays"
def TJ7 : u_T := fun k => match k with
  | _ => ("", "", "", false)
def tyJ7 : Nat → FieldType := fun k => match k with
  | _ => .int
theorem nmJ7 : ∀ a, a < 0 → ∀ b, b < 0 → a ≠ b → (TJ7 a).2.1 ≠ (TJ7 b).2.1 := by decide +kernel
theorem tyJ7_ok : ∀ k, k < 0 → parseFieldDescriptor (TJ7 k).2.2.1 = some (tyJ7 k) := by decide +kernel
abbrev cJ7_fill_53178 : ByteArray := prog_16_method_103_code
def yJ7_fill_53178 : MethodName := ⟨RJ7, "fill", "([II)V"⟩
def RL : String := "FleetYardLaw"
abbrev cL_law : ByteArray := code
def yL_law : MethodName := ⟨RL, "law", "([I)Z"⟩
abbrev vwCl : List vw_C := [(RX0, TX0, 7), (RX1, TX1, 5), (RX2, TX2, 5), (RX3, TX3, 7), (RX4, TX4, 14), (RX5, TX5, 6), (RX6, TX6, 9), (RX7, TX7, 2), (RX8, TX8, 8), (RX9, TX9, 6), (RX10, TX10, 9), (RX11, TX11, 11), (RX12, TX12, 65)]
end
section
def zALl : List (Nat × Int) := [(1, 0), (2, 0), (3, 0), (4, 0), (5, 0), (6, 0), (7, 0), (8, 0), (9, 0), (10, 0), (10, 1), (10, 2), (10, 3), (10, 4), (10, 5), (10, 6), (10, 7), (10, 8), (10, 9), (10, 10), (10, 11), (10, 12), (10, 13), (10, 14), (10, 15), (10, 16), (10, 17), (10, 18), (10, 19), (10, 20), (10, 21), (10, 22), (10, 23), (10, 24), (10, 25), (10, 26), (10, 27), (10, 28), (10, 29), (10, 30), (10, 31), (10, 32), (10, 33), (10, 34), (10, 35), (10, 36), (10, 37), (10, 38), (10, 39), (10, 40), (10, 41), (10, 42), (10, 43), (10, 44), (10, 45), (10, 46), (10, 47), (10, 48), (10, 49), (10, 50), (10, 51), (10, 52), (10, 53), (10, 54), (10, 55), (10, 56), (10, 57), (10, 58), (10, 59), (10, 60), (10, 61), (10, 62), (10, 63), (11, 0), (12, 0), (13, 0), (14, 0), (15, 0), (16, 0), (17, 0), (18, 0), (19, 0), (20, 0), (21, 0), (22, 0), (23, 0), (23, 1), (24, 0), (25, 0), (26, 0), (27, 0), (28, 0), (24, 1), (25, 1), (26, 1), (27, 1), (28, 1), (24, 2), (25, 2), (26, 2), (27, 2), (28, 2), (24, 3), (25, 3), (26, 3), (27, 3), (28, 3), (24, 4), (25, 4), (26, 4), (27, 4), (28, 4), (24, 5), (25, 5), (26, 5), (27, 5), (28, 5), (29, 0), (30, 0), (31, 0), (32, 0), (33, 0), (34, 0), (35, 0), (30, 1), (31, 1), (32, 1), (33, 1), (34, 1), (35, 1), (36, 0), (36, 1), (36, 2), (36, 3), (36, 4), (36, 5), (37, 0), (38, 0), (39, 0), (40, 0), (41, 0), (42, 0), (43, 0), (44, 0), (45, 0), (46, 0), (47, 0), (48, 0), (49, 0), (50, 0), (51, 0), (52, 0), (53, 0), (54, 0), (55, 0), (56, 0), (57, 0), (58, 0), (59, 0), (60, 0), (61, 0), (62, 0), (63, 0), (64, 0), (65, 0), (66, 0), (67, 0), (68, 0), (69, 0), (70, 0), (71, 0), (72, 0), (73, 0), (74, 0), (75, 0), (76, 0), (77, 0), (78, 0), (79, 0), (80, 0)]
def zAL (i : Nat) : Nat × Int := zALl.getD i (0, 0)
def zTOT : Nat := 180
def zObl : List Nat := [999, 0, 1, 2, 3, 4, 5, 6, 7, 8, 9, 73, 74, 75, 76, 77, 78, 79, 80, 81, 82, 83, 84, 85, 87, 88, 89, 90, 91, 117, 118, 119, 120, 121, 122, 123, 130, 136, 137, 138, 139, 140, 141, 142, 143, 144, 145, 146, 147, 148, 149, 150, 151, 152, 153, 154, 155, 156, 157, 158, 159, 160, 161, 162, 163, 164, 165, 166, 167, 168, 169, 170, 171, 172, 173, 174, 175, 176, 177, 178, 179]
def zOsl : List Nat := [0, 999, 999, 999, 999, 999, 999, 999, 999, 999, 1, 999, 999, 999, 999, 999, 999, 999, 999, 999, 999, 999, 999, 1, 5, 5, 5, 5, 5, 999, 6, 6, 6, 6, 6, 6, 1, 999, 999, 999, 999, 999, 999, 999, 999, 999, 999, 999, 999, 999, 999, 999, 999, 999, 999, 999, 999, 999, 999, 999, 999, 999, 999, 999, 999, 999, 999, 999, 999, 999, 999, 999, 999, 999, 999, 999, 999, 999, 999, 999, 999]
def zOff (k : Nat) (j : Int) : Nat := zObl.getD k 999 + zOsl.getD k 0 * j.toNat
def zShl : List (Nat ⊕ (Nat × Nat)) := [.inr (9, 0), .inl 11, .inl 7, .inr (1, 400), .inl 2, .inr (0, 256), .inr (0, 256), .inl 5, .inr (0, 64), .inr (4, 64), .inl 3, .inl 8, .inr (0, 60), .inr (0, 60), .inr (0, 60), .inr (0, 60), .inr (0, 60), .inl 1, .inr (3, 6), .inl 4, .inr (0, 14448), .inr (0, 16), .inr (0, 48), .inr (0, 16), .inl 0, .inl 6, .inr (0, 301), .inr (0, 301), .inr (0, 301), .inr (5, 6), .inl 10, .inr (0, 256), .inr (0, 256), .inr (0, 1024), .inr (0, 10), .inr (0, 6), .inl 9, .inl 12, .inr (1, 400), .inr (0, 512), .inr (0, 256), .inr (0, 256), .inr (0, 256), .inr (2, 256), .inr (0, 256), .inr (0, 64), .inr (0, 60), .inr (0, 60), .inr (0, 60), .inr (0, 60), .inr (0, 60), .inr (0, 1806), .inr (0, 6), .inr (0, 6), .inr (0, 6), .inr (0, 1806), .inr (0, 1806), .inr (2, 231168), .inr (2, 231168), .inr (0, 400), .inr (0, 400), .inr (0, 400), .inr (0, 400), .inr (0, 400), .inr (0, 400), .inr (0, 400), .inr (2, 6), .inr (0, 6), .inr (0, 6), .inr (0, 6), .inr (0, 6), .inr (2, 6), .inr (0, 6), .inr (0, 6), .inr (2, 6), .inr (0, 6), .inr (0, 6), .inr (0, 6), .inr (0, 6), .inr (0, 6), .inr (0, 6)]
def zSh (k : Nat) : Nat ⊕ (Nat × Nat) := zShl.getD k (.inr (9, 0))
/-- which fields of a kind of object hold references -/
def zRFl : List (List Bool) := [[true, false, false, false, false, false, false], [true, true, false, false, false], [true, true, false, false, false], [false, false, false, false, false, false, false], [true, true, true, true, true, true, true, false, false, false, false, false, false, false], [true, true, false, false, false, false], [true, true, true, false, false, false, false, false, false], [true, false], [true, true, true, true, true, false, false, false], [false, false, false, false, false, false], [true, true, true, true, true, false, false, false, false], [true, true, true, true, true, true, true, true, false, false, false], [false, true, false, false, false, false, false, true, true, false, false, true, true, false, false, true, true, false, true, false, false, false, true, true, true, true, true, true, true, true, true, true, true, true, true, false, false, false, true, true, true, true, true, true, true, true, true, true, true, true, true, true, true, false, true, true, true, true, true, true, true, false, false, false, false]]
def zRF (c s : Nat) : Bool := (zRFl.getD c []).getD s false
def zNF (c : Nat) : Nat := (zRFl.getD c []).length
theorem zTab : ∀ i, i < zTOT → zOff (zAL i).1 (zAL i).2 = i := by decide +kernel
theorem zSh_1 : zSh 1 = .inl 11 := rfl
theorem zSh_2 : zSh 2 = .inl 7 := rfl
theorem zSh_3 : zSh 3 = .inr (1, 400) := rfl
theorem zSh_4 : zSh 4 = .inl 2 := rfl
theorem zSh_5 : zSh 5 = .inr (0, 256) := rfl
theorem zSh_6 : zSh 6 = .inr (0, 256) := rfl
theorem zSh_7 : zSh 7 = .inl 5 := rfl
theorem zSh_8 : zSh 8 = .inr (0, 64) := rfl
theorem zSh_9 : zSh 9 = .inr (4, 64) := rfl
theorem zSh_10 : zSh 10 = .inl 3 := rfl
theorem zSh_11 : zSh 11 = .inl 8 := rfl
theorem zSh_12 : zSh 12 = .inr (0, 60) := rfl
theorem zSh_13 : zSh 13 = .inr (0, 60) := rfl
theorem zSh_14 : zSh 14 = .inr (0, 60) := rfl
theorem zSh_15 : zSh 15 = .inr (0, 60) := rfl
theorem zSh_16 : zSh 16 = .inr (0, 60) := rfl
theorem zSh_17 : zSh 17 = .inl 1 := rfl
theorem zSh_18 : zSh 18 = .inr (3, 6) := rfl
theorem zSh_19 : zSh 19 = .inl 4 := rfl
theorem zSh_20 : zSh 20 = .inr (0, 14448) := rfl
theorem zSh_21 : zSh 21 = .inr (0, 16) := rfl
theorem zSh_22 : zSh 22 = .inr (0, 48) := rfl
theorem zSh_23 : zSh 23 = .inr (0, 16) := rfl
theorem zSh_24 : zSh 24 = .inl 0 := rfl
theorem zSh_25 : zSh 25 = .inl 6 := rfl
theorem zSh_26 : zSh 26 = .inr (0, 301) := rfl
theorem zSh_27 : zSh 27 = .inr (0, 301) := rfl
theorem zSh_28 : zSh 28 = .inr (0, 301) := rfl
theorem zSh_29 : zSh 29 = .inr (5, 6) := rfl
theorem zSh_30 : zSh 30 = .inl 10 := rfl
theorem zSh_31 : zSh 31 = .inr (0, 256) := rfl
theorem zSh_32 : zSh 32 = .inr (0, 256) := rfl
theorem zSh_33 : zSh 33 = .inr (0, 1024) := rfl
theorem zSh_34 : zSh 34 = .inr (0, 10) := rfl
theorem zSh_35 : zSh 35 = .inr (0, 6) := rfl
theorem zSh_36 : zSh 36 = .inl 9 := rfl
theorem zSh_37 : zSh 37 = .inl 12 := rfl
theorem zSh_38 : zSh 38 = .inr (1, 400) := rfl
theorem zSh_39 : zSh 39 = .inr (0, 512) := rfl
theorem zSh_40 : zSh 40 = .inr (0, 256) := rfl
theorem zSh_41 : zSh 41 = .inr (0, 256) := rfl
theorem zSh_42 : zSh 42 = .inr (0, 256) := rfl
theorem zSh_43 : zSh 43 = .inr (2, 256) := rfl
theorem zSh_44 : zSh 44 = .inr (0, 256) := rfl
theorem zSh_45 : zSh 45 = .inr (0, 64) := rfl
theorem zSh_46 : zSh 46 = .inr (0, 60) := rfl
theorem zSh_47 : zSh 47 = .inr (0, 60) := rfl
theorem zSh_48 : zSh 48 = .inr (0, 60) := rfl
theorem zSh_49 : zSh 49 = .inr (0, 60) := rfl
theorem zSh_50 : zSh 50 = .inr (0, 60) := rfl
theorem zSh_51 : zSh 51 = .inr (0, 1806) := rfl
theorem zSh_52 : zSh 52 = .inr (0, 6) := rfl
theorem zSh_53 : zSh 53 = .inr (0, 6) := rfl
theorem zSh_54 : zSh 54 = .inr (0, 6) := rfl
theorem zSh_55 : zSh 55 = .inr (0, 1806) := rfl
theorem zSh_56 : zSh 56 = .inr (0, 1806) := rfl
theorem zSh_57 : zSh 57 = .inr (2, 231168) := rfl
theorem zSh_58 : zSh 58 = .inr (2, 231168) := rfl
theorem zSh_59 : zSh 59 = .inr (0, 400) := rfl
theorem zSh_60 : zSh 60 = .inr (0, 400) := rfl
theorem zSh_61 : zSh 61 = .inr (0, 400) := rfl
theorem zSh_62 : zSh 62 = .inr (0, 400) := rfl
theorem zSh_63 : zSh 63 = .inr (0, 400) := rfl
theorem zSh_64 : zSh 64 = .inr (0, 400) := rfl
theorem zSh_65 : zSh 65 = .inr (0, 400) := rfl
theorem zSh_66 : zSh 66 = .inr (2, 6) := rfl
theorem zSh_67 : zSh 67 = .inr (0, 6) := rfl
theorem zSh_68 : zSh 68 = .inr (0, 6) := rfl
theorem zSh_69 : zSh 69 = .inr (0, 6) := rfl
theorem zSh_70 : zSh 70 = .inr (0, 6) := rfl
theorem zSh_71 : zSh 71 = .inr (2, 6) := rfl
theorem zSh_72 : zSh 72 = .inr (0, 6) := rfl
theorem zSh_73 : zSh 73 = .inr (0, 6) := rfl
theorem zSh_74 : zSh 74 = .inr (2, 6) := rfl
theorem zSh_75 : zSh 75 = .inr (0, 6) := rfl
theorem zSh_76 : zSh 76 = .inr (0, 6) := rfl
theorem zSh_77 : zSh 77 = .inr (0, 6) := rfl
theorem zSh_78 : zSh 78 = .inr (0, 6) := rfl
theorem zSh_79 : zSh 79 = .inr (0, 6) := rfl
theorem zSh_80 : zSh 80 = .inr (0, 6) := rfl
end
section
/-! A logic of its own over the kit's W: states are (locals, stack, ints, references) over named cells (kind, number); ints are Int -/
abbrev zV : Type := Int ⊕ Option (Nat × Int)
abbrev zI : Type := Nat → Int → Int → Int
abbrev zR : Type := Nat → Int → Int → Option (Nat × Int)
abbrev zM : Type := MethodName × ByteArray × Nat × Option FieldType × Nat × Nat × Nat × Nat
def zNm (y : zM) : MethodName := y.1
def zBy (y : zM) : ByteArray := y.2.1
def zMx (y : zM) : Nat := y.2.2.1
def zRt (y : zM) : Option FieldType := y.2.2.2.1
def zFr (y : zM) : Nat := y.2.2.2.2.1
def zLo (y : zM) : Nat := y.2.2.2.2.2.1
def zMc (y : zM) : Nat := y.2.2.2.2.2.2.1
def zMs (y : zM) : Nat := y.2.2.2.2.2.2.2
abbrev zInR (x : Int) : Prop := -2147483648 ≤ x ∧ x < 2147483648
theorem z_bmod {z : Int} (h : zInR z) : z.bmod (2 ^ 32) = z := by
  obtain ⟨h1, h2⟩ := h
  rw [Int.bmod_eq_of_le (by omega) (by omega)]
theorem z_ofI {z : Int} (h : zInR z) : (Int32.ofInt z).toInt = z := by rw [Int32.toInt_ofInt, z_bmod h]
theorem z_toI (x : Int32) : zInR x.toInt := by
  have h1 := Int32.le_toInt x
  have h2 := Int32.toInt_lt x
  exact ⟨by omega, by omega⟩
theorem z_lt {a b : Int} (ha : zInR a) (hb : zInR b) : Int32.ofInt a < Int32.ofInt b ↔ a < b := by rw [Int32.lt_iff_toInt_lt, z_ofI ha, z_ofI hb]
theorem z_le {a b : Int} (ha : zInR a) (hb : zInR b) : Int32.ofInt a ≤ Int32.ofInt b ↔ a ≤ b := by rw [Int32.le_iff_toInt_le, z_ofI ha, z_ofI hb]
theorem z_eq {a b : Int} (ha : zInR a) (hb : zInR b) : Int32.ofInt a = Int32.ofInt b ↔ a = b := by rw [← Int32.toInt_inj, z_ofI ha, z_ofI hb]
theorem z_0 : (0 : Int32) = Int32.ofInt 0 := rfl
theorem z_in {x : Int} {n : Nat} (h : zInR x) (h0 : 0 ≤ x) (h1 : x < n) : vp_in (Int32.ofInt x) n := by
  rw [vp_in_iff, z_ofI h]; exact ⟨h0, h1⟩
theorem z_cl {x : Int} (h : zInR x) (h0 : 0 ≤ x) : (((Int32.ofInt x).toNatClampNeg : Nat) : Int) = x := by
  show ((Int32.ofInt x).toInt.toNat : Int) = x
  rw [z_ofI h]; omega
def zA (B : Nat) (q : Nat × Int) : Nat := B + zOff q.1 q.2
def zv (B : Nat) (v : zV) : Value := match v with
  | .inl x => .int (Int32.ofInt x)
  | .inr none => .null
  | .inr (some q) => .ref (zA B q)
theorem zv_cat (B : Nat) (v : zV) : (zv B v).category = 1 := by
  rcases v with x | _ | q <;> rfl
def zf (B : Nat) (o : Option (Nat × Int)) : Option Nat := o.map (zA B)
theorem zf_rf (B : Nat) (o : Option (Nat × Int)) : va_rf (zf B o) = zv B (.inr o) := by cases o <;> rfl
def zFs (B : Nat) (hi : zI) (hr : zR) (q : Nat × Int) (c : Nat) : List Value := (List.range (zNF c)).map (fun s => if zRF c s then va_rf (zf B (hr q.1 q.2 (s : Int))) else .int (Int32.ofInt (hi q.1 q.2 (s : Int))))
def zE (B : Nat) (cy : Nat → ClassId) (hi : zI) (hr : zR) (q : Nat × Int) : va_E := match zSh q.1 with
  | .inl c => .inr (c, zFs B hi hr q c)
  | .inr (t, n) => .inl (cy t, n, if t < 3 then .inl (fun s => Int32.ofInt (hi q.1 q.2 (s : Int))) else .inr (.inr (.inr (.inr (fun s => zf B (hr q.1 q.2 (s : Int)))))))
def zW (B : Nat) (cy : Nat → ClassId) (n : Nat) (hi : zI) (hr : zR) : va_W := (List.range n).map (fun i => (B + i, zE B cy hi hr (zAL i)))
theorem zW_get {B : Nat} {cy : Nat → ClassId} {n : Nat} {hi : zI} {hr : zR} {i : Nat} (h : i < n) : (zW B cy n hi hr)[i]? = some (B + i, zE B cy hi hr (zAL i)) := by simp [zW, h]
theorem zW_inv {B : Nat} {cy : Nat → ClassId} {n : Nat} {hi : zI} {hr : zR} {i : Nat} {q : Nat × va_E} (h : (zW B cy n hi hr)[i]? = some q) : i < n ∧ q = (B + i, zE B cy hi hr (zAL i)) := by
  by_cases hi' : i < n
  · rw [zW_get hi'] at h
    exact ⟨hi', (Option.some.inj h).symm⟩
  · simp [zW, hi'] at h
theorem zW_D {B : Nat} {cy : Nat → ClassId} {n : Nat} {hi : zI} {hr : zR} : va_D (fun q => B ≤ q) (zW B cy n hi hr) := by
  refine ⟨fun i j p q hp hq e => ?_, fun k q hk => ?_⟩
  · obtain ⟨-, rfl⟩ := zW_inv hp
    obtain ⟨-, rfl⟩ := zW_inv hq
    exact Nat.add_left_cancel e
  · obtain ⟨-, rfl⟩ := zW_inv hk
    exact Nat.le_add_right _ _
theorem zW_set {B : Nat} {cy : Nat → ClassId} {n : Nat} {hi hi' : zI} {hr hr' : zR} (hn : n ≤ zTOT) {i0 : Nat} (h0 : i0 < n) {q : Nat × Int} (hq : zAL i0 = q) {e' : va_E} (he : e' = zE B cy hi' hr' q)
    (ho : ∀ q', q' ≠ q → zE B cy hi' hr' q' = zE B cy hi hr q') : (zW B cy n hi hr).set i0 (B + i0, e') = zW B cy n hi' hr' := by
  apply List.ext_getElem?
  intro k
  by_cases hkn : k < n
  · by_cases hk : i0 = k
    · subst hk
      rw [List.getElem?_set_self (by simp [zW]; exact hkn), zW_get hkn, he, hq]
    · rw [List.getElem?_set_ne hk, zW_get hkn, zW_get hkn, ho]
      intro e
      apply hk
      have h1 := zTab k (Nat.lt_of_lt_of_le hkn hn)
      have h2 := zTab i0 (Nat.lt_of_lt_of_le h0 hn)
      rw [← h1, ← h2, e, hq]
  · have h1 : ∀ (a b : zI × zR), (zW B cy n a.1 a.2).length ≤ k := fun a b => by simp [zW]; omega
    rw [List.getElem?_eq_none (by rw [List.length_set]; exact h1 (hi, hr) (hi, hr)), List.getElem?_eq_none (h1 (hi', hr') (hi', hr'))]
def zval (n : Nat) (q : Nat × Int) : Prop := zOff q.1 q.2 < n ∧ zAL (zOff q.1 q.2) = q
theorem zval_mono {n n' : Nat} (h : n ≤ n') {q : Nat × Int} (hq : zval n q) : zval n' q := ⟨Nat.lt_of_lt_of_le hq.1 h, hq.2⟩
def zok (n : Nat) (v : zV) : Prop := match v with
  | .inl x => zInR x
  | .inr none => True
  | .inr (some q) => zval n q
theorem zok_mono {n n' : Nat} (h : n ≤ n') {v : zV} (hv : zok n v) : zok n' v := by
  rcases v with x | _ | q
  · exact hv
  · exact trivial
  · exact zval_mono h hv
def zokH (n : Nat) (hi : zI) (hr : zR) : Prop := (∀ k j s, zInR (hi k j s)) ∧ ∀ k j s q, hr k j s = some q → zval n q
theorem zokH_r {n : Nat} {hi : zI} {hr : zR} (h : zokH n hi hr) (k : Nat) (j s : Int) : zok n (.inr (hr k j s)) := by
  cases e : hr k j s with
  | none => exact trivial
  | some q => exact h.2 k j s q e
def zlv (B : Nat) (ls : List (Option zV)) : List (Nat × Value) := (List.range ls.length).filterMap (fun i => (ls[i]?.join).map (fun v => (i, zv B v)))
theorem zlv_mem {B : Nat} {ls : List (Option zV)} {q : Nat × Value} : q ∈ zlv B ls ↔ ∃ v, ls[q.1]? = some (some v) ∧ q.2 = zv B v := by
  rw [zlv, List.mem_filterMap]
  constructor
  · rintro ⟨i, -, h⟩
    cases hj : ls[i]?.join with
    | none => rw [hj] at h; simp at h
    | some v =>
      rw [hj] at h
      simp at h
      subst h
      refine ⟨v, ?_, rfl⟩
      show ls[i]? = some (some v)
      rcases h9 : ls[i]? with _ | _ | w
      · rw [h9] at hj; simp at hj
      · rw [h9] at hj; simp at hj
      · rw [h9] at hj; simp at hj; rw [hj]
  · rintro ⟨v, h, e⟩
    obtain ⟨i, w⟩ := q
    simp only at h e
    subst e
    refine ⟨i, ?_, ?_⟩
    · rw [List.mem_range]
      exact (List.getElem?_eq_some_iff.mp h).1
    · simp [h]
def zLs (n B mx : Nat) (ls : List (Option zV)) (lsr : Array Slot) : Prop := ls.length = mx ∧ lv_has lsr mx (zlv B ls) ∧ ∀ (i : Nat) (v : zV), ls[i]? = some (some v) → zok n v
theorem zLs.at {n B mx : Nat} {ls : List (Option zV)} {lsr : Array Slot} (h : zLs n B mx ls lsr) {i : Nat} {v : zV} (hi : ls[i]? = some (some v)) : lsr[i]? = some (.val (zv B v)) :=
  h.2.1.2.2 (i, zv B v) (zlv_mem.mpr ⟨v, hi, rfl⟩)
theorem zLs.mono {n n' B mx : Nat} {ls : List (Option zV)} {lsr : Array Slot} (h : zLs n B mx ls lsr) (hn : n ≤ n') : zLs n' B mx ls lsr := ⟨h.1, h.2.1, fun i v hv => zok_mono hn (h.2.2 i v hv)⟩
theorem zLs.put {n B mx : Nat} {ls : List (Option zV)} {lsr ls' : Array Slot} (h : zLs n B mx ls lsr) {i : Nat} {v : zV} (hv : zok n v)
    (h' : lv_has ls' mx ((i, zv B v) :: (zlv B ls).filter (fun q => !(q.1 == i) && !(q.1 + 1 == i && q.2.category == 2)))) : zLs n B mx (ls.set i (some v)) ls' := by
  refine ⟨by rw [List.length_set]; exact h.1, ⟨h'.1, h'.2.1, fun q hq => h'.2.2 q ?_⟩, fun k w hw => ?_⟩
  · obtain ⟨w, h1, h2⟩ := zlv_mem.mp hq
    by_cases e : i = q.1
    · subst e
      have hl : q.1 < ls.length := by
        have := (List.getElem?_eq_some_iff.mp h1).1
        rwa [List.length_set] at this
      rw [List.getElem?_set_self hl] at h1
      cases h1
      rw [← h2]
      exact List.mem_cons_self
    · rw [List.getElem?_set_ne e] at h1
      refine List.mem_cons_of_mem _ (List.mem_filter.mpr ⟨zlv_mem.mpr ⟨w, h1, h2⟩, ?_⟩)
      rw [h2, zv_cat]
      simp
      exact fun e2 => e e2.symm
  · by_cases e : i = k
    · subst e
      have hl : i < ls.length := by
        have := (List.getElem?_eq_some_iff.mp hw).1
        rwa [List.length_set] at this
      rw [List.getElem?_set_self hl] at hw
      cases hw
      exact hv
    · rw [List.getElem?_set_ne e] at hw
      exact h.2.2 k w hw
def zTys (cy : Nat → ClassId) : List (ClassId × FieldType) := [(cy 0, .int), (cy 1, .byte), (cy 2, .boolean), (cy 3, .object RX0), (cy 4, .object RX3), (cy 5, .object RX9)]
def zRm (y : zM) : Room := { frames := zFr y, cells := zMc y, slots := zMs y, locals := zLo y }
def zWs (y : zM) : List Cond := Cond.code (zNm y) (zBy y) (zMx y) (zRt y) :: lw_tbl
abbrev zQ : Type := Option zV → Nat → zI → zR → Prop
def zQc (B : Nat) (cy : Nat → ClassId) (D : va_G) (mc : Nat) (Q : zQ) : Array Value → State → Outcome → State → Prop := fun _ st o t =>
  (∃ (r : Option zV) (n : Nat) (hi : zI) (hr : zR), o = .returned (r.map (zv B)) ∧ Q r n hi hr ∧ (∀ v, r = some v → zok n v) ∧ zokH n hi hr ∧ n ≤ zTOT ∧ B + n = st.heap.size + mc ∧ va_P D vwCl (zW B cy n hi hr) t.heap) ∧ va_F (fun q => B ≤ q) st t
def zCt (y : zM) (D : va_G) (cy : Nat → ClassId) (p : Program) (s : State) (m : MethodId) (args : Array Value) (meth : Method) (c : Code) : Prop :=
  p.tables.exec = Jvm.exec ∧ c.code = zBy y ∧ meth.sig.returnType = zRt y ∧ c.maxLocals = zMx y ∧ s.vm.findClass (zNm y).cls = some m.cls ∧ (∀ w ∈ lw_tbl, w.before args s = true) ∧ meth.locks = false ∧ meth.name = (zNm y).name ∧ va_K D vwCl (zTys cy) s
def zG (y : zM) (n ac av : Nat) (hi : zI) (hr : zR) (s : State) (H : Heap) (locs : List Loc) (cells slots : Nat) (D : va_G) (cy : Nat → ClassId) (B : Nat) : Prop :=
  zokH n hi hr ∧ n ≤ zTOT ∧ B + n = s.heap.size + cells ∧ va_P D vwCl (zW B cy n hi hr) H ∧ B ≤ s.heap.size ∧ va_S (fun q => B ≤ q) s.heap H locs ∧ cells + ac = zMc y ∧ slots + av = zMs y
def VP (y : zM) (pc : Nat) (ls : List (Option zV)) (st : List zV) (n ac av : Nat) (hi : zI) (hr : zR) (Q : zQ) : Prop :=
  ∀ (p : Program) (l : Launch) (e : Env) (s : State) (m : MethodId) (args : Array Value) (below : List Frame) (meth : Method) (c : Code) (H : Heap) (locs : List Loc) (cells slots : Nat) (D : va_G) (cy : Nat → ClassId) (B : Nat) (lsr : Array Slot),
    zCt y D cy p s m args meth c → zLs n B (zMx y) ls lsr → (∀ v ∈ st, zok n v) → zG y n ac av hi hr s H locs cells slots D cy B →
    W p l e (zRm y) s m args below meth c H locs cells slots (MQ below (zQc B cy D (zMc y) Q) args s (zMc y) (zMs y) (fun q => B ≤ q)) (F0 m pc lsr (st.map (zv B)))
theorem zok_cons {n : Nat} {v : zV} {st : List zV} (h : zok n v) (hs : ∀ w ∈ st, zok n w) : ∀ w ∈ v :: st, zok n w := List.forall_mem_cons.mpr ⟨h, hs⟩
section ZR
variable {y : zM} {pc : Nat} {ls : List (Option zV)} {st : List zV} {n ac av : Nat} {hi : zI} {hr : zR} {Q : zQ}
theorem VP.iconst {x : Int} (hd : decode (zBy y) pc = .ok (.iconst x, 1)) (hx : zInR x) (k : VP y (pc + 1) ls (.inl x :: st) n ac av hi hr Q) : VP y pc ls st n ac av hi hr Q := by
  intro p l e s m args below meth c H locs cells slots D cy B lsr C L S G
  exact lv_iconst C.1 C.2.1 hd rfl (k p l e s m args below meth c H locs cells slots D cy B lsr C L (zok_cons hx S) G)
theorem VP.bipush {x : Int} (hd : decode (zBy y) pc = .ok (.bipush x, 2)) (hx : (Int8.ofInt x).toInt32 = Int32.ofInt x ∧ zInR x) (k : VP y (pc + 2) ls (.inl x :: st) n ac av hi hr Q) : VP y pc ls st n ac av hi hr Q := by
  intro p l e s m args below meth c H locs cells slots D cy B lsr C L S G
  exact lv_bipush C.1 C.2.1 hd hx.1 (k p l e s m args below meth c H locs cells slots D cy B lsr C L (zok_cons hx.2 S) G)
theorem VP.sipush {x : Int} (hd : decode (zBy y) pc = .ok (.sipush x, 3)) (hx : (Int16.ofInt x).toInt32 = Int32.ofInt x ∧ zInR x) (k : VP y (pc + 3) ls (.inl x :: st) n ac av hi hr Q) : VP y pc ls st n ac av hi hr Q := by
  intro p l e s m args below meth c H locs cells slots D cy B lsr C L S G
  exact lv_sipush C.1 C.2.1 hd hx.1 (k p l e s m args below meth c H locs cells slots D cy B lsr C L (zok_cons hx.2 S) G)
theorem VP.ldc {x : Int} {index : Nat} (hc : Cond.constant (zNm y).cls index (Int32.ofInt x) ∈ lw_tbl) (hd : decode (zBy y) pc = .ok (.ldc index, 2)) (hx : zInR x) (k : VP y (pc + 2) ls (.inl x :: st) n ac av hi hr Q) : VP y pc ls st n ac av hi hr Q := by
  intro p l e s m args below meth c H locs cells slots D cy B lsr C L S G
  exact lv_ldc C.1 C.2.1 C.2.2.2.2.1 (C.2.2.2.2.2.1 _ hc) hd (k p l e s m args below meth c H locs cells slots D cy B lsr C L (zok_cons hx S) G)
theorem VP.null (hd : decode (zBy y) pc = .ok (.aconst_null, 1)) (k : VP y (pc + 1) ls (.inr none :: st) n ac av hi hr Q) : VP y pc ls st n ac av hi hr Q := by
  intro p l e s m args below meth c H locs cells slots D cy B lsr C L S G
  exact lv_null C.1 C.2.1 hd (k p l e s m args below meth c H locs cells slots D cy B lsr C L (zok_cons trivial S) G)
theorem VP.iload_n {i : Fin 4} {x : Int} (hd : decode (zBy y) pc = .ok (.iload_n i, 1)) (hl : ls[(i : Nat)]? = some (some (.inl x))) (k : VP y (pc + 1) ls (.inl x :: st) n ac av hi hr Q) : VP y pc ls st n ac av hi hr Q := by
  intro p l e s m args below meth c H locs cells slots D cy B lsr C L S G
  exact lv_iload_n C.1 C.2.1 hd rfl (L.at hl) (k p l e s m args below meth c H locs cells slots D cy B lsr C L (zok_cons (L.2.2 _ _ hl) S) G)
theorem VP.iload {i : Nat} {x : Int} (hd : decode (zBy y) pc = .ok (.iload i, 2)) (hl : ls[i]? = some (some (.inl x))) (k : VP y (pc + 2) ls (.inl x :: st) n ac av hi hr Q) : VP y pc ls st n ac av hi hr Q := by
  intro p l e s m args below meth c H locs cells slots D cy B lsr C L S G
  exact lv_iload C.1 C.2.1 hd (L.at hl) (k p l e s m args below meth c H locs cells slots D cy B lsr C L (zok_cons (L.2.2 _ _ hl) S) G)
theorem VP.aload_n {i : Fin 4} {o : Option (Nat × Int)} (hd : decode (zBy y) pc = .ok (.aload_n i, 1)) (hl : ls[(i : Nat)]? = some (some (.inr o))) (k : VP y (pc + 1) ls (.inr o :: st) n ac av hi hr Q) : VP y pc ls st n ac av hi hr Q := by
  intro p l e s m args below meth c H locs cells slots D cy B lsr C L S G
  have K := k p l e s m args below meth c H locs cells slots D cy B lsr C L (zok_cons (L.2.2 _ _ hl) S) G
  cases o with
  | none => exact lv_aload_nN C.1 C.2.1 hd rfl (L.at hl) K
  | some q => exact lv_aload_n C.1 C.2.1 hd rfl (L.at hl) K
theorem VP.aload {i : Nat} {o : Option (Nat × Int)} (hd : decode (zBy y) pc = .ok (.aload i, 2)) (hl : ls[i]? = some (some (.inr o))) (k : VP y (pc + 2) ls (.inr o :: st) n ac av hi hr Q) : VP y pc ls st n ac av hi hr Q := by
  intro p l e s m args below meth c H locs cells slots D cy B lsr C L S G
  have K := k p l e s m args below meth c H locs cells slots D cy B lsr C L (zok_cons (L.2.2 _ _ hl) S) G
  cases o with
  | none => exact lv_aloadN C.1 C.2.1 hd (L.at hl) K
  | some q => exact lv_aload C.1 C.2.1 hd (L.at hl) K
theorem VP.istore_n {i : Fin 4} {x : Int} (hd : decode (zBy y) pc = .ok (.istore_n i, 1)) (hn : (i : Nat) < zMx y) (k : VP y (pc + 1) (ls.set (i : Nat) (some (.inl x))) st n ac av hi hr Q) : VP y pc ls (.inl x :: st) n ac av hi hr Q := by
  intro p l e s m args below meth c H locs cells slots D cy B lsr C L S G
  obtain ⟨h1, h2⟩ := List.forall_mem_cons.mp S
  exact lv_istore_n C.1 C.2.1 hd rfl L.2.1 hn rfl (fun ls' h' => k p l e s m args below meth c H locs cells slots D cy B ls' C (L.put h1 h') h2 G)
theorem VP.istore {i : Nat} {x : Int} (hd : decode (zBy y) pc = .ok (.istore i, 2)) (hn : i < zMx y) (k : VP y (pc + 2) (ls.set i (some (.inl x))) st n ac av hi hr Q) : VP y pc ls (.inl x :: st) n ac av hi hr Q := by
  intro p l e s m args below meth c H locs cells slots D cy B lsr C L S G
  obtain ⟨h1, h2⟩ := List.forall_mem_cons.mp S
  exact lv_istore C.1 C.2.1 hd L.2.1 hn rfl (fun ls' h' => k p l e s m args below meth c H locs cells slots D cy B ls' C (L.put h1 h') h2 G)
theorem VP.astore_n {i : Fin 4} {o : Option (Nat × Int)} (hd : decode (zBy y) pc = .ok (.astore_n i, 1)) (hn : (i : Nat) < zMx y) (k : VP y (pc + 1) (ls.set (i : Nat) (some (.inr o))) st n ac av hi hr Q) : VP y pc ls (.inr o :: st) n ac av hi hr Q := by
  intro p l e s m args below meth c H locs cells slots D cy B lsr C L S G
  obtain ⟨h1, h2⟩ := List.forall_mem_cons.mp S
  cases o with
  | none => exact lv_astore_nN C.1 C.2.1 hd rfl L.2.1 hn rfl (fun ls' h' => k p l e s m args below meth c H locs cells slots D cy B ls' C (L.put h1 h') h2 G)
  | some q => exact lv_astore_n C.1 C.2.1 hd rfl L.2.1 hn rfl (fun ls' h' => k p l e s m args below meth c H locs cells slots D cy B ls' C (L.put h1 h') h2 G)
theorem VP.astore {i : Nat} {q : Nat × Int} (hd : decode (zBy y) pc = .ok (.astore i, 2)) (hn : i < zMx y) (k : VP y (pc + 2) (ls.set i (some (.inr (some q)))) st n ac av hi hr Q) : VP y pc ls (.inr (some q) :: st) n ac av hi hr Q := by
  intro p l e s m args below meth c H locs cells slots D cy B lsr C L S G
  obtain ⟨h1, h2⟩ := List.forall_mem_cons.mp S
  exact lv_astore C.1 C.2.1 hd L.2.1 hn rfl (fun ls' h' => k p l e s m args below meth c H locs cells slots D cy B ls' C (L.put h1 h') h2 G)
end ZR
end
section
section ZR
variable {y : zM} {pc : Nat} {ls : List (Option zV)} {st : List zV} {n ac av : Nat} {hi : zI} {hr : zR} {Q : zQ}

theorem VP.iinc {i : Nat} {d x : Int} (hd : decode (zBy y) pc = .ok (.iinc i d, 3)) (hl : ls[i]? = some (some (.inl x))) (hx : zInR (x + d)) (k : VP y (pc + 3) (ls.set i (some (.inl (x + d)))) st n ac av hi hr Q) : VP y pc ls st n ac av hi hr Q := by
  intro p l e s m args below meth c H locs cells slots D cy B lsr C L S G
  obtain ⟨kk, hk⟩ := List.getElem?_of_mem (zlv_mem.mpr ⟨_, hl, rfl⟩ : (i, zv B (.inl x)) ∈ zlv B ls)
  have hn : i < zMx y := by rw [← L.1]; exact (List.getElem?_eq_some_iff.mp hl).1
  exact lv_iinc (v := Int32.ofInt (x + d)) C.1 C.2.1 hd L.2.1 hk (by rw [Int32.ofInt_add]) hn rfl (fun ls' h' => k p l e s m args below meth c H locs cells slots D cy B ls' C (L.put (v := .inl (x + d)) hx h') S G)
theorem z_add (a b : Int) : Int32.ofInt a + Int32.ofInt b = Int32.ofInt (a + b) := by rw [Int32.ofInt_add]
theorem z_sub (a b : Int) : Int32.ofInt a - Int32.ofInt b = Int32.ofInt (a - b) := by rw [Int32.ofInt_sub]
theorem z_mul (a b : Int) : Int32.ofInt a * Int32.ofInt b = Int32.ofInt (a * b) := by rw [Int32.ofInt_mul]
theorem z_div {a b : Int} (ha : zInR a) (hb : zInR b) (h0 : 0 ≤ a) (h1 : 0 < b) : Int32.ofInt a / Int32.ofInt b = Int32.ofInt (a / b) := by
  have h2 : 0 ≤ a / b := Int.ediv_nonneg h0 (by omega)
  have h3 : a / b ≤ a := Int.ediv_le_self b h0
  apply Int32.toInt_inj.1
  rw [Int32.toInt_div, z_ofI ha, z_ofI hb, Int.tdiv_eq_ediv_of_nonneg h0, z_bmod ⟨by omega, by omega⟩, z_ofI ⟨by omega, by omega⟩]
theorem z_divR {a b : Int} (ha : zInR a) (h0 : 0 ≤ a) (h1 : 0 < b) : zInR (a / b) := by
  have h2 : 0 ≤ a / b := Int.ediv_nonneg h0 (by omega)
  have h3 : a / b ≤ a := Int.ediv_le_self b h0
  exact ⟨by omega, by omega⟩
theorem z_remR {a b : Int} (hb : zInR b) (h1 : 0 < b) : zInR (a % b) := by
  have h2 := Int.emod_nonneg a (show b ≠ 0 by omega)
  have h3 := Int.emod_lt_of_pos a h1
  exact ⟨by omega, by omega⟩
def zand (a b : Int) : Int := (Int32.ofInt a &&& Int32.ofInt b).toInt
def zor (a b : Int) : Int := (Int32.ofInt a ||| Int32.ofInt b).toInt
def zxor (a b : Int) : Int := (Int32.ofInt a ^^^ Int32.ofInt b).toInt
def zshl (a b : Int) : Int := (Int32.ofInt a <<< (Int32.ofInt b &&& 31)).toInt
def zshr (a b : Int) : Int := (Int32.ofInt a >>> (Int32.ofInt b &&& 31)).toInt
def zushr (a b : Int) : Int := (((Int32.ofInt a).toUInt32 >>> ((Int32.ofInt b).toUInt32 &&& Int32.toUInt32 31)).toInt32).toInt
def zi2b (a : Int) : Int := ((Int32.ofInt a).toInt8.toInt32).toInt

theorem VP.iadd {a b : Int} (hd : decode (zBy y) pc = .ok (.iadd, 1)) (hx : zInR (a + b)) (k : VP y (pc + 1) ls (.inl (a + b) :: st) n ac av hi hr Q) : VP y pc ls (.inl b :: .inl a :: st) n ac av hi hr Q := by
  intro p l e s m args below meth c H locs cells slots D cy B lsr C L S G
  obtain ⟨hb, S1⟩ := List.forall_mem_cons.mp S
  obtain ⟨ha, S2⟩ := List.forall_mem_cons.mp S1
  have K := k p l e s m args below meth c H locs cells slots D cy B lsr C L (zok_cons (v := .inl (a + b)) hx S2) G
  refine lv_iadd C.1 C.2.1 hd ?_
  rw [z_add]; exact K

theorem VP.isub {a b : Int} (hd : decode (zBy y) pc = .ok (.isub, 1)) (hx : zInR (a - b)) (k : VP y (pc + 1) ls (.inl (a - b) :: st) n ac av hi hr Q) : VP y pc ls (.inl b :: .inl a :: st) n ac av hi hr Q := by
  intro p l e s m args below meth c H locs cells slots D cy B lsr C L S G
  obtain ⟨hb, S1⟩ := List.forall_mem_cons.mp S
  obtain ⟨ha, S2⟩ := List.forall_mem_cons.mp S1
  have K := k p l e s m args below meth c H locs cells slots D cy B lsr C L (zok_cons (v := .inl (a - b)) hx S2) G
  refine lv_isub C.1 C.2.1 hd ?_
  rw [z_sub]; exact K

theorem VP.imul {a b : Int} (hd : decode (zBy y) pc = .ok (.imul, 1)) (hx : zInR (a * b)) (k : VP y (pc + 1) ls (.inl (a * b) :: st) n ac av hi hr Q) : VP y pc ls (.inl b :: .inl a :: st) n ac av hi hr Q := by
  intro p l e s m args below meth c H locs cells slots D cy B lsr C L S G
  obtain ⟨hb, S1⟩ := List.forall_mem_cons.mp S
  obtain ⟨ha, S2⟩ := List.forall_mem_cons.mp S1
  have K := k p l e s m args below meth c H locs cells slots D cy B lsr C L (zok_cons (v := .inl (a * b)) hx S2) G
  refine lv_imul C.1 C.2.1 hd ?_
  rw [z_mul]; exact K

theorem VP.idiv {a b : Int} (hd : decode (zBy y) pc = .ok (.idiv, 1)) (h0 : 0 ≤ a) (h1 : 0 < b) (k : VP y (pc + 1) ls (.inl (a / b) :: st) n ac av hi hr Q) : VP y pc ls (.inl b :: .inl a :: st) n ac av hi hr Q := by
  intro p l e s m args below meth c H locs cells slots D cy B lsr C L S G
  obtain ⟨hb, S1⟩ := List.forall_mem_cons.mp S
  obtain ⟨ha, S2⟩ := List.forall_mem_cons.mp S1
  have K := k p l e s m args below meth c H locs cells slots D cy B lsr C L (zok_cons (v := .inl (a / b)) (z_divR ha h0 h1) S2) G
  refine lv_idiv C.1 C.2.1 hd (fun h => by rw [z_0, z_eq hb (by decide)] at h; omega) ?_
  rw [z_div ha hb h0 h1]; exact K

theorem VP.irem {a b : Int} (hd : decode (zBy y) pc = .ok (.irem, 1)) (h0 : 0 ≤ a) (h1 : 0 < b) (k : VP y (pc + 1) ls (.inl (a % b) :: st) n ac av hi hr Q) : VP y pc ls (.inl b :: .inl a :: st) n ac av hi hr Q := by
  intro p l e s m args below meth c H locs cells slots D cy B lsr C L S G
  obtain ⟨hb, S1⟩ := List.forall_mem_cons.mp S
  obtain ⟨ha, S2⟩ := List.forall_mem_cons.mp S1
  have K := k p l e s m args below meth c H locs cells slots D cy B lsr C L (zok_cons (v := .inl (a % b)) (z_remR hb h1) S2) G
  refine lv_irem C.1 C.2.1 hd (fun h => by rw [z_0, z_eq hb (by decide)] at h; omega) ?_
  rw [z_div ha hb h0 h1, z_mul, z_sub, show a - a / b * b = a % b by rw [Int.emod_def, Int.mul_comm]]; exact K

theorem VP.iand {a b : Int} (hd : decode (zBy y) pc = .ok (.iand, 1)) (k : VP y (pc + 1) ls (.inl (zand a b) :: st) n ac av hi hr Q) : VP y pc ls (.inl b :: .inl a :: st) n ac av hi hr Q := by
  intro p l e s m args below meth c H locs cells slots D cy B lsr C L S G
  obtain ⟨hb, S1⟩ := List.forall_mem_cons.mp S
  obtain ⟨ha, S2⟩ := List.forall_mem_cons.mp S1
  have K := k p l e s m args below meth c H locs cells slots D cy B lsr C L (zok_cons (v := .inl (zand a b)) (z_toI _) S2) G
  refine lv_iand C.1 C.2.1 hd ?_
  have K : W p l e (zRm y) s m args below meth c H locs cells slots _ (F0 m (pc + 1) lsr (.int (Int32.ofInt (zand a b)) :: st.map (zv B))) := K
  rw [zand, Int32.ofInt_toInt] at K; exact K

theorem VP.ior {a b : Int} (hd : decode (zBy y) pc = .ok (.ior, 1)) (k : VP y (pc + 1) ls (.inl (zor a b) :: st) n ac av hi hr Q) : VP y pc ls (.inl b :: .inl a :: st) n ac av hi hr Q := by
  intro p l e s m args below meth c H locs cells slots D cy B lsr C L S G
  obtain ⟨hb, S1⟩ := List.forall_mem_cons.mp S
  obtain ⟨ha, S2⟩ := List.forall_mem_cons.mp S1
  have K := k p l e s m args below meth c H locs cells slots D cy B lsr C L (zok_cons (v := .inl (zor a b)) (z_toI _) S2) G
  refine lv_ior C.1 C.2.1 hd ?_
  have K : W p l e (zRm y) s m args below meth c H locs cells slots _ (F0 m (pc + 1) lsr (.int (Int32.ofInt (zor a b)) :: st.map (zv B))) := K
  rw [zor, Int32.ofInt_toInt] at K; exact K

theorem VP.ixor {a b : Int} (hd : decode (zBy y) pc = .ok (.ixor, 1)) (k : VP y (pc + 1) ls (.inl (zxor a b) :: st) n ac av hi hr Q) : VP y pc ls (.inl b :: .inl a :: st) n ac av hi hr Q := by
  intro p l e s m args below meth c H locs cells slots D cy B lsr C L S G
  obtain ⟨hb, S1⟩ := List.forall_mem_cons.mp S
  obtain ⟨ha, S2⟩ := List.forall_mem_cons.mp S1
  have K := k p l e s m args below meth c H locs cells slots D cy B lsr C L (zok_cons (v := .inl (zxor a b)) (z_toI _) S2) G
  refine lv_ixor C.1 C.2.1 hd ?_
  have K : W p l e (zRm y) s m args below meth c H locs cells slots _ (F0 m (pc + 1) lsr (.int (Int32.ofInt (zxor a b)) :: st.map (zv B))) := K
  rw [zxor, Int32.ofInt_toInt] at K; exact K

theorem VP.ishl {a b : Int} (hd : decode (zBy y) pc = .ok (.ishl, 1)) (k : VP y (pc + 1) ls (.inl (zshl a b) :: st) n ac av hi hr Q) : VP y pc ls (.inl b :: .inl a :: st) n ac av hi hr Q := by
  intro p l e s m args below meth c H locs cells slots D cy B lsr C L S G
  obtain ⟨hb, S1⟩ := List.forall_mem_cons.mp S
  obtain ⟨ha, S2⟩ := List.forall_mem_cons.mp S1
  have K := k p l e s m args below meth c H locs cells slots D cy B lsr C L (zok_cons (v := .inl (zshl a b)) (z_toI _) S2) G
  refine lv_ishl C.1 C.2.1 hd ?_
  have K : W p l e (zRm y) s m args below meth c H locs cells slots _ (F0 m (pc + 1) lsr (.int (Int32.ofInt (zshl a b)) :: st.map (zv B))) := K
  rw [zshl, Int32.ofInt_toInt] at K; exact K

theorem VP.ishr {a b : Int} (hd : decode (zBy y) pc = .ok (.ishr, 1)) (k : VP y (pc + 1) ls (.inl (zshr a b) :: st) n ac av hi hr Q) : VP y pc ls (.inl b :: .inl a :: st) n ac av hi hr Q := by
  intro p l e s m args below meth c H locs cells slots D cy B lsr C L S G
  obtain ⟨hb, S1⟩ := List.forall_mem_cons.mp S
  obtain ⟨ha, S2⟩ := List.forall_mem_cons.mp S1
  have K := k p l e s m args below meth c H locs cells slots D cy B lsr C L (zok_cons (v := .inl (zshr a b)) (z_toI _) S2) G
  refine lv_ishr C.1 C.2.1 hd ?_
  have K : W p l e (zRm y) s m args below meth c H locs cells slots _ (F0 m (pc + 1) lsr (.int (Int32.ofInt (zshr a b)) :: st.map (zv B))) := K
  rw [zshr, Int32.ofInt_toInt] at K; exact K

theorem VP.iushr {a b : Int} (hd : decode (zBy y) pc = .ok (.iushr, 1)) (k : VP y (pc + 1) ls (.inl (zushr a b) :: st) n ac av hi hr Q) : VP y pc ls (.inl b :: .inl a :: st) n ac av hi hr Q := by
  intro p l e s m args below meth c H locs cells slots D cy B lsr C L S G
  obtain ⟨hb, S1⟩ := List.forall_mem_cons.mp S
  obtain ⟨ha, S2⟩ := List.forall_mem_cons.mp S1
  exact lv_iushr (v := Int32.ofInt (zushr a b)) C.1 C.2.1 hd (by rw [zushr, Int32.ofInt_toInt]) (k p l e s m args below meth c H locs cells slots D cy B lsr C L (zok_cons (v := .inl (zushr a b)) (z_toI _) S2) G)
theorem VP.i2b {a : Int} (hd : decode (zBy y) pc = .ok (.i2b, 1)) (k : VP y (pc + 1) ls (.inl (zi2b a) :: st) n ac av hi hr Q) : VP y pc ls (.inl a :: st) n ac av hi hr Q := by
  intro p l e s m args below meth c H locs cells slots D cy B lsr C L S G
  obtain ⟨ha, S2⟩ := List.forall_mem_cons.mp S
  exact lv_i2b (v := Int32.ofInt (zi2b a)) C.1 C.2.1 hd (by rw [zi2b, Int32.ofInt_toInt]) (k p l e s m args below meth c H locs cells slots D cy B lsr C L (zok_cons (v := .inl (zi2b a)) (z_toI _) S2) G)
theorem VP.dup {v : zV} (hd : decode (zBy y) pc = .ok (.dup, 1)) (k : VP y (pc + 1) ls (v :: v :: st) n ac av hi hr Q) : VP y pc ls (v :: st) n ac av hi hr Q := by
  intro p l e s m args below meth c H locs cells slots D cy B lsr C L S G
  exact lv_dup C.1 C.2.1 hd (zv_cat B v) (k p l e s m args below meth c H locs cells slots D cy B lsr C L (zok_cons (List.forall_mem_cons.mp S).1 S) G)
theorem VP.dup2 {v u : zV} (hd : decode (zBy y) pc = .ok (.dup2, 1)) (k : VP y (pc + 1) ls (v :: u :: v :: u :: st) n ac av hi hr Q) : VP y pc ls (v :: u :: st) n ac av hi hr Q := by
  intro p l e s m args below meth c H locs cells slots D cy B lsr C L S G
  obtain ⟨h1, S1⟩ := List.forall_mem_cons.mp S
  obtain ⟨h2, S2⟩ := List.forall_mem_cons.mp S1
  exact lv_dup2_11 C.1 C.2.1 hd (zv_cat B v) (zv_cat B u) (k p l e s m args below meth c H locs cells slots D cy B lsr C L (zok_cons h1 (zok_cons h2 S)) G)
theorem VP.pop {v : zV} (hd : decode (zBy y) pc = .ok (.pop, 1)) (k : VP y (pc + 1) ls st n ac av hi hr Q) : VP y pc ls (v :: st) n ac av hi hr Q := by
  intro p l e s m args below meth c H locs cells slots D cy B lsr C L S G
  exact lv_pop C.1 C.2.1 hd (zv_cat B v) (k p l e s m args below meth c H locs cells slots D cy B lsr C L (List.forall_mem_cons.mp S).2 G)
theorem VP.goto {off : Int} {tgt : Nat} (hd : decode (zBy y) pc = .ok (.goto off, 3)) (ht : (pc : Int) + off = (tgt : Int)) (k : VP y tgt ls st n ac av hi hr Q) : VP y pc ls st n ac av hi hr Q := by
  intro p l e s m args below meth c H locs cells slots D cy B lsr C L S G
  exact lv_goto C.1 C.2.1 hd ht (k p l e s m args below meth c H locs cells slots D cy B lsr C L S G)

theorem VP.if_eq {a : Int} {off : Int} {tgt : Nat} (hd : decode (zBy y) pc = .ok (.ifCond .eq off, 3)) (ht : (pc : Int) + off = (tgt : Int)) (kt : a = 0 → VP y tgt ls st n ac av hi hr Q) (kf : a ≠ 0 → VP y (pc + 3) ls st n ac av hi hr Q) : VP y pc ls (.inl a :: st) n ac av hi hr Q := by
  intro p l e s m args below meth c H locs cells slots D cy B lsr C L S G
  obtain ⟨ha, S2⟩ := List.forall_mem_cons.mp S
  exact lv_if_eq C.1 C.2.1 hd ht (fun h => kt (by rw [z_0, z_eq ha (by decide)] at h; exact h) p l e s m args below meth c H locs cells slots D cy B lsr C L S2 G) (fun h => kf (by rw [z_0, z_eq ha (by decide)] at h; exact h) p l e s m args below meth c H locs cells slots D cy B lsr C L S2 G)

theorem VP.if_ne {a : Int} {off : Int} {tgt : Nat} (hd : decode (zBy y) pc = .ok (.ifCond .ne off, 3)) (ht : (pc : Int) + off = (tgt : Int)) (kt : a ≠ 0 → VP y tgt ls st n ac av hi hr Q) (kf : a = 0 → VP y (pc + 3) ls st n ac av hi hr Q) : VP y pc ls (.inl a :: st) n ac av hi hr Q := by
  intro p l e s m args below meth c H locs cells slots D cy B lsr C L S G
  obtain ⟨ha, S2⟩ := List.forall_mem_cons.mp S
  exact lv_if_ne C.1 C.2.1 hd ht (fun h => kt (by rw [z_0, z_eq ha (by decide)] at h; exact h) p l e s m args below meth c H locs cells slots D cy B lsr C L S2 G) (fun h => kf (by rw [z_0, z_eq ha (by decide)] at h; exact h) p l e s m args below meth c H locs cells slots D cy B lsr C L S2 G)

theorem VP.if_lt {a : Int} {off : Int} {tgt : Nat} (hd : decode (zBy y) pc = .ok (.ifCond .lt off, 3)) (ht : (pc : Int) + off = (tgt : Int)) (kt : a < 0 → VP y tgt ls st n ac av hi hr Q) (kf : 0 ≤ a → VP y (pc + 3) ls st n ac av hi hr Q) : VP y pc ls (.inl a :: st) n ac av hi hr Q := by
  intro p l e s m args below meth c H locs cells slots D cy B lsr C L S G
  obtain ⟨ha, S2⟩ := List.forall_mem_cons.mp S
  exact lv_if_lt C.1 C.2.1 hd ht (fun h => kt (by rw [z_0, z_lt ha (by decide)] at h; exact h) p l e s m args below meth c H locs cells slots D cy B lsr C L S2 G) (fun h => kf (by rw [z_0, z_lt ha (by decide)] at h; omega) p l e s m args below meth c H locs cells slots D cy B lsr C L S2 G)

theorem VP.if_ge {a : Int} {off : Int} {tgt : Nat} (hd : decode (zBy y) pc = .ok (.ifCond .ge off, 3)) (ht : (pc : Int) + off = (tgt : Int)) (kt : 0 ≤ a → VP y tgt ls st n ac av hi hr Q) (kf : a < 0 → VP y (pc + 3) ls st n ac av hi hr Q) : VP y pc ls (.inl a :: st) n ac av hi hr Q := by
  intro p l e s m args below meth c H locs cells slots D cy B lsr C L S G
  obtain ⟨ha, S2⟩ := List.forall_mem_cons.mp S
  exact lv_if_ge C.1 C.2.1 hd ht (fun h => kt (by rw [z_0, z_le (by decide) ha] at h; exact h) p l e s m args below meth c H locs cells slots D cy B lsr C L S2 G) (fun h => kf (by rw [z_0, z_le (by decide) ha] at h; omega) p l e s m args below meth c H locs cells slots D cy B lsr C L S2 G)

theorem VP.if_gt {a : Int} {off : Int} {tgt : Nat} (hd : decode (zBy y) pc = .ok (.ifCond .gt off, 3)) (ht : (pc : Int) + off = (tgt : Int)) (kt : 0 < a → VP y tgt ls st n ac av hi hr Q) (kf : a ≤ 0 → VP y (pc + 3) ls st n ac av hi hr Q) : VP y pc ls (.inl a :: st) n ac av hi hr Q := by
  intro p l e s m args below meth c H locs cells slots D cy B lsr C L S G
  obtain ⟨ha, S2⟩ := List.forall_mem_cons.mp S
  exact lv_if_gt C.1 C.2.1 hd ht (fun h => kt (by rw [z_0, z_lt (by decide) ha] at h; exact h) p l e s m args below meth c H locs cells slots D cy B lsr C L S2 G) (fun h => kf (by rw [z_0, z_lt (by decide) ha] at h; omega) p l e s m args below meth c H locs cells slots D cy B lsr C L S2 G)

theorem VP.if_le {a : Int} {off : Int} {tgt : Nat} (hd : decode (zBy y) pc = .ok (.ifCond .le off, 3)) (ht : (pc : Int) + off = (tgt : Int)) (kt : a ≤ 0 → VP y tgt ls st n ac av hi hr Q) (kf : 0 < a → VP y (pc + 3) ls st n ac av hi hr Q) : VP y pc ls (.inl a :: st) n ac av hi hr Q := by
  intro p l e s m args below meth c H locs cells slots D cy B lsr C L S G
  obtain ⟨ha, S2⟩ := List.forall_mem_cons.mp S
  exact lv_if_le C.1 C.2.1 hd ht (fun h => kt (by rw [z_0, z_le ha (by decide)] at h; exact h) p l e s m args below meth c H locs cells slots D cy B lsr C L S2 G) (fun h => kf (by rw [z_0, z_le ha (by decide)] at h; omega) p l e s m args below meth c H locs cells slots D cy B lsr C L S2 G)

theorem VP.icmp_eq {a b : Int} {off : Int} {tgt : Nat} (hd : decode (zBy y) pc = .ok (.if_icmp .eq off, 3)) (ht : (pc : Int) + off = (tgt : Int)) (kt : a = b → VP y tgt ls st n ac av hi hr Q) (kf : a ≠ b → VP y (pc + 3) ls st n ac av hi hr Q) : VP y pc ls (.inl b :: .inl a :: st) n ac av hi hr Q := by
  intro p l e s m args below meth c H locs cells slots D cy B lsr C L S G
  obtain ⟨hb, S1⟩ := List.forall_mem_cons.mp S
  obtain ⟨ha, S2⟩ := List.forall_mem_cons.mp S1
  exact lv_icmp_eq C.1 C.2.1 hd ht (fun h => kt (by rw [z_eq ha hb] at h; exact h) p l e s m args below meth c H locs cells slots D cy B lsr C L S2 G) (fun h => kf (by rw [z_eq ha hb] at h; exact h) p l e s m args below meth c H locs cells slots D cy B lsr C L S2 G)

theorem VP.icmp_ne {a b : Int} {off : Int} {tgt : Nat} (hd : decode (zBy y) pc = .ok (.if_icmp .ne off, 3)) (ht : (pc : Int) + off = (tgt : Int)) (kt : a ≠ b → VP y tgt ls st n ac av hi hr Q) (kf : a = b → VP y (pc + 3) ls st n ac av hi hr Q) : VP y pc ls (.inl b :: .inl a :: st) n ac av hi hr Q := by
  intro p l e s m args below meth c H locs cells slots D cy B lsr C L S G
  obtain ⟨hb, S1⟩ := List.forall_mem_cons.mp S
  obtain ⟨ha, S2⟩ := List.forall_mem_cons.mp S1
  exact lv_icmp_ne C.1 C.2.1 hd ht (fun h => kt (by rw [z_eq ha hb] at h; exact h) p l e s m args below meth c H locs cells slots D cy B lsr C L S2 G) (fun h => kf (by rw [z_eq ha hb] at h; exact h) p l e s m args below meth c H locs cells slots D cy B lsr C L S2 G)

theorem VP.icmp_lt {a b : Int} {off : Int} {tgt : Nat} (hd : decode (zBy y) pc = .ok (.if_icmp .lt off, 3)) (ht : (pc : Int) + off = (tgt : Int)) (kt : a < b → VP y tgt ls st n ac av hi hr Q) (kf : b ≤ a → VP y (pc + 3) ls st n ac av hi hr Q) : VP y pc ls (.inl b :: .inl a :: st) n ac av hi hr Q := by
  intro p l e s m args below meth c H locs cells slots D cy B lsr C L S G
  obtain ⟨hb, S1⟩ := List.forall_mem_cons.mp S
  obtain ⟨ha, S2⟩ := List.forall_mem_cons.mp S1
  exact lv_icmp_lt C.1 C.2.1 hd ht (fun h => kt (by rw [z_lt ha hb] at h; exact h) p l e s m args below meth c H locs cells slots D cy B lsr C L S2 G) (fun h => kf (by rw [z_lt ha hb] at h; omega) p l e s m args below meth c H locs cells slots D cy B lsr C L S2 G)

theorem VP.icmp_ge {a b : Int} {off : Int} {tgt : Nat} (hd : decode (zBy y) pc = .ok (.if_icmp .ge off, 3)) (ht : (pc : Int) + off = (tgt : Int)) (kt : b ≤ a → VP y tgt ls st n ac av hi hr Q) (kf : a < b → VP y (pc + 3) ls st n ac av hi hr Q) : VP y pc ls (.inl b :: .inl a :: st) n ac av hi hr Q := by
  intro p l e s m args below meth c H locs cells slots D cy B lsr C L S G
  obtain ⟨hb, S1⟩ := List.forall_mem_cons.mp S
  obtain ⟨ha, S2⟩ := List.forall_mem_cons.mp S1
  exact lv_icmp_ge C.1 C.2.1 hd ht (fun h => kt (by rw [z_le hb ha] at h; exact h) p l e s m args below meth c H locs cells slots D cy B lsr C L S2 G) (fun h => kf (by rw [z_le hb ha] at h; omega) p l e s m args below meth c H locs cells slots D cy B lsr C L S2 G)

theorem VP.icmp_gt {a b : Int} {off : Int} {tgt : Nat} (hd : decode (zBy y) pc = .ok (.if_icmp .gt off, 3)) (ht : (pc : Int) + off = (tgt : Int)) (kt : b < a → VP y tgt ls st n ac av hi hr Q) (kf : a ≤ b → VP y (pc + 3) ls st n ac av hi hr Q) : VP y pc ls (.inl b :: .inl a :: st) n ac av hi hr Q := by
  intro p l e s m args below meth c H locs cells slots D cy B lsr C L S G
  obtain ⟨hb, S1⟩ := List.forall_mem_cons.mp S
  obtain ⟨ha, S2⟩ := List.forall_mem_cons.mp S1
  exact lv_icmp_gt C.1 C.2.1 hd ht (fun h => kt (by rw [z_lt hb ha] at h; exact h) p l e s m args below meth c H locs cells slots D cy B lsr C L S2 G) (fun h => kf (by rw [z_lt hb ha] at h; omega) p l e s m args below meth c H locs cells slots D cy B lsr C L S2 G)

theorem VP.icmp_le {a b : Int} {off : Int} {tgt : Nat} (hd : decode (zBy y) pc = .ok (.if_icmp .le off, 3)) (ht : (pc : Int) + off = (tgt : Int)) (kt : a ≤ b → VP y tgt ls st n ac av hi hr Q) (kf : b < a → VP y (pc + 3) ls st n ac av hi hr Q) : VP y pc ls (.inl b :: .inl a :: st) n ac av hi hr Q := by
  intro p l e s m args below meth c H locs cells slots D cy B lsr C L S G
  obtain ⟨hb, S1⟩ := List.forall_mem_cons.mp S
  obtain ⟨ha, S2⟩ := List.forall_mem_cons.mp S1
  exact lv_icmp_le C.1 C.2.1 hd ht (fun h => kt (by rw [z_le ha hb] at h; exact h) p l e s m args below meth c H locs cells slots D cy B lsr C L S2 G) (fun h => kf (by rw [z_le ha hb] at h; omega) p l e s m args below meth c H locs cells slots D cy B lsr C L S2 G)

theorem VP.ifnull {o : Option (Nat × Int)} {off : Int} {tgt : Nat} (hd : decode (zBy y) pc = .ok (.ifnull off, 3)) (ht : (pc : Int) + off = (tgt : Int)) (kt : o = none → VP y tgt ls st n ac av hi hr Q) (kf : ∀ q, o = some q → VP y (pc + 3) ls st n ac av hi hr Q) : VP y pc ls (.inr o :: st) n ac av hi hr Q := by
  intro p l e s m args below meth c H locs cells slots D cy B lsr C L S G
  obtain ⟨ha, S2⟩ := List.forall_mem_cons.mp S
  cases o with
  | none => exact lv_ifnullN C.1 C.2.1 hd ht (kt rfl p l e s m args below meth c H locs cells slots D cy B lsr C L S2 G)
  | some q => exact lv_ifnull C.1 C.2.1 hd (kf q rfl p l e s m args below meth c H locs cells slots D cy B lsr C L S2 G)
theorem VP.ifnonnull {o : Option (Nat × Int)} {off : Int} {tgt : Nat} (hd : decode (zBy y) pc = .ok (.ifnonnull off, 3)) (ht : (pc : Int) + off = (tgt : Int)) (kt : ∀ q, o = some q → VP y tgt ls st n ac av hi hr Q) (kf : o = none → VP y (pc + 3) ls st n ac av hi hr Q) : VP y pc ls (.inr o :: st) n ac av hi hr Q := by
  intro p l e s m args below meth c H locs cells slots D cy B lsr C L S G
  obtain ⟨ha, S2⟩ := List.forall_mem_cons.mp S
  cases o with
  | none => exact lv_ifnonnullN C.1 C.2.1 hd (kf rfl p l e s m args below meth c H locs cells slots D cy B lsr C L S2 G)
  | some q => exact lv_ifnonnull C.1 C.2.1 hd ht (kt q rfl p l e s m args below meth c H locs cells slots D cy B lsr C L S2 G)
theorem VP.tsw {a dflt lo hi' : Int} {offs : Array Int} {len : Nat} (hd : decode (zBy y) pc = .ok (.tableswitch dflt lo hi' offs, len)) (ko : a < lo ∨ hi' < a → ∃ tgt : Nat, (pc : Int) + dflt = (tgt : Int) ∧ VP y tgt ls st n ac av hi hr Q)
    (ki : lo ≤ a → a ≤ hi' → ∃ (off : Int) (tgt : Nat), offs[(a - lo).toNat]? = some off ∧ (pc : Int) + off = (tgt : Int) ∧ VP y tgt ls st n ac av hi hr Q) : VP y pc ls (.inl a :: st) n ac av hi hr Q := by
  intro p l e s m args below meth c H locs cells slots D cy B lsr C L S G
  obtain ⟨ha, S2⟩ := List.forall_mem_cons.mp S
  by_cases h : a < lo ∨ hi' < a
  · obtain ⟨tgt, h1, k⟩ := ko h
    exact lv_tableOut C.1 C.2.1 hd (by rw [z_ofI ha]; exact h) h1 (k p l e s m args below meth c H locs cells slots D cy B lsr C L S2 G)
  · obtain ⟨off, tgt, h1, h2, k⟩ := ki (by omega) (by omega)
    exact lv_tableIn C.1 C.2.1 hd (by rw [z_ofI ha]; omega) (by rw [z_ofI ha]; omega) (by rw [z_ofI ha]; exact h1) h2 (k p l e s m args below meth c H locs cells slots D cy B lsr C L S2 G)
theorem VP.lsw {a dflt : Int} {ps : Array (Int × Int)} {len tgt : Nat} (hd : decode (zBy y) pc = .ok (.lookupswitch dflt ps, len)) (hp : (ps.toList.zip (ps.toList.drop 1)).all (fun (a, next) => a.1 < next.1) = true) (ht : (pc : Int) + Op.lookupswitch.offset ps.toList dflt a = (tgt : Int)) (k : VP y tgt ls st n ac av hi hr Q) : VP y pc ls (.inl a :: st) n ac av hi hr Q := by
  intro p l e s m args below meth c H locs cells slots D cy B lsr C L S G
  obtain ⟨ha, S2⟩ := List.forall_mem_cons.mp S
  exact lv_lookup C.1 C.2.1 hd hp (by rw [z_ofI ha]) ht (k p l e s m args below meth c H locs cells slots D cy B lsr C L S2 G)

end ZR
end
section
def zup (hi : zI) (k : Nat) (j s x : Int) : zI := fun k' j' s' => if k' = k ∧ j' = j ∧ s' = s then x else hi k' j' s'
def zupR (hr : zR) (k : Nat) (j s : Int) (o : Option (Nat × Int)) : zR := fun k' j' s' => if k' = k ∧ j' = j ∧ s' = s then o else hr k' j' s'
def zclr (hi : zI) (k : Nat) (j : Int) : zI := fun k' j' s' => if k' = k ∧ j' = j then 0 else hi k' j' s'
def zclrR (hr : zR) (k : Nat) (j : Int) : zR := fun k' j' s' => if k' = k ∧ j' = j then none else hr k' j' s'
theorem zokH_up {n : Nat} {hi : zI} {hr : zR} (h : zokH n hi hr) {k : Nat} {j s x : Int} (hx : zInR x) : zokH n (zup hi k j s x) hr := by
  refine ⟨fun k' j' s' => ?_, h.2⟩
  unfold zup
  split
  · exact hx
  · exact h.1 _ _ _
theorem zokH_upR {n : Nat} {hi : zI} {hr : zR} (h : zokH n hi hr) {k : Nat} {j s : Int} {o : Option (Nat × Int)} (ho : zok n (.inr o)) : zokH n hi (zupR hr k j s o) := by
  refine ⟨h.1, fun k' j' s' q hq => ?_⟩
  unfold zupR at hq
  split at hq
  · subst hq; exact ho
  · exact h.2 _ _ _ _ hq
theorem zokH_clr {n : Nat} {hi : zI} {hr : zR} (h : zokH n hi hr) {k : Nat} {j : Int} : zokH (n + 1) (zclr hi k j) (zclrR hr k j) := by
  refine ⟨fun k' j' s' => ?_, fun k' j' s' q hq => ?_⟩
  · unfold zclr
    split
    · exact ⟨by decide, by decide⟩
    · exact h.1 _ _ _
  · unfold zclrR at hq
    split at hq
    · cases hq
    · exact zval_mono (Nat.le_succ n) (h.2 _ _ _ _ hq)
/-- cells of other names are as they were -/
theorem zE_off {B : Nat} {cy : Nat → ClassId} {hi hi' : zI} {hr hr' : zR} {q' : Nat × Int} (h : ∀ s, hi' q'.1 q'.2 s = hi q'.1 q'.2 s) (h2 : ∀ s, hr' q'.1 q'.2 s = hr q'.1 q'.2 s) : zE B cy hi' hr' q' = zE B cy hi hr q' := by
  unfold zE zFs
  have e1 : hi' q'.1 q'.2 = hi q'.1 q'.2 := funext h
  have e2 : hr' q'.1 q'.2 = hr q'.1 q'.2 := funext h2
  rw [e1, e2]
theorem z_ne {k' k : Nat} {j' j : Int} (h : (k', j') ≠ (k, j)) : ¬ (k' = k ∧ j' = j) := fun e => h (by rw [e.1, e.2])
theorem zE_up {B : Nat} {cy : Nat → ClassId} {hi : zI} {hr : zR} {k : Nat} {j s x : Int} {q' : Nat × Int} (h : q' ≠ (k, j)) : zE B cy (zup hi k j s x) hr q' = zE B cy hi hr q' := by
  refine zE_off (fun s' => ?_) (fun _ => rfl)
  unfold zup
  rw [if_neg (fun e => z_ne (k' := q'.1) (j' := q'.2) h ⟨e.1, e.2.1⟩)]
theorem zE_upR {B : Nat} {cy : Nat → ClassId} {hi : zI} {hr : zR} {k : Nat} {j s : Int} {o : Option (Nat × Int)} {q' : Nat × Int} (h : q' ≠ (k, j)) : zE B cy hi (zupR hr k j s o) q' = zE B cy hi hr q' := by
  refine zE_off (fun _ => rfl) (fun s' => ?_)
  unfold zupR
  rw [if_neg (fun e => z_ne (k' := q'.1) (j' := q'.2) h ⟨e.1, e.2.1⟩)]
theorem zE_clr {B : Nat} {cy : Nat → ClassId} {hi : zI} {hr : zR} {k : Nat} {j : Int} {q' : Nat × Int} (h : q' ≠ (k, j)) : zE B cy (zclr hi k j) (zclrR hr k j) q' = zE B cy hi hr q' := by
  refine zE_off (fun s' => ?_) (fun s' => ?_)
  · unfold zclr
    rw [if_neg (z_ne (k' := q'.1) (j' := q'.2) h)]
  · unfold zclrR
    rw [if_neg (z_ne (k' := q'.1) (j' := q'.2) h)]
/-- what is known of a kind of object -/
def zCl (c : Nat) (C : String) (T : u_T) (N : Nat) (ty : Nat → FieldType) : Prop :=
  vwCl[c]? = some (C, T, N) ∧ zNF c = N ∧ (∀ w ∈ u_ws C T N, w ∈ lw_tbl) ∧ (∀ k, k < N → parseFieldDescriptor (T k).2.2.1 = some (ty k)) ∧ (∀ a, a < N → ∀ b, b < N → a ≠ b → (T a).2.1 ≠ (T b).2.1) ∧
  (∀ k, k < N → defaultValue (ty k) = if zRF c k then .null else .int 0) ∧ Cond.instantiable C N ∈ lw_tbl ∧ Cond.initialized C ∈ lw_tbl
theorem zFs_get {B : Nat} {hi : zI} {hr : zR} {q : Nat × Int} {c s : Nat} (h : s < zNF c) : (zFs B hi hr q c)[s]? = some (if zRF c s then va_rf (zf B (hr q.1 q.2 (s : Int))) else .int (Int32.ofInt (hi q.1 q.2 (s : Int)))) := by
  simp [zFs, h]
theorem zFs_len {B : Nat} {hi : zI} {hr : zR} {q : Nat × Int} {c : Nat} : (zFs B hi hr q c).length = zNF c := by simp [zFs]
theorem zFs_set {B : Nat} {hi hi' : zI} {hr hr' : zR} {q : Nat × Int} {c s : Nat} (h : s < zNF c) {v : Value}
    (hv : v = if zRF c s then va_rf (zf B (hr' q.1 q.2 (s : Int))) else .int (Int32.ofInt (hi' q.1 q.2 (s : Int))))
    (ho : ∀ s' : Nat, s' ≠ s → hi' q.1 q.2 (s' : Int) = hi q.1 q.2 (s' : Int) ∧ hr' q.1 q.2 (s' : Int) = hr q.1 q.2 (s' : Int)) : (zFs B hi hr q c).set s v = zFs B hi' hr' q c := by
  apply List.ext_getElem?
  intro k
  by_cases hk : k < zNF c
  · by_cases e : s = k
    · subst e
      rw [List.getElem?_set_self (by rw [zFs_len]; exact hk), zFs_get hk, hv]
    · rw [List.getElem?_set_ne e, zFs_get hk, zFs_get hk, (ho k (fun e2 => e e2.symm)).1, (ho k (fun e2 => e e2.symm)).2]
  · rw [List.getElem?_eq_none (by rw [List.length_set, zFs_len]; omega), List.getElem?_eq_none (by rw [zFs_len]; omega)]
theorem zE_o {B : Nat} {cy : Nat → ClassId} {hi : zI} {hr : zR} {k : Nat} {j : Int} {c : Nat} (hk : zSh k = .inl c) : zE B cy hi hr (k, j) = .inr (c, zFs B hi hr (k, j) c) := by
  unfold zE
  show (match zSh k with | .inl c => _ | .inr (t, n) => _) = _
  rw [hk]
theorem zE_a {B : Nat} {cy : Nat → ClassId} {hi : zI} {hr : zR} {k : Nat} {j : Int} {t len : Nat} (hk : zSh k = .inr (t, len)) (ht : t < 3) : zE B cy hi hr (k, j) = .inl (cy t, len, .inl (fun s => Int32.ofInt (hi k j (s : Int)))) := by
  unfold zE
  show (match zSh k with | .inl c => _ | .inr (t, n) => _) = _
  rw [hk]
  show Sum.inl _ = Sum.inl _
  rw [if_pos ht]
theorem zE_q {B : Nat} {cy : Nat → ClassId} {hi : zI} {hr : zR} {k : Nat} {j : Int} {t len : Nat} (hk : zSh k = .inr (t, len)) (ht : ¬ t < 3) : zE B cy hi hr (k, j) = .inl (cy t, len, .inr (.inr (.inr (.inr (fun s => zf B (hr k j (s : Int))))))) := by
  unfold zE
  show (match zSh k with | .inl c => _ | .inr (t, n) => _) = _
  rw [hk]
  show Sum.inl _ = Sum.inl _
  rw [if_neg ht]
theorem zW_at {B : Nat} {cy : Nat → ClassId} {n : Nat} {hi : zI} {hr : zR} {k : Nat} {j : Int} (h : zval n (k, j)) : (zW B cy n hi hr)[zOff k j]? = some (zA B (k, j), zE B cy hi hr (k, j)) := by
  rw [zW_get h.1, h.2]; rfl
section ZR
variable {y : zM} {pc : Nat} {ls : List (Option zV)} {st : List zV} {n ac av : Nat} {hi : zI} {hr : zR} {Q : zQ}
theorem VP.getI {k c N i : Nat} {j : Int} {C : String} {T : u_T} {ty : Nat → FieldType} {index : Nat} (hd : decode (zBy y) pc = .ok (.getfield index, 3)) (hz : zCl c C T N ty) (hk : zSh k = .inl c) (hs : i < N) (hrf : zRF c i = false)
    (hl : Cond.fieldLink (zNm y).cls index (T i).1 (T i).2.1 (T i).2.2.1 ∈ lw_tbl) (kk : VP y (pc + 3) ls (.inl (hi k j (i : Int)) :: st) n ac av hi hr Q) : VP y pc ls (.inr (some (k, j)) :: st) n ac av hi hr Q := by
  intro p l e s m args below meth c' H locs cells slots D cy B lsr C' L S G
  obtain ⟨h1, S2⟩ := List.forall_mem_cons.mp S
  obtain ⟨z1, z2, z3, z4, z5, z6, z7, z8⟩ := hz
  have he := zW_at (B := B) (cy := cy) (hi := hi) (hr := hr) h1
  rw [zE_o hk] at he
  refine va_get (C := C) (T := T) (N := N) (ci := c) C'.1 C'.2.1 C'.2.2.2.2.2.1 z3 C'.2.2.2.2.1 C'.2.2.2.2.2.2.2.2 G.2.2.2.1 _ he z1 i hs (C'.2.2.2.2.2.1 _ hl) (fun _ h => h) (v := .int (Int32.ofInt (hi k j (i : Int)))) ?_ hd (kk p l e s m args below meth c' H locs cells slots D cy B lsr C' L (zok_cons (v := .inl (hi k j (i : Int))) (G.1.1 _ _ _) S2) G)
  rw [zFs_get (by rw [z2]; exact hs), hrf]; rfl
theorem VP.getR {k c N i : Nat} {j : Int} {C : String} {T : u_T} {ty : Nat → FieldType} {index : Nat} (hd : decode (zBy y) pc = .ok (.getfield index, 3)) (hz : zCl c C T N ty) (hk : zSh k = .inl c) (hs : i < N) (hrf : zRF c i = true)
    (hl : Cond.fieldLink (zNm y).cls index (T i).1 (T i).2.1 (T i).2.2.1 ∈ lw_tbl) {o : Option (Nat × Int)} (ho : hr k j (i : Int) = o) (kk : VP y (pc + 3) ls (.inr o :: st) n ac av hi hr Q) : VP y pc ls (.inr (some (k, j)) :: st) n ac av hi hr Q := by
  intro p l e s m args below meth c' H locs cells slots D cy B lsr C' L S G
  obtain ⟨h1, S2⟩ := List.forall_mem_cons.mp S
  obtain ⟨z1, z2, z3, z4, z5, z6, z7, z8⟩ := hz
  have he := zW_at (B := B) (cy := cy) (hi := hi) (hr := hr) h1
  rw [zE_o hk] at he
  refine va_get (C := C) (T := T) (N := N) (ci := c) C'.1 C'.2.1 C'.2.2.2.2.2.1 z3 C'.2.2.2.2.1 C'.2.2.2.2.2.2.2.2 G.2.2.2.1 _ he z1 i hs (C'.2.2.2.2.2.1 _ hl) (fun _ h => h) (v := zv B (.inr o)) ?_ hd (kk p l e s m args below meth c' H locs cells slots D cy B lsr C' L (zok_cons (v := .inr o) (by rw [← ho]; exact zokH_r G.1 _ _ _) S2) G)
  rw [zFs_get (by rw [z2]; exact hs), hrf, ← ho]
  exact congrArg some (zf_rf B _)
theorem VP.putI {k c N i : Nat} {j x : Int} {C : String} {T : u_T} {ty : Nat → FieldType} {index : Nat} (hd : decode (zBy y) pc = .ok (.putfield index, 3)) (hz : zCl c C T N ty) (hk : zSh k = .inl c) (hs : i < N) (hrf : zRF c i = false)
    (hl : Cond.fieldLink (zNm y).cls index (T i).1 (T i).2.1 (T i).2.2.1 ∈ lw_tbl) (hf : (T i).2.2.2 = false) (hn : narrow (ty i) (.int (Int32.ofInt x)) = .int (Int32.ofInt x) ∧ fits (ty i) (.int (Int32.ofInt x)) = true)
    (kk : VP y (pc + 3) ls st n ac av (zup hi k j (i : Int) x) hr Q) : VP y pc ls (.inl x :: .inr (some (k, j)) :: st) n ac av hi hr Q := by
  intro p l e s m args below meth c' H locs cells slots D cy B lsr C' L S G
  obtain ⟨hx, S1⟩ := List.forall_mem_cons.mp S
  obtain ⟨h1, S2⟩ := List.forall_mem_cons.mp S1
  obtain ⟨z1, z2, z3, z4, z5, z6, z7, z8⟩ := hz
  obtain ⟨g1, g2, g3, g4, g5, g6, g7, g8⟩ := G
  have he := zW_at (B := B) (cy := cy) (hi := hi) (hr := hr) h1
  rw [zE_o hk] at he
  refine va_put (C := C) (T := T) (N := N) (ci := c) (v := .int (Int32.ofInt x)) C'.1 C'.2.1 C'.2.2.2.2.2.1 z3 ty z4 z5 C'.2.2.2.2.1 C'.2.2.2.2.2.2.2.2 g4 zW_D g6 _ he z1 i hs (C'.2.2.2.2.2.1 _ hl) (fun _ h => h) hf (z4 i hs) hn.1 hn.2 (by rw [zFs_len, z2]; exact hs) hd (fun H1 locs1 hP _ hS => ?_)
  rw [show zA B (k, j) = B + zOff k j from rfl, zW_set (hi' := zup hi k j (i : Int) x) (hr' := hr) g2 h1.1 h1.2 ?_ (fun q' hq' => zE_up hq')] at hP
  · exact kk p l e s m args below meth c' H1 locs1 cells slots D cy B lsr C' L S2 ⟨zokH_up g1 hx, g2, g3, hP, g5, hS, g7, g8⟩
  · rw [zE_o hk, zFs_set (hi' := zup hi k j (i : Int) x) (hr' := hr) (by rw [z2]; exact hs)]
    · rw [hrf]; simp [zup]
    · intro s' hs'
      refine ⟨?_, rfl⟩
      simp [zup]
      omega
theorem z_refty {t : FieldType} (h : (∃ C, t = .object C) ∨ ∃ u, t = .array u) (B : Nat) (o : Option (Nat × Int)) : narrow t (zv B (.inr o)) = zv B (.inr o) ∧ fits t (zv B (.inr o)) = true := by
  rcases h with ⟨C, rfl⟩ | ⟨u, rfl⟩ <;> cases o <;> exact ⟨rfl, rfl⟩
theorem VP.putR {k c N i : Nat} {j : Int} {o : Option (Nat × Int)} {C : String} {T : u_T} {ty : Nat → FieldType} {index : Nat} (hd : decode (zBy y) pc = .ok (.putfield index, 3)) (hz : zCl c C T N ty) (hk : zSh k = .inl c) (hs : i < N) (hrf : zRF c i = true)
    (hl : Cond.fieldLink (zNm y).cls index (T i).1 (T i).2.1 (T i).2.2.1 ∈ lw_tbl) (hf : (T i).2.2.2 = false ∨ ((T i).2.2.2 = true ∧ (zNm y).name = "<init>" ∧ (T i).1 = (zNm y).cls)) (hn : (∃ C, ty i = .object C) ∨ ∃ u, ty i = .array u)
    (kk : VP y (pc + 3) ls st n ac av hi (zupR hr k j (i : Int) o) Q) : VP y pc ls (.inr o :: .inr (some (k, j)) :: st) n ac av hi hr Q := by
  intro p l e s m args below meth c' H locs cells slots D cy B lsr C' L S G
  obtain ⟨hx, S1⟩ := List.forall_mem_cons.mp S
  obtain ⟨h1, S2⟩ := List.forall_mem_cons.mp S1
  obtain ⟨z1, z2, z3, z4, z5, z6, z7, z8⟩ := hz
  obtain ⟨g1, g2, g3, g4, g5, g6, g7, g8⟩ := G
  have he := zW_at (B := B) (cy := cy) (hi := hi) (hr := hr) h1
  rw [zE_o hk] at he
  have hn2 := z_refty hn B o
  have fin : ∀ (H1 : Heap) (locs1 : List Loc), va_P D vwCl ((zW B cy n hi hr).set (zOff k j) (zA B (k, j), .inr (c, (zFs B hi hr (k, j) c).set i (zv B (.inr o))))) H1 → va_S (fun q => B ≤ q) s.heap H1 locs1 → W p l e (zRm y) s m args below meth c' H1 locs1 cells slots (MQ below (zQc B cy D (zMc y) Q) args s (zMc y) (zMs y) (fun q => B ≤ q)) (F0 m (pc + 3) lsr (st.map (zv B))) := by
    intro H1 locs1 hP hS
    rw [show zA B (k, j) = B + zOff k j from rfl, zW_set (hi' := hi) (hr' := zupR hr k j (i : Int) o) g2 h1.1 h1.2 ?_ (fun q' hq' => zE_upR hq')] at hP
    · exact kk p l e s m args below meth c' H1 locs1 cells slots D cy B lsr C' L S2 ⟨zokH_upR g1 hx, g2, g3, hP, g5, hS, g7, g8⟩
    · rw [zE_o hk, zFs_set (hi' := hi) (hr' := zupR hr k j (i : Int) o) (by rw [z2]; exact hs)]
      · rw [hrf]; simp [zupR, zf_rf]
      · intro s' hs'
        refine ⟨rfl, ?_⟩
        simp [zupR]
        omega
  rcases hf with hf | ⟨hf, hf2, hf3⟩
  · exact va_put (C := C) (T := T) (N := N) (ci := c) (v := zv B (.inr o)) C'.1 C'.2.1 C'.2.2.2.2.2.1 z3 ty z4 z5 C'.2.2.2.2.1 C'.2.2.2.2.2.2.2.2 g4 zW_D g6 _ he z1 i hs (C'.2.2.2.2.2.1 _ hl) (fun _ h => h) hf (z4 i hs) hn2.1 hn2.2 (by rw [zFs_len, z2]; exact hs) hd (fun H1 locs1 hP _ hS => fin H1 locs1 hP hS)
  · exact va_putF (C := C) (T := T) (N := N) (ci := c) (v := zv B (.inr o)) C'.1 C'.2.1 C'.2.2.2.2.2.1 z3 ty z4 z5 C'.2.2.2.2.1 C'.2.2.2.2.2.2.2.2 g4 zW_D g6 _ he z1 i hs (C'.2.2.2.2.2.1 _ hl) (fun _ h => h) hf (by rw [C'.2.2.2.2.2.2.2.1]; exact hf2) hf3 (z4 i hs) hn2.1 hn2.2 (by rw [zFs_len, z2]; exact hs) hd (fun H1 locs1 hP _ hS => fin H1 locs1 hP hS)
theorem zTys_at {cy : Nat → ClassId} {t : Nat} (h : t < 6) : (zTys cy)[t]? = some (cy t, ([.int, .byte, .boolean, .object RX0, .object RX3, .object RX9] : List FieldType).getD t .int) := by
  match t, h with
  | 0, _ => rfl
  | 1, _ => rfl
  | 2, _ => rfl
  | 3, _ => rfl
  | 4, _ => rfl
  | 5, _ => rfl
theorem VP.iaload {k len : Nat} {j x : Int} (hd : decode (zBy y) pc = .ok (.iaload, 1)) (hk : zSh k = .inr (0, len)) (h0 : 0 ≤ x) (hx : x < len) (kk : VP y (pc + 1) ls (.inl (hi k j x) :: st) n ac av hi hr Q) : VP y pc ls (.inl x :: .inr (some (k, j)) :: st) n ac av hi hr Q := by
  intro p l e s m args below meth c' H locs cells slots D cy B lsr C' L S G
  obtain ⟨hi0, S1⟩ := List.forall_mem_cons.mp S
  obtain ⟨h1, S2⟩ := List.forall_mem_cons.mp S1
  have he := zW_at (B := B) (cy := cy) (hi := hi) (hr := hr) h1
  rw [zE_a hk (by decide)] at he
  have K := kk p l e s m args below meth c' H locs cells slots D cy B lsr C' L (zok_cons (v := .inl (hi k j x)) (G.1.1 _ _ _) S2) G
  refine va_iald C'.1 C'.2.1 C'.2.2.2.2.2.2.2.2 G.2.2.2.1 _ 0 he (zTys_at (by decide)) (z_in hi0 h0 hx) hd ?_
  rw [z_cl hi0 h0]
  exact K
theorem VP.baload {k len t : Nat} {j x : Int} (hd : decode (zBy y) pc = .ok (.baload, 1)) (hk : zSh k = .inr (t, len)) (ht : t = 1 ∨ t = 2) (h0 : 0 ≤ x) (hx : x < len) (kk : VP y (pc + 1) ls (.inl (hi k j x) :: st) n ac av hi hr Q) : VP y pc ls (.inl x :: .inr (some (k, j)) :: st) n ac av hi hr Q := by
  intro p l e s m args below meth c' H locs cells slots D cy B lsr C' L S G
  obtain ⟨hi0, S1⟩ := List.forall_mem_cons.mp S
  obtain ⟨h1, S2⟩ := List.forall_mem_cons.mp S1
  have he := zW_at (B := B) (cy := cy) (hi := hi) (hr := hr) h1
  rw [zE_a hk (by omega)] at he
  have K := kk p l e s m args below meth c' H locs cells slots D cy B lsr C' L (zok_cons (v := .inl (hi k j x)) (G.1.1 _ _ _) S2) G
  rcases ht with rfl | rfl
  · refine va_bald C'.1 C'.2.1 C'.2.2.2.2.2.2.2.2 G.2.2.2.1 _ 1 he (zTys_at (by decide)) (z_in hi0 h0 hx) hd ?_
    rw [z_cl hi0 h0]
    exact K
  · refine va_zald C'.1 C'.2.1 C'.2.2.2.2.2.2.2.2 G.2.2.2.1 _ 2 he (zTys_at (by decide)) (z_in hi0 h0 hx) hd ?_
    rw [z_cl hi0 h0]
    exact K
theorem VP.aaload {k len t : Nat} {j x : Int} (hd : decode (zBy y) pc = .ok (.aaload, 1)) (hk : zSh k = .inr (t, len)) (ht : t = 3 ∨ t = 4 ∨ t = 5) (h0 : 0 ≤ x) (hx : x < len) {o : Option (Nat × Int)} (ho : hr k j x = o) (kk : VP y (pc + 1) ls (.inr o :: st) n ac av hi hr Q) : VP y pc ls (.inl x :: .inr (some (k, j)) :: st) n ac av hi hr Q := by
  intro p l e s m args below meth c' H locs cells slots D cy B lsr C' L S G
  obtain ⟨hi0, S1⟩ := List.forall_mem_cons.mp S
  obtain ⟨h1, S2⟩ := List.forall_mem_cons.mp S1
  have he := zW_at (B := B) (cy := cy) (hi := hi) (hr := hr) h1
  rw [zE_q hk (by omega)] at he
  have K := kk p l e s m args below meth c' H locs cells slots D cy B lsr C' L (zok_cons (v := .inr o) (by rw [← ho]; exact zokH_r G.1 _ _ _) S2) G
  rcases ht with rfl | rfl | rfl
  · refine va_aldq C'.1 C'.2.1 C'.2.2.2.2.2.2.2.2 G.2.2.2.1 _ 3 he (zTys_at (by decide)) (z_in hi0 h0 hx) hd ?_
    rw [z_cl hi0 h0, zf_rf, ho]
    exact K
  · refine va_aldq C'.1 C'.2.1 C'.2.2.2.2.2.2.2.2 G.2.2.2.1 _ 4 he (zTys_at (by decide)) (z_in hi0 h0 hx) hd ?_
    rw [z_cl hi0 h0, zf_rf, ho]
    exact K
  · refine va_aldq C'.1 C'.2.1 C'.2.2.2.2.2.2.2.2 G.2.2.2.1 _ 5 he (zTys_at (by decide)) (z_in hi0 h0 hx) hd ?_
    rw [z_cl hi0 h0, zf_rf, ho]
    exact K
theorem z_updI {hi : zI} {k : Nat} {j x v : Int} (h : zInR x) (h0 : 0 ≤ x) : upd (fun s : Nat => Int32.ofInt (hi k j (s : Int))) (Int32.ofInt x).toNatClampNeg (Int32.ofInt v) = fun s : Nat => Int32.ofInt (zup hi k j x v k j (s : Int)) := by
  funext s
  have e := z_cl h h0
  by_cases hs : s = (Int32.ofInt x).toNatClampNeg
  · subst hs
    simp [upd, zup, e]
  · have h2 : ¬ (s : Int) = x := fun h3 => hs (by omega)
    simp [upd, zup, hs, h2]
theorem VP.iastore {k len : Nat} {j x v : Int} (hd : decode (zBy y) pc = .ok (.iastore, 1)) (hk : zSh k = .inr (0, len)) (h0 : 0 ≤ x) (hx : x < len) (kk : VP y (pc + 1) ls st n ac av (zup hi k j x v) hr Q) : VP y pc ls (.inl v :: .inl x :: .inr (some (k, j)) :: st) n ac av hi hr Q := by
  intro p l e s m args below meth c' H locs cells slots D cy B lsr C' L S G
  obtain ⟨hv, S0⟩ := List.forall_mem_cons.mp S
  obtain ⟨hi0, S1⟩ := List.forall_mem_cons.mp S0
  obtain ⟨h1, S2⟩ := List.forall_mem_cons.mp S1
  obtain ⟨g1, g2, g3, g4, g5, g6, g7, g8⟩ := G
  have he := zW_at (B := B) (cy := cy) (hi := hi) (hr := hr) h1
  rw [zE_a hk (by decide)] at he
  refine va_iast C'.1 C'.2.1 C'.2.2.2.2.2.2.2.2 g4 zW_D g6 _ 0 he (zTys_at (by decide)) (z_in hi0 h0 hx) hd (fun H1 locs1 hP _ hS => ?_)
  rw [show zA B (k, j) = B + zOff k j from rfl, zW_set (hi' := zup hi k j x v) (hr' := hr) g2 h1.1 h1.2 ?_ (fun q' hq' => zE_up hq')] at hP
  · exact kk p l e s m args below meth c' H1 locs1 cells slots D cy B lsr C' L S2 ⟨zokH_up g1 hv, g2, g3, hP, g5, hS, g7, g8⟩
  · rw [zE_a hk (by decide), z_updI hi0 h0]
theorem VP.bastore {k len t : Nat} {j x v : Int} (hd : decode (zBy y) pc = .ok (.bastore, 1)) (hk : zSh k = .inr (t, len)) (ht : (t = 1 ∧ -128 ≤ v ∧ v < 128) ∨ (t = 2 ∧ 0 ≤ v ∧ v < 2)) (h0 : 0 ≤ x) (hx : x < len) (kk : VP y (pc + 1) ls st n ac av (zup hi k j x v) hr Q) : VP y pc ls (.inl v :: .inl x :: .inr (some (k, j)) :: st) n ac av hi hr Q := by
  intro p l e s m args below meth c' H locs cells slots D cy B lsr C' L S G
  obtain ⟨hv, S0⟩ := List.forall_mem_cons.mp S
  obtain ⟨hi0, S1⟩ := List.forall_mem_cons.mp S0
  obtain ⟨h1, S2⟩ := List.forall_mem_cons.mp S1
  obtain ⟨g1, g2, g3, g4, g5, g6, g7, g8⟩ := G
  have he := zW_at (B := B) (cy := cy) (hi := hi) (hr := hr) h1
  rw [zE_a hk (by omega)] at he
  rcases ht with ⟨rfl, hv1, hv2⟩ | ⟨rfl, hv1, hv2⟩
  · refine va_bast C'.1 C'.2.1 C'.2.2.2.2.2.2.2.2 g4 zW_D g6 _ 1 he (zTys_at (by decide)) (z_in hi0 h0 hx) hd (fun H1 locs1 hP _ hS => ?_)
    have hb : vp_nar .byte (Int32.ofInt v) = Int32.ofInt v := by
      rw [vp_nar_byte]
      apply Int32.toInt_inj.1
      rw [Int8.toInt_toInt32, Int32.toInt_toInt8, z_ofI hv, Int.bmod_eq_of_le (by omega) (by omega)]
    rw [hb] at hP
    rw [show zA B (k, j) = B + zOff k j from rfl, zW_set (hi' := zup hi k j x v) (hr' := hr) g2 h1.1 h1.2 ?_ (fun q' hq' => zE_up hq')] at hP
    · exact kk p l e s m args below meth c' H1 locs1 cells slots D cy B lsr C' L S2 ⟨zokH_up g1 hv, g2, g3, hP, g5, hS, g7, g8⟩
    · rw [zE_a hk (by decide), z_updI hi0 h0]
  · refine va_zast C'.1 C'.2.1 C'.2.2.2.2.2.2.2.2 g4 zW_D g6 _ 2 he (zTys_at (by decide)) (z_in hi0 h0 hx) hd (fun H1 locs1 hP _ hS => ?_)
    have hb : vp_nar .boolean (Int32.ofInt v) = Int32.ofInt v := by
      rcases (show v = 0 ∨ v = 1 by omega) with rfl | rfl <;> decide +kernel
    rw [hb] at hP
    rw [show zA B (k, j) = B + zOff k j from rfl, zW_set (hi' := zup hi k j x v) (hr' := hr) g2 h1.1 h1.2 ?_ (fun q' hq' => zE_up hq')] at hP
    · exact kk p l e s m args below meth c' H1 locs1 cells slots D cy B lsr C' L S2 ⟨zokH_up g1 hv, g2, g3, hP, g5, hS, g7, g8⟩
    · rw [zE_a hk (by decide), z_updI hi0 h0]
theorem VP.alen {k len t : Nat} {j : Int} (hd : decode (zBy y) pc = .ok (.arraylength, 1)) (hk : zSh k = .inr (t, len)) (ht : t < 6) (hn : len < 2147483648) (kk : VP y (pc + 1) ls (.inl (len : Int) :: st) n ac av hi hr Q) : VP y pc ls (.inr (some (k, j)) :: st) n ac av hi hr Q := by
  intro p l e s m args below meth c' H locs cells slots D cy B lsr C' L S G
  obtain ⟨h1, S2⟩ := List.forall_mem_cons.mp S
  have he := zW_at (B := B) (cy := cy) (hi := hi) (hr := hr) h1
  have K := kk p l e s m args below meth c' H locs cells slots D cy B lsr C' L (zok_cons (v := .inl (len : Int)) ⟨by omega, by omega⟩ S2) G
  by_cases h3 : t < 3
  · rw [zE_a hk h3] at he
    exact va_alen (v := Int32.ofInt (len : Int)) C'.1 C'.2.1 C'.2.2.2.2.2.2.2.2 G.2.2.2.1 _ t he (zTys_at ht) (by rfl) hd K
  · rw [zE_q hk h3] at he
    exact va_alen (v := Int32.ofInt (len : Int)) C'.1 C'.2.1 C'.2.2.2.2.2.2.2.2 G.2.2.2.1 _ t he (zTys_at ht) (by rfl) hd K
theorem VP.aastore {k len t k2 c : Nat} {j x j2 : Int} {C : String} {T : u_T} {N : Nat} {ty : Nat → FieldType} (hd : decode (zBy y) pc = .ok (.aastore, 1)) (hk : zSh k = .inr (t, len)) (hk2 : zSh k2 = .inl c) (hz : zCl c C T N ty) (ht : (t = 3 ∧ C = RX0) ∨ (t = 4 ∧ C = RX3) ∨ (t = 5 ∧ C = RX9)) (h0 : 0 ≤ x) (hx : x < len) (kk : VP y (pc + 1) ls st n ac av hi (zupR hr k j x (some (k2, j2))) Q) : VP y pc ls (.inr (some (k2, j2)) :: .inl x :: .inr (some (k, j)) :: st) n ac av hi hr Q := by
  intro p l e s m args below meth c' H locs cells slots D cy B lsr C' L S G
  obtain ⟨hv, S0⟩ := List.forall_mem_cons.mp S
  obtain ⟨hi0, S1⟩ := List.forall_mem_cons.mp S0
  obtain ⟨h1, S2⟩ := List.forall_mem_cons.mp S1
  obtain ⟨g1, g2, g3, g4, g5, g6, g7, g8⟩ := G
  obtain ⟨z1, z2, z3, z4, z5, z6, z7, z8⟩ := hz
  have he := zW_at (B := B) (cy := cy) (hi := hi) (hr := hr) h1
  rw [zE_q hk (by omega)] at he
  have he2 := zW_at (B := B) (cy := cy) (hi := hi) (hr := hr) hv
  rw [zE_o hk2] at he2
  have htt : (zTys cy)[t]? = some (cy t, .object C) := by
    rcases ht with ⟨rfl, rfl⟩ | ⟨rfl, rfl⟩ | ⟨rfl, rfl⟩ <;> rfl
  refine va_astq (r := (C, T, N)) C'.1 C'.2.1 C'.2.2.2.2.2.2.2.2 g4 zW_D g6 _ t _ c he htt he2 z1 (z_in hi0 h0 hx) hd (fun H1 locs1 hP _ hS => ?_)
  rw [show zA B (k, j) = B + zOff k j from rfl, zW_set (hi' := hi) (hr' := zupR hr k j x (some (k2, j2))) g2 h1.1 h1.2 ?_ (fun q' hq' => zE_upR hq')] at hP
  · exact kk p l e s m args below meth c' H1 locs1 cells slots D cy B lsr C' L S2 ⟨zokH_upR g1 hv, g2, g3, hP, g5, hS, g7, g8⟩
  · rw [zE_q hk (by omega)]
    have e := z_cl hi0 h0
    have e2 : va_up (fun s : Nat => zf B (hr k j (s : Int))) (Int32.ofInt x).toNatClampNeg (some (zA B (k2, j2))) = fun s : Nat => zf B (zupR hr k j x (some (k2, j2)) k j (s : Int)) := by
      funext s
      by_cases hs : s = (Int32.ofInt x).toNatClampNeg
      · subst hs
        simp [va_up, zupR, e, zf]
      · have h2 : ¬ (s : Int) = x := fun h3 => hs (by omega)
        simp [va_up, zupR, hs, h2]
    rw [e2]
end ZR
end
section
theorem zSized {p : Program} {l : Launch} {e : Env} {R : Room} {s : State} {m : MethodId} {args : Array Value} {below : List Frame} {meth : Method} {c : Code} {H : Heap} {locs : List Loc} {cells slots : Nat} {Qf : State → Prop} {g : JFrame}
    (k : H.size ≤ s.heap.size + cells → W p l e R s m args below meth c H locs cells slots Qf g) : W p l e R s m args below meth c H locs cells slots Qf g := fun T hT X => k (hT ▸ X.heapSize) T hT X
theorem zSize {B : Nat} {cy : Nat → ClassId} {n : Nat} {hi : zI} {hr : zR} {D : va_G} {s : State} {H : Heap} {cells : Nat} {locs : List Loc} (g3 : B + n = s.heap.size + cells) (g4 : va_P D vwCl (zW B cy n hi hr) H) (g5 : B ≤ s.heap.size) (g6 : va_S (fun q => B ≤ q) s.heap H locs) (h : H.size ≤ s.heap.size + cells) : H.size = B + n := by
  have h2 := g6.1
  cases n with
  | zero => omega
  | succ n =>
    have h1 := (g4 n _ (zW_get (Nat.lt_succ_self n))).lt
    simp only at h1
    omega
theorem zW_push {B : Nat} {cy : Nat → ClassId} {n : Nat} {hi hi' : zI} {hr hr' : zR} (hn : n < zTOT) {q : Nat × Int} (hq : zAL n = q) (ho : ∀ q', q' ≠ q → zE B cy hi' hr' q' = zE B cy hi hr q') : zW B cy (n + 1) hi' hr' = zW B cy n hi hr ++ [(B + n, zE B cy hi' hr' q)] := by
  unfold zW
  rw [List.range_succ, List.map_append]
  congr 1
  · apply List.map_congr_left
    intro i hi0
    rw [List.mem_range] at hi0
    rw [ho]
    intro e
    have h1 := zTab i (by omega)
    have h2 := zTab n hn
    rw [e] at h1
    rw [hq] at h2
    omega
  · simp [hq]
/-- a new cell's address is the next one -/
theorem zFresh {B : Nat} {cy : Nat → ClassId} {n : Nat} {hi : zI} {hr : zR} {D : va_G} {H1 : Heap} {a : Nat} {x : va_E} (hP : va_P D vwCl (zW B cy n hi hr ++ [(a, x)]) H1) (hD : va_D (fun q => B ≤ q) (zW B cy n hi hr ++ [(a, x)])) (hs : H1.size ≤ B + n + 1) : a = B + n := by
  have hl : (zW B cy n hi hr).length = n := by simp [zW]
  have hlast : (zW B cy n hi hr ++ [(a, x)])[n]? = some (a, x) := by
    rw [List.getElem?_append_right (by omega), hl]; simp
  have h1 := (hP n _ hlast).lt
  have h2 := hD.2 n _ hlast
  simp only at h1 h2
  by_cases h : a < B + n
  · exfalso
    have h3 : a - B < n := by omega
    have h4 : (zW B cy n hi hr ++ [(a, x)])[a - B]? = some (B + (a - B), zE B cy hi hr (zAL (a - B))) := by
      rw [List.getElem?_append_left (by omega), zW_get h3]
    have h5 := hD.1 _ _ _ _ h4 hlast (by show B + (a - B) = a; omega)
    omega
  · omega
section ZR
variable {y : zM} {pc : Nat} {ls : List (Option zV)} {st : List zV} {n ac av : Nat} {hi : zI} {hr : zR} {Q : zQ}
theorem zclr_self (hi : zI) (k : Nat) (j s : Int) : zclr hi k j k j s = 0 := by simp [zclr]
theorem zclrR_self (hr : zR) (k : Nat) (j s : Int) : zclrR hr k j k j s = none := by simp [zclrR]
theorem VP.new {k c N : Nat} {j : Int} {C : String} {T : u_T} {ty : Nat → FieldType} {index : Nat} (hd : decode (zBy y) pc = .ok (.new index, 3)) (hz : zCl c C T N ty) (hl : Cond.classLink (zNm y).cls index C ∈ lw_tbl) (hn : n < zTOT) (hq : zAL n = (k, j)) (hk : zSh k = .inl c) (hac : 1 ≤ ac) (hav : N ≤ av)
    (kk : VP y (pc + 3) ls (.inr (some (k, j)) :: st) (n + 1) (ac - 1) (av - N) (zclr hi k j) (zclrR hr k j) Q) : VP y pc ls st n ac av hi hr Q := by
  intro p l e s m args below meth c' H locs cells slots D cy B lsr C' L S G
  obtain ⟨z1, z2, z3, z4, z5, z6, z7, z8⟩ := hz
  obtain ⟨g1, g2, g3, g4, g5, g6, g7, g8⟩ := G
  refine va_new (C := C) (T := T) (N := N) (ci := c) (fs := zFs B (zclr hi k j) (zclrR hr k j) (k, j) c) C'.1 C'.2.1 C'.2.2.2.2.2.1 z3 ty z4 C'.2.2.2.2.1 (C'.2.2.2.2.2.1 _ hl) (C'.2.2.2.2.2.1 _ z7) (C'.2.2.2.2.2.1 _ z8) C'.2.2.2.2.2.2.2.2 g4 zW_D g6 (fun q h => Nat.le_trans g5 h) z1 ?_ ?_ ?_ hd (fun a H1 hP hD hS => ?_)
  · intro i hi0
    rw [z6 i hi0]
    simp only [vp_V, List.getD_eq_getElem?_getD]
    rw [zFs_get (by rw [z2]; exact hi0)]
    show _ = (if zRF c i = true then va_rf (zf B (zclrR hr k j k j (i : Int))) else Value.int (Int32.ofInt (zclr hi k j k j (i : Int))))
    rw [zclr_self, zclrR_self]
    rfl
  · show cells + 1 ≤ zMc y
    omega
  · show slots + N ≤ zMs y
    omega
  · refine zSized (fun hs => ?_)
    have ha := zFresh hP hD (by omega)
    subst ha
    rw [← zE_o (cy := cy) hk, ← zW_push hn hq (fun q' h => zE_clr h)] at hP
    have hv : zval (n + 1) (k, j) := by
      have h1 := zTab n hn
      rw [hq] at h1
      exact ⟨by show zOff k j < n + 1; simp only at h1; omega, by show zAL (zOff k j) = _; simp only at h1; rw [h1, hq]⟩
    have ea : zA B (k, j) = B + n := by
      have h1 := zTab n hn
      rw [hq] at h1
      simp only at h1
      show B + zOff k j = _
      rw [h1]
    have K := kk p l e s m args below meth c' H1 locs (cells + 1) (slots + N) D cy B lsr C' (L.mono (Nat.le_succ n)) (zok_cons (v := .inr (some (k, j))) hv (fun v h => zok_mono (Nat.le_succ n) (S v h))) ⟨zokH_clr g1, hn, by omega, hP, g5, hS, by omega, by omega⟩
    have K2 : W p l e (zRm y) s m args below meth c' H1 locs (cells + 1) (slots + N) _ (F0 m (pc + 3) lsr (.ref (zA B (k, j)) :: st.map (zv B))) := K
    rw [ea] at K2
    exact K2
theorem VP.newarr {k len t : Nat} {j : Int} {atype : ArrayType} (hd : decode (zBy y) pc = .ok (.newarray atype, 2)) (hl : Cond.arrayClass (newarray.typeOf atype) ∈ lw_tbl) (ht : (t = 0 ∧ newarray.typeOf atype = .int) ∨ (t = 1 ∧ newarray.typeOf atype = .byte) ∨ (t = 2 ∧ newarray.typeOf atype = .boolean)) (hn : n < zTOT) (hq : zAL n = (k, j)) (hk : zSh k = .inr (t, len)) (hlen : len < 67108864) (hac : 1 ≤ ac) (hav : len ≤ av)
    (kk : VP y (pc + 2) ls (.inr (some (k, j)) :: st) (n + 1) (ac - 1) (av - len) (zclr hi k j) (zclrR hr k j) Q) : VP y pc ls (.inl (len : Int) :: st) n ac av hi hr Q := by
  intro p l e s m args below meth c' H locs cells slots D cy B lsr C' L S G
  obtain ⟨g1, g2, g3, g4, g5, g6, g7, g8⟩ := G
  obtain ⟨h0, S2⟩ := List.forall_mem_cons.mp S
  have ht6 : t < 3 := by rcases ht with ⟨rfl, _⟩ | ⟨rfl, _⟩ | ⟨rfl, _⟩ <;> decide
  have hx : zInR (len : Int) := ⟨by omega, by omega⟩
  refine va_newa (ty := newarray.typeOf atype) (N' := len) (a0 := (len, .inl (fun s : Nat => Int32.ofInt (zclr hi k j k j (s : Int))))) C'.1 C'.2.1 (C'.2.2.2.2.2.1 _ hl) rfl C'.2.2.2.2.2.2.2.2 g4 zW_D g6 (fun q h => Nat.le_trans g5 h) ?_ ?_ ?_ ?_ ?_ ?_ hd (fun a cA H1 hK hP hD hS => ?_)
  · intro cA
    rw [vp_cell_i]
    congr 1
    funext s
    rw [zclr_self]
    rcases ht with ⟨_, h⟩ | ⟨_, h⟩ | ⟨_, h⟩ <;> rw [h] <;> rfl
  · rw [z_0, z_lt hx (by decide)]; omega
  · have := z_cl hx (by omega)
    omega
  · rcases ht with ⟨_, h⟩ | ⟨_, h⟩ | ⟨_, h⟩ <;> rw [h] <;> show len * _ ≤ _ <;> simp [componentBytes] <;> omega
  · show cells + 1 ≤ zMc y
    omega
  · show slots + len ≤ zMs y
    omega
  · refine zSized (fun hs => ?_)
    have ha := zFresh hP hD (by omega)
    subst ha
    have hc : cA = cy t := by
      have h1 := (hK.2 (zTys cy).length (cA, newarray.typeOf atype) (by rw [List.getElem?_append_right (Nat.le_refl _)]; simp)).2
      have h2 := (C'.2.2.2.2.2.2.2.2.2 t _ (zTys_at (show t < 6 by omega))).2
      rcases ht with ⟨rfl, h⟩ | ⟨rfl, h⟩ | ⟨rfl, h⟩ <;> rw [h] at h1 <;> exact Option.some.inj (h1.symm.trans h2)
    subst hc
    rw [← zE_a (cy := cy) (hr := zclrR hr k j) hk ht6, ← zW_push hn hq (fun q' h => zE_clr h)] at hP
    have h1 := zTab n hn
    rw [hq] at h1
    simp only at h1
    have hv : zval (n + 1) (k, j) := ⟨by show zOff k j < n + 1; omega, by show zAL (zOff k j) = _; rw [h1, hq]⟩
    have ea : zA B (k, j) = B + n := by
      show B + zOff k j = _
      rw [h1]
    have K := kk p l e s m args below meth c' H1 locs (cells + 1) (slots + len) D cy B lsr C' (L.mono (Nat.le_succ n)) (zok_cons (v := .inr (some (k, j))) hv (fun v h => zok_mono (Nat.le_succ n) (S2 v h))) ⟨zokH_clr g1, hn, by omega, hP, g5, hS, by omega, by omega⟩
    have K2 : W p l e (zRm y) s m args below meth c' H1 locs (cells + 1) (slots + len) _ (F0 m (pc + 2) lsr (.ref (zA B (k, j)) :: st.map (zv B))) := K
    rw [ea] at K2
    exact K2
theorem VP.anewarr {k len t : Nat} {j : Int} {index : Nat} {C : String} (hd : decode (zBy y) pc = .ok (.anewarray index, 3)) (hcl : Cond.classLink (zNm y).cls index C ∈ lw_tbl) (hl : Cond.arrayOver (.object C) ∈ lw_tbl) (ht : (t = 3 ∧ C = RX0) ∨ (t = 4 ∧ C = RX3) ∨ (t = 5 ∧ C = RX9)) (hn : n < zTOT) (hq : zAL n = (k, j)) (hk : zSh k = .inr (t, len)) (hlen : len < 67108864) (hac : 1 ≤ ac) (hav : len ≤ av)
    (kk : VP y (pc + 3) ls (.inr (some (k, j)) :: st) (n + 1) (ac - 1) (av - len) (zclr hi k j) (zclrR hr k j) Q) : VP y pc ls (.inl (len : Int) :: st) n ac av hi hr Q := by
  intro p l e s m args below meth c' H locs cells slots D cy B lsr C' L S G
  obtain ⟨g1, g2, g3, g4, g5, g6, g7, g8⟩ := G
  obtain ⟨h0, S2⟩ := List.forall_mem_cons.mp S
  have ht6 : ¬ t < 3 := by rcases ht with ⟨rfl, _⟩ | ⟨rfl, _⟩ | ⟨rfl, _⟩ <;> decide
  have hx : zInR (len : Int) := ⟨by omega, by omega⟩
  have hlr : va_AO C s := by
    have h9 := C'.2.2.2.2.2.1 _ hl
    exact h9
  refine va_newq (N' := len) C'.1 C'.2.1 C'.2.2.2.2.1 (C'.2.2.2.2.2.1 _ hcl) hlr C'.2.2.2.2.2.2.2.2 g4 zW_D g6 (fun q h => Nat.le_trans g5 h) ?_ ?_ (by omega) ?_ ?_ hd (fun a cA H1 hK hP hD hS => ?_)
  · rw [z_0, z_lt hx (by decide)]; omega
  · have := z_cl hx (by omega)
    omega
  · show cells + 1 ≤ zMc y
    omega
  · show slots + len ≤ zMs y
    omega
  · refine zSized (fun hs => ?_)
    have ha := zFresh hP hD (by omega)
    subst ha
    have hc : cA = cy t := by
      have h1 := (hK.2 (zTys cy).length (cA, .object C) (by rw [List.getElem?_append_right (Nat.le_refl _)]; simp)).2
      have h2 := (C'.2.2.2.2.2.2.2.2.2 t (cy t, .object C) (by rcases ht with ⟨rfl, rfl⟩ | ⟨rfl, rfl⟩ | ⟨rfl, rfl⟩ <;> rfl)).2
      obtain ⟨_, _, _, _, _, h3⟩ := h1
      obtain ⟨_, _, _, _, _, h4⟩ := h2
      exact Option.some.inj (h3.symm.trans h4)
    subst hc
    have e2 : (fun _ : Nat => (none : Option Nat)) = fun s : Nat => zf B (zclrR hr k j k j (s : Int)) := by
      funext s
      rw [zclrR_self]; rfl
    rw [e2, ← zE_q (cy := cy) (hi := zclr hi k j) hk ht6, ← zW_push hn hq (fun q' h => zE_clr h)] at hP
    have h1 := zTab n hn
    rw [hq] at h1
    simp only at h1
    have hv : zval (n + 1) (k, j) := ⟨by show zOff k j < n + 1; omega, by show zAL (zOff k j) = _; rw [h1, hq]⟩
    have ea : zA B (k, j) = B + n := by
      show B + zOff k j = _
      rw [h1]
    have K := kk p l e s m args below meth c' H1 locs (cells + 1) (slots + len) D cy B lsr C' (L.mono (Nat.le_succ n)) (zok_cons (v := .inr (some (k, j))) hv (fun v h => zok_mono (Nat.le_succ n) (S2 v h))) ⟨zokH_clr g1, hn, by omega, hP, g5, hS, by omega, by omega⟩
    have K2 : W p l e (zRm y) s m args below meth c' H1 locs (cells + 1) (slots + len) _ (F0 m (pc + 3) lsr (.ref (zA B (k, j)) :: st.map (zv B))) := K
    rw [ea] at K2
    exact K2
theorem zRet {Q : zQ} {D : va_G} {cy : Nat → ClassId} {B : Nat} {s t : State} {args : Array Value} {H : Heap} {locs : List Loc} {cells slots : Nat} (G : zG y n 0 av hi hr s H locs cells slots D cy B) (ht : t.heap = H) {r : Option zV} (hq : Q r n hi hr) (hr' : ∀ v, r = some v → zok n v) : zQc B cy D (zMc y) Q args s (.returned (r.map (zv B))) t := by
  obtain ⟨g1, g2, g3, g4, g5, g6, g7, g8⟩ := G
  refine ⟨⟨r, n, hi, hr, rfl, hq, hr', g1, g2, by omega, by rw [ht]; exact g4⟩, ?_⟩
  rw [va_F, ht]
  exact ⟨g6.1, g6.2.1⟩
theorem VP.vret (hd : decode (zBy y) pc = .ok (.return_, 1)) (hr0 : zRt y = none) (hq : Q none n hi hr) : VP y pc ls [] n 0 av hi hr Q := by
  intro p l e s m args below meth c' H locs cells slots D cy B lsr C' L S G
  refine W.widen (k := zMc y) (n := zMs y) (by have := G.2.2.2.2.2.2.1; omega) (by have := G.2.2.2.2.2.2.2; omega) ?_
  exact W.vret C'.1 C'.2.1 (C'.2.2.1.trans hr0) (fun t ht hW => zRet G ht hq (fun v h => by cases h)) G.2.2.2.2.2.1.2.2 hd C'.2.2.2.2.2.2.1
theorem VP.iret {x : Int} {t0 : FieldType} (hd : decode (zBy y) pc = .ok (.ireturn, 1)) (hr0 : zRt y = some t0) (hn : narrow t0 (.int (Int32.ofInt x)) = .int (Int32.ofInt x)) (hq : Q (some (.inl x)) n hi hr) : VP y pc ls [.inl x] n 0 av hi hr Q := by
  intro p l e s m args below meth c' H locs cells slots D cy B lsr C' L S G
  refine W.widen (k := zMc y) (n := zMs y) (by have := G.2.2.2.2.2.2.1; omega) (by have := G.2.2.2.2.2.2.2; omega) ?_
  exact W.zret C'.1 C'.2.1 (C'.2.2.1.trans hr0) hn (fun t ht hW => zRet G ht hq (fun v h => by cases h; exact S _ List.mem_cons_self)) G.2.2.2.2.2.1.2.2 hd C'.2.2.2.2.2.2.1
theorem VP.aret {o : Option (Nat × Int)} {C : String} (hd : decode (zBy y) pc = .ok (.areturn, 1)) (hr0 : zRt y = some (.object C)) (hq : Q (some (.inr o)) n hi hr) : VP y pc ls [.inr o] n 0 av hi hr Q := by
  intro p l e s m args below meth c' H locs cells slots D cy B lsr C' L S G
  refine W.widen (k := zMc y) (n := zMs y) (by have := G.2.2.2.2.2.2.1; omega) (by have := G.2.2.2.2.2.2.2; omega) ?_
  exact W.aret C'.1 C'.2.1 (C'.2.2.1.trans hr0) (Or.inl ⟨C, rfl⟩) (by cases o with | none => exact Or.inl rfl | some q => exact Or.inr ⟨_, rfl⟩) (fun t ht hW => zRet G ht hq (fun v h => by cases h; exact S _ List.mem_cons_self)) G.2.2.2.2.2.1.2.2 hd C'.2.2.2.2.2.2.1
end ZR
end
