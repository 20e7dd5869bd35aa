section
-- ===== PART A: goes FIRST, ahead of the names: the tables' words, and 'selects' of the private methods out of them =====
/-- a private method of a class that the tables say can be made, by its rows of tables_1 -/
def lw_okq (q : MethodName × Nat) : Prop := (q.1.cls ≠ "java/lang/invoke/MethodHandle" ∧ q.1.cls ≠ "java/lang/invoke/VarHandle") ∧ Cond.instantiable q.1.cls q.2 ∈ tables_1 ∧ Cond.privateMethod q.1 ∈ tables_1 ∧ Cond.instanceMethod q.1 ∈ tables_1
theorem lw_p0 : lw_okq (⟨"FleetYard$YardMap", "addStation", "()V"⟩, 9) := ⟨⟨by decide +kernel, by decide +kernel⟩, List.mem_of_getElem? (i := 319) (by decide +kernel), List.mem_of_getElem? (i := 398) (by decide +kernel), List.mem_of_getElem? (i := 399) (by decide +kernel)⟩
theorem lw_p1 : lw_okq (⟨"FleetYard$YardMap", "addParking", "()V"⟩, 9) := ⟨⟨by decide +kernel, by decide +kernel⟩, List.mem_of_getElem? (i := 319) (by decide +kernel), List.mem_of_getElem? (i := 402) (by decide +kernel), List.mem_of_getElem? (i := 403) (by decide +kernel)⟩
theorem lw_p2 : lw_okq (⟨"FleetYard$YardMap", "cellBeside", "(II)I"⟩, 9) := ⟨⟨by decide +kernel, by decide +kernel⟩, List.mem_of_getElem? (i := 319) (by decide +kernel), List.mem_of_getElem? (i := 410) (by decide +kernel), List.mem_of_getElem? (i := 411) (by decide +kernel)⟩
theorem lw_p3 : lw_okq (⟨"FleetYard", "beginAnew", "()V"⟩, 11) := ⟨⟨by decide +kernel, by decide +kernel⟩, List.mem_of_getElem? (i := 17) (by decide +kernel), List.mem_of_getElem? (i := 422) (by decide +kernel), List.mem_of_getElem? (i := 423) (by decide +kernel)⟩
theorem lw_p4 : lw_okq (⟨"FleetYard$Judge", "faultOfSigns", "(LFleetYard$Tape;LFleetYard$YardMap;)I"⟩, 5) := ⟨⟨by decide +kernel, by decide +kernel⟩, List.mem_of_getElem? (i := 42) (by decide +kernel), List.mem_of_getElem? (i := 527) (by decide +kernel), List.mem_of_getElem? (i := 528) (by decide +kernel)⟩
theorem lw_p5 : lw_okq (⟨"FleetYard$Judge", "takeByte", "(ILFleetYard$YardMap;)I"⟩, 5) := ⟨⟨by decide +kernel, by decide +kernel⟩, List.mem_of_getElem? (i := 42) (by decide +kernel), List.mem_of_getElem? (i := 531) (by decide +kernel), List.mem_of_getElem? (i := 532) (by decide +kernel)⟩
theorem lw_p6 : lw_okq (⟨"FleetYard$Judge", "endLine", "(LFleetYard$YardMap;)I"⟩, 5) := ⟨⟨by decide +kernel, by decide +kernel⟩, List.mem_of_getElem? (i := 42) (by decide +kernel), List.mem_of_getElem? (i := 535) (by decide +kernel), List.mem_of_getElem? (i := 536) (by decide +kernel)⟩
theorem lw_p7 : lw_okq (⟨"FleetYard$Judge", "faultOfWays", "(LFleetYard$YardMap;)I"⟩, 5) := ⟨⟨by decide +kernel, by decide +kernel⟩, List.mem_of_getElem? (i := 42) (by decide +kernel), List.mem_of_getElem? (i := 547) (by decide +kernel), List.mem_of_getElem? (i := 548) (by decide +kernel)⟩
theorem lw_p8 : lw_okq (⟨"FleetYard$Judge", "reachesLaterEndpoints", "(LFleetYard$YardMap;I)Z"⟩, 5) := ⟨⟨by decide +kernel, by decide +kernel⟩, List.mem_of_getElem? (i := 42) (by decide +kernel), List.mem_of_getElem? (i := 555) (by decide +kernel), List.mem_of_getElem? (i := 556) (by decide +kernel)⟩
theorem lw_p9 : lw_okq (⟨"FleetYard$Judge", "flood", "(LFleetYard$YardMap;I)V"⟩, 5) := ⟨⟨by decide +kernel, by decide +kernel⟩, List.mem_of_getElem? (i := 42) (by decide +kernel), List.mem_of_getElem? (i := 559) (by decide +kernel), List.mem_of_getElem? (i := 560) (by decide +kernel)⟩
theorem lw_p10 : lw_okq (⟨"FleetYard$Judge", "visit", "(II)I"⟩, 5) := ⟨⟨by decide +kernel, by decide +kernel⟩, List.mem_of_getElem? (i := 42) (by decide +kernel), List.mem_of_getElem? (i := 564) (by decide +kernel), List.mem_of_getElem? (i := 565) (by decide +kernel)⟩
theorem lw_p11 : lw_okq (⟨"FleetYard", "takeMessages", "()V"⟩, 11) := ⟨⟨by decide +kernel, by decide +kernel⟩, List.mem_of_getElem? (i := 17) (by decide +kernel), List.mem_of_getElem? (i := 605) (by decide +kernel), List.mem_of_getElem? (i := 606) (by decide +kernel)⟩
theorem lw_p12 : lw_okq (⟨"FleetYard", "deliver", "(LFleetYard$Message;)V"⟩, 11) := ⟨⟨by decide +kernel, by decide +kernel⟩, List.mem_of_getElem? (i := 17) (by decide +kernel), List.mem_of_getElem? (i := 613) (by decide +kernel), List.mem_of_getElem? (i := 614) (by decide +kernel)⟩
theorem lw_p13 : lw_okq (⟨"FleetYard", "vehicleAt", "(I)LFleetYard$Vehicle;"⟩, 11) := ⟨⟨by decide +kernel, by decide +kernel⟩, List.mem_of_getElem? (i := 17) (by decide +kernel), List.mem_of_getElem? (i := 617) (by decide +kernel), List.mem_of_getElem? (i := 618) (by decide +kernel)⟩
theorem lw_p14 : lw_okq (⟨"FleetYard", "driveVehicles", "()V"⟩, 11) := ⟨⟨by decide +kernel, by decide +kernel⟩, List.mem_of_getElem? (i := 17) (by decide +kernel), List.mem_of_getElem? (i := 637) (by decide +kernel), List.mem_of_getElem? (i := 638) (by decide +kernel)⟩
theorem lw_p15 : lw_okq (⟨"FleetYard$Radio", "fateOfNext", "()I"⟩, 6) := ⟨⟨by decide +kernel, by decide +kernel⟩, List.mem_of_getElem? (i := 66) (by decide +kernel), List.mem_of_getElem? (i := 653) (by decide +kernel), List.mem_of_getElem? (i := 654) (by decide +kernel)⟩
def lw_privs_1 : List (MethodName × Nat) := [(⟨"FleetYard$YardMap", "addStation", "()V"⟩, 9), (⟨"FleetYard$YardMap", "addParking", "()V"⟩, 9), (⟨"FleetYard$YardMap", "cellBeside", "(II)I"⟩, 9), (⟨"FleetYard", "beginAnew", "()V"⟩, 11), (⟨"FleetYard$Judge", "faultOfSigns", "(LFleetYard$Tape;LFleetYard$YardMap;)I"⟩, 5), (⟨"FleetYard$Judge", "takeByte", "(ILFleetYard$YardMap;)I"⟩, 5), (⟨"FleetYard$Judge", "endLine", "(LFleetYard$YardMap;)I"⟩, 5), (⟨"FleetYard$Judge", "faultOfWays", "(LFleetYard$YardMap;)I"⟩, 5), (⟨"FleetYard$Judge", "reachesLaterEndpoints", "(LFleetYard$YardMap;I)Z"⟩, 5), (⟨"FleetYard$Judge", "flood", "(LFleetYard$YardMap;I)V"⟩, 5), (⟨"FleetYard$Judge", "visit", "(II)I"⟩, 5), (⟨"FleetYard", "takeMessages", "()V"⟩, 11), (⟨"FleetYard", "deliver", "(LFleetYard$Message;)V"⟩, 11), (⟨"FleetYard", "vehicleAt", "(I)LFleetYard$Vehicle;"⟩, 11), (⟨"FleetYard", "driveVehicles", "()V"⟩, 11), (⟨"FleetYard$Radio", "fateOfNext", "()I"⟩, 6)]
theorem lw_r1 : ∀ q ∈ lw_privs_1, lw_okq q := List.forall_mem_cons.mpr ⟨lw_p0, List.forall_mem_cons.mpr ⟨lw_p1, List.forall_mem_cons.mpr ⟨lw_p2, List.forall_mem_cons.mpr ⟨lw_p3, List.forall_mem_cons.mpr ⟨lw_p4, List.forall_mem_cons.mpr ⟨lw_p5, List.forall_mem_cons.mpr ⟨lw_p6, List.forall_mem_cons.mpr ⟨lw_p7, List.forall_mem_cons.mpr ⟨lw_p8, List.forall_mem_cons.mpr ⟨lw_p9, List.forall_mem_cons.mpr ⟨lw_p10, List.forall_mem_cons.mpr ⟨lw_p11, List.forall_mem_cons.mpr ⟨lw_p12, List.forall_mem_cons.mpr ⟨lw_p13, List.forall_mem_cons.mpr ⟨lw_p14, List.forall_mem_cons.mpr ⟨lw_p15, fun _ h => absurd h List.not_mem_nil⟩⟩⟩⟩⟩⟩⟩⟩⟩⟩⟩⟩⟩⟩⟩⟩
theorem lw_p16 : lw_okq (⟨"FleetYard$Base", "leastIdle", "()I"⟩, 5) := ⟨⟨by decide +kernel, by decide +kernel⟩, List.mem_of_getElem? (i := 168) (by decide +kernel), List.mem_of_getElem? (i := 685) (by decide +kernel), List.mem_of_getElem? (i := 686) (by decide +kernel)⟩
theorem lw_p17 : lw_okq (⟨"FleetYard$Base", "givePlan", "(LFleetYard$YardMap;ILFleetYard$TaskBook;II)Z"⟩, 5) := ⟨⟨by decide +kernel, by decide +kernel⟩, List.mem_of_getElem? (i := 168) (by decide +kernel), List.mem_of_getElem? (i := 689) (by decide +kernel), List.mem_of_getElem? (i := 690) (by decide +kernel)⟩
theorem lw_p18 : lw_okq (⟨"FleetYard$Planner", "markGround", "()V"⟩, 14) := ⟨⟨by decide +kernel, by decide +kernel⟩, List.mem_of_getElem? (i := 176) (by decide +kernel), List.mem_of_getElem? (i := 701) (by decide +kernel), List.mem_of_getElem? (i := 702) (by decide +kernel)⟩
theorem lw_p19 : lw_okq (⟨"FleetYard$Planner", "mark", "([III)V"⟩, 14) := ⟨⟨by decide +kernel, by decide +kernel⟩, List.mem_of_getElem? (i := 176) (by decide +kernel), List.mem_of_getElem? (i := 707) (by decide +kernel), List.mem_of_getElem? (i := 708) (by decide +kernel)⟩
theorem lw_p20 : lw_okq (⟨"FleetYard$Planner", "spread", "()I"⟩, 14) := ⟨⟨by decide +kernel, by decide +kernel⟩, List.mem_of_getElem? (i := 176) (by decide +kernel), List.mem_of_getElem? (i := 714) (by decide +kernel), List.mem_of_getElem? (i := 715) (by decide +kernel)⟩
theorem lw_p21 : lw_okq (⟨"FleetYard$Planner", "clearLayer", "(I)V"⟩, 14) := ⟨⟨by decide +kernel, by decide +kernel⟩, List.mem_of_getElem? (i := 176) (by decide +kernel), List.mem_of_getElem? (i := 718) (by decide +kernel), List.mem_of_getElem? (i := 719) (by decide +kernel)⟩
theorem lw_p22 : lw_okq (⟨"FleetYard$Planner", "markHeld", "(I)V"⟩, 14) := ⟨⟨by decide +kernel, by decide +kernel⟩, List.mem_of_getElem? (i := 176) (by decide +kernel), List.mem_of_getElem? (i := 722) (by decide +kernel), List.mem_of_getElem? (i := 723) (by decide +kernel)⟩
theorem lw_p23 : lw_okq (⟨"FleetYard$Planner", "dropEntered", "(I)V"⟩, 14) := ⟨⟨by decide +kernel, by decide +kernel⟩, List.mem_of_getElem? (i := 176) (by decide +kernel), List.mem_of_getElem? (i := 730) (by decide +kernel), List.mem_of_getElem? (i := 731) (by decide +kernel)⟩
theorem lw_p24 : lw_okq (⟨"FleetYard$Planner", "spreadStage", "(II)V"⟩, 14) := ⟨⟨by decide +kernel, by decide +kernel⟩, List.mem_of_getElem? (i := 176) (by decide +kernel), List.mem_of_getElem? (i := 734) (by decide +kernel), List.mem_of_getElem? (i := 735) (by decide +kernel)⟩
theorem lw_p25 : lw_okq (⟨"FleetYard$Planner", "beside", "(II)I"⟩, 14) := ⟨⟨by decide +kernel, by decide +kernel⟩, List.mem_of_getElem? (i := 176) (by decide +kernel), List.mem_of_getElem? (i := 738) (by decide +kernel), List.mem_of_getElem? (i := 739) (by decide +kernel)⟩
theorem lw_p26 : lw_okq (⟨"FleetYard$Planner", "isReached", "(II)Z"⟩, 14) := ⟨⟨by decide +kernel, by decide +kernel⟩, List.mem_of_getElem? (i := 176) (by decide +kernel), List.mem_of_getElem? (i := 742) (by decide +kernel), List.mem_of_getElem? (i := 743) (by decide +kernel)⟩
theorem lw_p27 : lw_okq (⟨"FleetYard$Planner", "keepWhatLeadsHome", "(I)V"⟩, 14) := ⟨⟨by decide +kernel, by decide +kernel⟩, List.mem_of_getElem? (i := 176) (by decide +kernel), List.mem_of_getElem? (i := 746) (by decide +kernel), List.mem_of_getElem? (i := 747) (by decide +kernel)⟩
theorem lw_p28 : lw_okq (⟨"FleetYard$Planner", "keepStage", "(II)V"⟩, 14) := ⟨⟨by decide +kernel, by decide +kernel⟩, List.mem_of_getElem? (i := 176) (by decide +kernel), List.mem_of_getElem? (i := 750) (by decide +kernel), List.mem_of_getElem? (i := 751) (by decide +kernel)⟩
theorem lw_p29 : lw_okq (⟨"FleetYard$Planner", "followFirst", "(ILFleetYard$Route;)V"⟩, 14) := ⟨⟨by decide +kernel, by decide +kernel⟩, List.mem_of_getElem? (i := 176) (by decide +kernel), List.mem_of_getElem? (i := 754) (by decide +kernel), List.mem_of_getElem? (i := 755) (by decide +kernel)⟩
theorem lw_p30 : lw_okq (⟨"FleetYard$Planner", "firstWayOn", "(II)I"⟩, 14) := ⟨⟨by decide +kernel, by decide +kernel⟩, List.mem_of_getElem? (i := 176) (by decide +kernel), List.mem_of_getElem? (i := 759) (by decide +kernel), List.mem_of_getElem? (i := 760) (by decide +kernel)⟩
theorem lw_p31 : lw_okq (⟨"FleetYard$Route", "addStep", "(I)Z"⟩, 9) := ⟨⟨by decide +kernel, by decide +kernel⟩, List.mem_of_getElem? (i := 230) (by decide +kernel), List.mem_of_getElem? (i := 768) (by decide +kernel), List.mem_of_getElem? (i := 769) (by decide +kernel)⟩
def lw_privs_2 : List (MethodName × Nat) := [(⟨"FleetYard$Base", "leastIdle", "()I"⟩, 5), (⟨"FleetYard$Base", "givePlan", "(LFleetYard$YardMap;ILFleetYard$TaskBook;II)Z"⟩, 5), (⟨"FleetYard$Planner", "markGround", "()V"⟩, 14), (⟨"FleetYard$Planner", "mark", "([III)V"⟩, 14), (⟨"FleetYard$Planner", "spread", "()I"⟩, 14), (⟨"FleetYard$Planner", "clearLayer", "(I)V"⟩, 14), (⟨"FleetYard$Planner", "markHeld", "(I)V"⟩, 14), (⟨"FleetYard$Planner", "dropEntered", "(I)V"⟩, 14), (⟨"FleetYard$Planner", "spreadStage", "(II)V"⟩, 14), (⟨"FleetYard$Planner", "beside", "(II)I"⟩, 14), (⟨"FleetYard$Planner", "isReached", "(II)Z"⟩, 14), (⟨"FleetYard$Planner", "keepWhatLeadsHome", "(I)V"⟩, 14), (⟨"FleetYard$Planner", "keepStage", "(II)V"⟩, 14), (⟨"FleetYard$Planner", "followFirst", "(ILFleetYard$Route;)V"⟩, 14), (⟨"FleetYard$Planner", "firstWayOn", "(II)I"⟩, 14), (⟨"FleetYard$Route", "addStep", "(I)Z"⟩, 9)]
theorem lw_r2 : ∀ q ∈ lw_privs_2, lw_okq q := List.forall_mem_cons.mpr ⟨lw_p16, List.forall_mem_cons.mpr ⟨lw_p17, List.forall_mem_cons.mpr ⟨lw_p18, List.forall_mem_cons.mpr ⟨lw_p19, List.forall_mem_cons.mpr ⟨lw_p20, List.forall_mem_cons.mpr ⟨lw_p21, List.forall_mem_cons.mpr ⟨lw_p22, List.forall_mem_cons.mpr ⟨lw_p23, List.forall_mem_cons.mpr ⟨lw_p24, List.forall_mem_cons.mpr ⟨lw_p25, List.forall_mem_cons.mpr ⟨lw_p26, List.forall_mem_cons.mpr ⟨lw_p27, List.forall_mem_cons.mpr ⟨lw_p28, List.forall_mem_cons.mpr ⟨lw_p29, List.forall_mem_cons.mpr ⟨lw_p30, List.forall_mem_cons.mpr ⟨lw_p31, fun _ h => absurd h List.not_mem_nil⟩⟩⟩⟩⟩⟩⟩⟩⟩⟩⟩⟩⟩⟩⟩⟩
theorem lw_p32 : lw_okq (⟨"FleetYard$Route", "addAct", "(I)V"⟩, 9) := ⟨⟨by decide +kernel, by decide +kernel⟩, List.mem_of_getElem? (i := 230) (by decide +kernel), List.mem_of_getElem? (i := 772) (by decide +kernel), List.mem_of_getElem? (i := 773) (by decide +kernel)⟩
theorem lw_p33 : lw_okq (⟨"FleetYard$Base", "noteHopeless", "(III)V"⟩, 5) := ⟨⟨by decide +kernel, by decide +kernel⟩, List.mem_of_getElem? (i := 168) (by decide +kernel), List.mem_of_getElem? (i := 784) (by decide +kernel), List.mem_of_getElem? (i := 785) (by decide +kernel)⟩
theorem lw_p34 : lw_okq (⟨"FleetYard$Base", "isGrantDue", "(III)Z"⟩, 5) := ⟨⟨by decide +kernel, by decide +kernel⟩, List.mem_of_getElem? (i := 168) (by decide +kernel), List.mem_of_getElem? (i := 809) (by decide +kernel), List.mem_of_getElem? (i := 810) (by decide +kernel)⟩
theorem lw_p35 : lw_okq (⟨"FleetYard$Account", "firstActNotOver", "()I"⟩, 7) := ⟨⟨by decide +kernel, by decide +kernel⟩, List.mem_of_getElem? (i := 224) (by decide +kernel), List.mem_of_getElem? (i := 831) (by decide +kernel), List.mem_of_getElem? (i := 832) (by decide +kernel)⟩
theorem lw_p36 : lw_okq (⟨"FleetYard", "vehicleIn", "(I)I"⟩, 11) := ⟨⟨by decide +kernel, by decide +kernel⟩, List.mem_of_getElem? (i := 17) (by decide +kernel), List.mem_of_getElem? (i := 848) (by decide +kernel), List.mem_of_getElem? (i := 849) (by decide +kernel)⟩
theorem lw_p37 : lw_okq (⟨"FleetYardModel", "begins", "()V"⟩, 65) := ⟨⟨by decide +kernel, by decide +kernel⟩, List.mem_of_getElem? (i := 906) (by decide +kernel), List.mem_of_getElem? (i := 913) (by decide +kernel), List.mem_of_getElem? (i := 914) (by decide +kernel)⟩
theorem lw_p38 : lw_okq (⟨"FleetYardModel", "put", "(I)V"⟩, 65) := ⟨⟨by decide +kernel, by decide +kernel⟩, List.mem_of_getElem? (i := 906) (by decide +kernel), List.mem_of_getElem? (i := 1117) (by decide +kernel), List.mem_of_getElem? (i := 1118) (by decide +kernel)⟩
theorem lw_p39 : lw_okq (⟨"FleetYardModel", "cuts", "(I)V"⟩, 65) := ⟨⟨by decide +kernel, by decide +kernel⟩, List.mem_of_getElem? (i := 906) (by decide +kernel), List.mem_of_getElem? (i := 1129) (by decide +kernel), List.mem_of_getElem? (i := 1130) (by decide +kernel)⟩
theorem lw_p40 : lw_okq (⟨"FleetYardModel", "apart", "()I"⟩, 65) := ⟨⟨by decide +kernel, by decide +kernel⟩, List.mem_of_getElem? (i := 906) (by decide +kernel), List.mem_of_getElem? (i := 1136) (by decide +kernel), List.mem_of_getElem? (i := 1137) (by decide +kernel)⟩
theorem lw_p41 : lw_okq (⟨"FleetYardModel", "readAt", "(II)I"⟩, 65) := ⟨⟨by decide +kernel, by decide +kernel⟩, List.mem_of_getElem? (i := 906) (by decide +kernel), List.mem_of_getElem? (i := 1140) (by decide +kernel), List.mem_of_getElem? (i := 1141) (by decide +kernel)⟩
theorem lw_p42 : lw_okq (⟨"FleetYardModel", "messagesCome", "()V"⟩, 65) := ⟨⟨by decide +kernel, by decide +kernel⟩, List.mem_of_getElem? (i := 906) (by decide +kernel), List.mem_of_getElem? (i := 1164) (by decide +kernel), List.mem_of_getElem? (i := 1165) (by decide +kernel)⟩
theorem lw_p43 : lw_okq (⟨"FleetYardModel", "nextComing", "()I"⟩, 65) := ⟨⟨by decide +kernel, by decide +kernel⟩, List.mem_of_getElem? (i := 906) (by decide +kernel), List.mem_of_getElem? (i := 1168) (by decide +kernel), List.mem_of_getElem? (i := 1169) (by decide +kernel)⟩
theorem lw_p44 : lw_okq (⟨"FleetYardModel", "granting", "(IIII)V"⟩, 65) := ⟨⟨by decide +kernel, by decide +kernel⟩, List.mem_of_getElem? (i := 906) (by decide +kernel), List.mem_of_getElem? (i := 1172) (by decide +kernel), List.mem_of_getElem? (i := 1173) (by decide +kernel)⟩
theorem lw_p45 : lw_okq (⟨"FleetYardModel", "reporting", "(III)V"⟩, 65) := ⟨⟨by decide +kernel, by decide +kernel⟩, List.mem_of_getElem? (i := 906) (by decide +kernel), List.mem_of_getElem? (i := 1176) (by decide +kernel), List.mem_of_getElem? (i := 1177) (by decide +kernel)⟩
theorem lw_p46 : lw_okq (⟨"FleetYardModel", "vehicleActs", "(I)V"⟩, 65) := ⟨⟨by decide +kernel, by decide +kernel⟩, List.mem_of_getElem? (i := 906) (by decide +kernel), List.mem_of_getElem? (i := 1180) (by decide +kernel), List.mem_of_getElem? (i := 1181) (by decide +kernel)⟩
theorem lw_p47 : lw_okq (⟨"FleetYardModel", "sends", "(IIIII)V"⟩, 65) := ⟨⟨by decide +kernel, by decide +kernel⟩, List.mem_of_getElem? (i := 906) (by decide +kernel), List.mem_of_getElem? (i := 1184) (by decide +kernel), List.mem_of_getElem? (i := 1185) (by decide +kernel)⟩
def lw_privs_3 : List (MethodName × Nat) := [(⟨"FleetYard$Route", "addAct", "(I)V"⟩, 9), (⟨"FleetYard$Base", "noteHopeless", "(III)V"⟩, 5), (⟨"FleetYard$Base", "isGrantDue", "(III)Z"⟩, 5), (⟨"FleetYard$Account", "firstActNotOver", "()I"⟩, 7), (⟨"FleetYard", "vehicleIn", "(I)I"⟩, 11), (⟨"FleetYardModel", "begins", "()V"⟩, 65), (⟨"FleetYardModel", "put", "(I)V"⟩, 65), (⟨"FleetYardModel", "cuts", "(I)V"⟩, 65), (⟨"FleetYardModel", "apart", "()I"⟩, 65), (⟨"FleetYardModel", "readAt", "(II)I"⟩, 65), (⟨"FleetYardModel", "messagesCome", "()V"⟩, 65), (⟨"FleetYardModel", "nextComing", "()I"⟩, 65), (⟨"FleetYardModel", "granting", "(IIII)V"⟩, 65), (⟨"FleetYardModel", "reporting", "(III)V"⟩, 65), (⟨"FleetYardModel", "vehicleActs", "(I)V"⟩, 65), (⟨"FleetYardModel", "sends", "(IIIII)V"⟩, 65)]
theorem lw_r3 : ∀ q ∈ lw_privs_3, lw_okq q := List.forall_mem_cons.mpr ⟨lw_p32, List.forall_mem_cons.mpr ⟨lw_p33, List.forall_mem_cons.mpr ⟨lw_p34, List.forall_mem_cons.mpr ⟨lw_p35, List.forall_mem_cons.mpr ⟨lw_p36, List.forall_mem_cons.mpr ⟨lw_p37, List.forall_mem_cons.mpr ⟨lw_p38, List.forall_mem_cons.mpr ⟨lw_p39, List.forall_mem_cons.mpr ⟨lw_p40, List.forall_mem_cons.mpr ⟨lw_p41, List.forall_mem_cons.mpr ⟨lw_p42, List.forall_mem_cons.mpr ⟨lw_p43, List.forall_mem_cons.mpr ⟨lw_p44, List.forall_mem_cons.mpr ⟨lw_p45, List.forall_mem_cons.mpr ⟨lw_p46, List.forall_mem_cons.mpr ⟨lw_p47, fun _ h => absurd h List.not_mem_nil⟩⟩⟩⟩⟩⟩⟩⟩⟩⟩⟩⟩⟩⟩⟩⟩
theorem lw_p48 : lw_okq (⟨"FleetYardModel", "baseActs", "()I"⟩, 65) := ⟨⟨by decide +kernel, by decide +kernel⟩, List.mem_of_getElem? (i := 906) (by decide +kernel), List.mem_of_getElem? (i := 1188) (by decide +kernel), List.mem_of_getElem? (i := 1189) (by decide +kernel)⟩
theorem lw_p49 : lw_okq (⟨"FleetYardModel", "known", "(I)I"⟩, 65) := ⟨⟨by decide +kernel, by decide +kernel⟩, List.mem_of_getElem? (i := 906) (by decide +kernel), List.mem_of_getElem? (i := 1192) (by decide +kernel), List.mem_of_getElem? (i := 1193) (by decide +kernel)⟩
theorem lw_p50 : lw_okq (⟨"FleetYardModel", "finds", "(IIII)Z"⟩, 65) := ⟨⟨by decide +kernel, by decide +kernel⟩, List.mem_of_getElem? (i := 906) (by decide +kernel), List.mem_of_getElem? (i := 1196) (by decide +kernel), List.mem_of_getElem? (i := 1197) (by decide +kernel)⟩
theorem lw_p51 : lw_okq (⟨"FleetYardModel", "leadsTo", "(IIIII)I"⟩, 65) := ⟨⟨by decide +kernel, by decide +kernel⟩, List.mem_of_getElem? (i := 906) (by decide +kernel), List.mem_of_getElem? (i := 1200) (by decide +kernel), List.mem_of_getElem? (i := 1201) (by decide +kernel)⟩
theorem lw_p52 : lw_okq (⟨"FleetYardModel", "neighbour", "(II)I"⟩, 65) := ⟨⟨by decide +kernel, by decide +kernel⟩, List.mem_of_getElem? (i := 906) (by decide +kernel), List.mem_of_getElem? (i := 1204) (by decide +kernel), List.mem_of_getElem? (i := 1205) (by decide +kernel)⟩
theorem lw_p53 : lw_okq (⟨"FleetYardModel", "isClear", "(IIII)Z"⟩, 65) := ⟨⟨by decide +kernel, by decide +kernel⟩, List.mem_of_getElem? (i := 906) (by decide +kernel), List.mem_of_getElem? (i := 1208) (by decide +kernel), List.mem_of_getElem? (i := 1209) (by decide +kernel)⟩
theorem lw_p54 : lw_okq (⟨"FleetYardModel", "tripAt", "(II)I"⟩, 65) := ⟨⟨by decide +kernel, by decide +kernel⟩, List.mem_of_getElem? (i := 906) (by decide +kernel), List.mem_of_getElem? (i := 1212) (by decide +kernel), List.mem_of_getElem? (i := 1213) (by decide +kernel)⟩
theorem lw_p55 : lw_okq (⟨"FleetYardModel", "grants", "(I)V"⟩, 65) := ⟨⟨by decide +kernel, by decide +kernel⟩, List.mem_of_getElem? (i := 906) (by decide +kernel), List.mem_of_getElem? (i := 1216) (by decide +kernel), List.mem_of_getElem? (i := 1217) (by decide +kernel)⟩
theorem lw_p56 : lw_okq (⟨"FleetYardModel", "waitFor", "(I)V"⟩, 65) := ⟨⟨by decide +kernel, by decide +kernel⟩, List.mem_of_getElem? (i := 906) (by decide +kernel), List.mem_of_getElem? (i := 1220) (by decide +kernel), List.mem_of_getElem? (i := 1221) (by decide +kernel)⟩
theorem lw_p57 : lw_okq (⟨"FleetYardModel", "isOver", "(II)Z"⟩, 65) := ⟨⟨by decide +kernel, by decide +kernel⟩, List.mem_of_getElem? (i := 906) (by decide +kernel), List.mem_of_getElem? (i := 1224) (by decide +kernel), List.mem_of_getElem? (i := 1225) (by decide +kernel)⟩
def lw_privs_4 : List (MethodName × Nat) := [(⟨"FleetYardModel", "baseActs", "()I"⟩, 65), (⟨"FleetYardModel", "known", "(I)I"⟩, 65), (⟨"FleetYardModel", "finds", "(IIII)Z"⟩, 65), (⟨"FleetYardModel", "leadsTo", "(IIIII)I"⟩, 65), (⟨"FleetYardModel", "neighbour", "(II)I"⟩, 65), (⟨"FleetYardModel", "isClear", "(IIII)Z"⟩, 65), (⟨"FleetYardModel", "tripAt", "(II)I"⟩, 65), (⟨"FleetYardModel", "grants", "(I)V"⟩, 65), (⟨"FleetYardModel", "waitFor", "(I)V"⟩, 65), (⟨"FleetYardModel", "isOver", "(II)Z"⟩, 65)]
theorem lw_r4 : ∀ q ∈ lw_privs_4, lw_okq q := List.forall_mem_cons.mpr ⟨lw_p48, List.forall_mem_cons.mpr ⟨lw_p49, List.forall_mem_cons.mpr ⟨lw_p50, List.forall_mem_cons.mpr ⟨lw_p51, List.forall_mem_cons.mpr ⟨lw_p52, List.forall_mem_cons.mpr ⟨lw_p53, List.forall_mem_cons.mpr ⟨lw_p54, List.forall_mem_cons.mpr ⟨lw_p55, List.forall_mem_cons.mpr ⟨lw_p56, List.forall_mem_cons.mpr ⟨lw_p57, fun _ h => absurd h List.not_mem_nil⟩⟩⟩⟩⟩⟩⟩⟩⟩⟩
def lw_privs : List (MethodName × Nat) := lw_privs_1 ++ (lw_privs_2 ++ (lw_privs_3 ++ (lw_privs_4)))
def lw_tbl : List Cond := k2_sels lw_privs ++ tables_1
theorem lw_privs_ok : ∀ q ∈ lw_privs, lw_okq q := by
  show ∀ q ∈ lw_privs_1 ++ (lw_privs_2 ++ (lw_privs_3 ++ (lw_privs_4))), lw_okq q
  exact List.forall_mem_append.mpr ⟨lw_r1, List.forall_mem_append.mpr ⟨lw_r2, List.forall_mem_append.mpr ⟨lw_r3, lw_r4⟩⟩⟩
end
section
def RX0 : String := "FleetYard$Account"
def TX0 : u_T := fun k => match k with
  | 0 => ("FleetYard$Account", "route", "LFleetYard$Route;", true)
  | 1 => ("FleetYard$Account", "plan", "I", false)
  | 2 => ("FleetYard$Account", "task", "I", false)
  | 3 => ("FleetYard$Account", "knownPlan", "I", false)
  | 4 => ("FleetYard$Account", "knownAct", "I", false)
  | 5 => ("FleetYard$Account", "granted", "I", false)
  | _ => ("FleetYard$Account", "grantTick", "I", false)
def tyX0 : Nat → FieldType := fun k => match k with
  | 0 => .object "FleetYard$Route"
  | 1 => .int
  | 2 => .int
  | 3 => .int
  | 4 => .int
  | 5 => .int
  | _ => .int
theorem nmX0 : ∀ a, a < 7 → ∀ b, b < 7 → a ≠ b → (TX0 a).2.1 ≠ (TX0 b).2.1 := by decide +kernel
theorem tyX0_ok : ∀ k, k < 7 → parseFieldDescriptor (TX0 k).2.2.1 = some (tyX0 k) := by decide +kernel
abbrev cX0_init : ByteArray := prog_2_method_1_code
def yX0_init : MethodName := ⟨RX0, "<init>", "()V"⟩
abbrev cX0_beginAnew : ByteArray := prog_2_method_2_code
def yX0_beginAnew : MethodName := ⟨RX0, "beginAnew", "(I)V"⟩
abbrev cX0_take : ByteArray := prog_2_method_3_code
def yX0_take : MethodName := ⟨RX0, "take", "(I)V"⟩
abbrev cX0_learn : ByteArray := prog_2_method_4_code
def yX0_learn : MethodName := ⟨RX0, "learn", "(LFleetYard$Message;)V"⟩
abbrev cX0_isIdle : ByteArray := prog_2_method_5_code
def yX0_isIdle : MethodName := ⟨RX0, "isIdle", "()Z"⟩
abbrev cX0_actsKnown : ByteArray := prog_2_method_6_code
def yX0_actsKnown : MethodName := ⟨RX0, "actsKnown", "()I"⟩
abbrev cX0_isDoneWhole : ByteArray := prog_2_method_7_code
def yX0_isDoneWhole : MethodName := ⟨RX0, "isDoneWhole", "()Z"⟩
abbrev cX0_nextActTo : ByteArray := prog_2_method_8_code
def yX0_nextActTo : MethodName := ⟨RX0, "nextActTo", "(I)I"⟩
abbrev cX0_openActsTo : ByteArray := prog_2_method_9_code
def yX0_openActsTo : MethodName := ⟨RX0, "openActsTo", "(I)I"⟩
abbrev cX0_firstActNotOver : ByteArray := prog_2_method_10_code
def yX0_firstActNotOver : MethodName := ⟨RX0, "firstActNotOver", "()I"⟩
def RX1 : String := "FleetYard$Base"
def TX1 : u_T := fun k => match k with
  | 0 => ("FleetYard$Base", "accounts", "[LFleetYard$Account;", true)
  | 1 => ("FleetYard$Base", "planner", "LFleetYard$Planner;", true)
  | 2 => ("FleetYard$Base", "fleet", "I", false)
  | 3 => ("FleetYard$Base", "hopelessTask", "I", false)
  | _ => ("FleetYard$Base", "hopelessVehicle", "I", false)
def tyX1 : Nat → FieldType := fun k => match k with
  | 0 => .array (.object "FleetYard$Account")
  | 1 => .object "FleetYard$Planner"
  | 2 => .int
  | 3 => .int
  | _ => .int
theorem nmX1 : ∀ a, a < 5 → ∀ b, b < 5 → a ≠ b → (TX1 a).2.1 ≠ (TX1 b).2.1 := by decide +kernel
theorem tyX1_ok : ∀ k, k < 5 → parseFieldDescriptor (TX1 k).2.2.1 = some (tyX1 k) := by decide +kernel
abbrev cX1_init : ByteArray := prog_3_method_1_code
def yX1_init : MethodName := ⟨RX1, "<init>", "()V"⟩
abbrev cX1_beginAnew : ByteArray := prog_3_method_2_code
def yX1_beginAnew : MethodName := ⟨RX1, "beginAnew", "(LFleetYard$YardMap;)V"⟩
abbrev cX1_accountAt : ByteArray := prog_3_method_3_code
def yX1_accountAt : MethodName := ⟨RX1, "accountAt", "(I)LFleetYard$Account;"⟩
abbrev cX1_waitingAt : ByteArray := prog_3_method_4_code
def yX1_waitingAt : MethodName := ⟨RX1, "waitingAt", "(I)I"⟩
abbrev cX1_firstWaitingAt : ByteArray := prog_3_method_5_code
def yX1_firstWaitingAt : MethodName := ⟨RX1, "firstWaitingAt", "(I)I"⟩
abbrev cX1_noteFinished : ByteArray := prog_3_method_6_code
def yX1_noteFinished : MethodName := ⟨RX1, "noteFinished", "(LFleetYard$TaskBook;I)V"⟩
abbrev cX1_handOut : ByteArray := prog_3_method_7_code
def yX1_handOut : MethodName := ⟨RX1, "handOut", "(LFleetYard$YardMap;LFleetYard$TaskBook;I)V"⟩
abbrev cX1_leastIdle : ByteArray := prog_3_method_8_code
def yX1_leastIdle : MethodName := ⟨RX1, "leastIdle", "()I"⟩
abbrev cX1_givePlan : ByteArray := prog_3_method_9_code
def yX1_givePlan : MethodName := ⟨RX1, "givePlan", "(LFleetYard$YardMap;ILFleetYard$TaskBook;II)Z"⟩
abbrev cX1_noteHopeless : ByteArray := prog_3_method_10_code
def yX1_noteHopeless : MethodName := ⟨RX1, "noteHopeless", "(III)V"⟩
abbrev cX1_sendGrants : ByteArray := prog_3_method_11_code
def yX1_sendGrants : MethodName := ⟨RX1, "sendGrants", "(LFleetYard$Radio;I)V"⟩
abbrev cX1_isGrantDue : ByteArray := prog_3_method_12_code
def yX1_isGrantDue : MethodName := ⟨RX1, "isGrantDue", "(III)Z"⟩
def RX2 : String := "FleetYard$Judge"
def TX2 : u_T := fun k => match k with
  | 0 => ("FleetYard$Judge", "queue", "[I", true)
  | 1 => ("FleetYard$Judge", "seen", "[I", true)
  | 2 => ("FleetYard$Judge", "faultPlace", "I", false)
  | 3 => ("FleetYard$Judge", "line", "I", false)
  | _ => ("FleetYard$Judge", "column", "I", false)
def tyX2 : Nat → FieldType := fun k => match k with
  | 0 => .array .int
  | 1 => .array .int
  | 2 => .int
  | 3 => .int
  | _ => .int
theorem nmX2 : ∀ a, a < 5 → ∀ b, b < 5 → a ≠ b → (TX2 a).2.1 ≠ (TX2 b).2.1 := by decide +kernel
theorem tyX2_ok : ∀ k, k < 5 → parseFieldDescriptor (TX2 k).2.2.1 = some (tyX2 k) := by decide +kernel
abbrev cX2_init : ByteArray := prog_4_method_1_code
def yX2_init : MethodName := ⟨RX2, "<init>", "()V"⟩
abbrev cX2_faultOf : ByteArray := prog_4_method_2_code
def yX2_faultOf : MethodName := ⟨RX2, "faultOf", "(LFleetYard$Tape;LFleetYard$YardMap;)I"⟩
abbrev cX2_faultOfSigns : ByteArray := prog_4_method_3_code
def yX2_faultOfSigns : MethodName := ⟨RX2, "faultOfSigns", "(LFleetYard$Tape;LFleetYard$YardMap;)I"⟩
abbrev cX2_takeByte : ByteArray := prog_4_method_4_code
def yX2_takeByte : MethodName := ⟨RX2, "takeByte", "(ILFleetYard$YardMap;)I"⟩
abbrev cX2_endLine : ByteArray := prog_4_method_5_code
def yX2_endLine : MethodName := ⟨RX2, "endLine", "(LFleetYard$YardMap;)I"⟩
abbrev cX2_kindOfSign : ByteArray := prog_4_method_6_code
def yX2_kindOfSign : MethodName := ⟨RX2, "kindOfSign", "(I)I"⟩
abbrev cX2_faultOfNumbers : ByteArray := prog_4_method_7_code
def yX2_faultOfNumbers : MethodName := ⟨RX2, "faultOfNumbers", "(LFleetYard$YardMap;)I"⟩
abbrev cX2_faultOfWays : ByteArray := prog_4_method_8_code
def yX2_faultOfWays : MethodName := ⟨RX2, "faultOfWays", "(LFleetYard$YardMap;)I"⟩
abbrev cX2_reachesLaterEndpoints : ByteArray := prog_4_method_9_code
def yX2_reachesLaterEndpoints : MethodName := ⟨RX2, "reachesLaterEndpoints", "(LFleetYard$YardMap;I)Z"⟩
abbrev cX2_flood : ByteArray := prog_4_method_10_code
def yX2_flood : MethodName := ⟨RX2, "flood", "(LFleetYard$YardMap;I)V"⟩
abbrev cX2_visit : ByteArray := prog_4_method_11_code
def yX2_visit : MethodName := ⟨RX2, "visit", "(II)I"⟩
def RX3 : String := "FleetYard$Message"
def TX3 : u_T := fun k => match k with
  | 0 => ("FleetYard$Message", "isGrant", "Z", false)
  | 1 => ("FleetYard$Message", "vehicle", "I", false)
  | 2 => ("FleetYard$Message", "plan", "I", false)
  | 3 => ("FleetYard$Message", "act", "I", false)
  | 4 => ("FleetYard$Message", "cell", "I", false)
  | 5 => ("FleetYard$Message", "due", "I", false)
  | _ => ("FleetYard$Message", "comings", "I", false)
def tyX3 : Nat → FieldType := fun k => match k with
  | 0 => .boolean
  | 1 => .int
  | 2 => .int
  | 3 => .int
  | 4 => .int
  | 5 => .int
  | _ => .int
theorem nmX3 : ∀ a, a < 7 → ∀ b, b < 7 → a ≠ b → (TX3 a).2.1 ≠ (TX3 b).2.1 := by decide +kernel
theorem tyX3_ok : ∀ k, k < 7 → parseFieldDescriptor (TX3 k).2.2.1 = some (tyX3 k) := by decide +kernel
abbrev cX3_init : ByteArray := prog_5_method_1_code
def yX3_init : MethodName := ⟨RX3, "<init>", "()V"⟩
def RX4 : String := "FleetYard$Planner"
def TX4 : u_T := fun k => match k with
  | 0 => ("FleetYard$Planner", "reached", "[I", true)
  | 1 => ("FleetYard$Planner", "open", "[I", true)
  | 2 => ("FleetYard$Planner", "turns", "[I", true)
  | 3 => ("FleetYard$Planner", "heldBefore", "[I", false)
  | 4 => ("FleetYard$Planner", "heldAfter", "[I", false)
  | 5 => ("FleetYard$Planner", "map", "LFleetYard$YardMap;", false)
  | 6 => ("FleetYard$Planner", "accounts", "[LFleetYard$Account;", false)
  | 7 => ("FleetYard$Planner", "width", "I", false)
  | 8 => ("FleetYard$Planner", "lines", "I", false)
  | 9 => ("FleetYard$Planner", "own", "I", false)
  | 10 => ("FleetYard$Planner", "start", "I", false)
  | 11 => ("FleetYard$Planner", "from", "I", false)
  | 12 => ("FleetYard$Planner", "to", "I", false)
  | _ => ("FleetYard$Planner", "parking", "I", false)
def tyX4 : Nat → FieldType := fun k => match k with
  | 0 => .array .int
  | 1 => .array .int
  | 2 => .array .int
  | 3 => .array .int
  | 4 => .array .int
  | 5 => .object "FleetYard$YardMap"
  | 6 => .array (.object "FleetYard$Account")
  | 7 => .int
  | 8 => .int
  | 9 => .int
  | 10 => .int
  | 11 => .int
  | 12 => .int
  | _ => .int
theorem nmX4 : ∀ a, a < 14 → ∀ b, b < 14 → a ≠ b → (TX4 a).2.1 ≠ (TX4 b).2.1 := by decide +kernel
theorem tyX4_ok : ∀ k, k < 14 → parseFieldDescriptor (TX4 k).2.2.1 = some (tyX4 k) := by decide +kernel
abbrev cX4_init : ByteArray := prog_6_method_1_code
def yX4_init : MethodName := ⟨RX4, "<init>", "()V"⟩
abbrev cX4_findTrip : ByteArray := prog_6_method_2_code
def yX4_findTrip : MethodName := ⟨RX4, "findTrip", "(LFleetYard$YardMap;[LFleetYard$Account;IIII)Z"⟩
abbrev cX4_markGround : ByteArray := prog_6_method_3_code
def yX4_markGround : MethodName := ⟨RX4, "markGround", "()V"⟩
abbrev cX4_spread : ByteArray := prog_6_method_4_code
def yX4_spread : MethodName := ⟨RX4, "spread", "()I"⟩
abbrev cX4_markHeld : ByteArray := prog_6_method_5_code
def yX4_markHeld : MethodName := ⟨RX4, "markHeld", "(I)V"⟩
abbrev cX4_dropEntered : ByteArray := prog_6_method_6_code
def yX4_dropEntered : MethodName := ⟨RX4, "dropEntered", "(I)V"⟩
abbrev cX4_spreadStage : ByteArray := prog_6_method_7_code
def yX4_spreadStage : MethodName := ⟨RX4, "spreadStage", "(II)V"⟩
abbrev cX4_keepWhatLeadsHome : ByteArray := prog_6_method_8_code
def yX4_keepWhatLeadsHome : MethodName := ⟨RX4, "keepWhatLeadsHome", "(I)V"⟩
abbrev cX4_keepStage : ByteArray := prog_6_method_9_code
def yX4_keepStage : MethodName := ⟨RX4, "keepStage", "(II)V"⟩
abbrev cX4_followFirst : ByteArray := prog_6_method_10_code
def yX4_followFirst : MethodName := ⟨RX4, "followFirst", "(ILFleetYard$Route;)V"⟩
abbrev cX4_firstWayOn : ByteArray := prog_6_method_11_code
def yX4_firstWayOn : MethodName := ⟨RX4, "firstWayOn", "(II)I"⟩
abbrev cX4_beside : ByteArray := prog_6_method_12_code
def yX4_beside : MethodName := ⟨RX4, "beside", "(II)I"⟩
abbrev cX4_rowOf : ByteArray := prog_6_method_13_code
def yX4_rowOf : MethodName := ⟨RX4, "rowOf", "(II)I"⟩
abbrev cX4_clearLayer : ByteArray := prog_6_method_14_code
def yX4_clearLayer : MethodName := ⟨RX4, "clearLayer", "(I)V"⟩
abbrev cX4_mark : ByteArray := prog_6_method_15_code
def yX4_mark : MethodName := ⟨RX4, "mark", "([III)V"⟩
abbrev cX4_isReached : ByteArray := prog_6_method_16_code
def yX4_isReached : MethodName := ⟨RX4, "isReached", "(II)Z"⟩
def RX5 : String := "FleetYard$Radio"
def TX5 : u_T := fun k => match k with
  | 0 => ("FleetYard$Radio", "fateRow", "[I", true)
  | 1 => ("FleetYard$Radio", "messages", "[LFleetYard$Message;", true)
  | 2 => ("FleetYard$Radio", "fateCount", "I", false)
  | 3 => ("FleetYard$Radio", "size", "I", false)
  | 4 => ("FleetYard$Radio", "sent", "I", false)
  | _ => ("FleetYard$Radio", "lost", "I", false)
def tyX5 : Nat → FieldType := fun k => match k with
  | 0 => .array .int
  | 1 => .array (.object "FleetYard$Message")
  | 2 => .int
  | 3 => .int
  | 4 => .int
  | _ => .int
theorem nmX5 : ∀ a, a < 6 → ∀ b, b < 6 → a ≠ b → (TX5 a).2.1 ≠ (TX5 b).2.1 := by decide +kernel
theorem tyX5_ok : ∀ k, k < 6 → parseFieldDescriptor (TX5 k).2.2.1 = some (tyX5 k) := by decide +kernel
abbrev cX5_init : ByteArray := prog_7_method_1_code
def yX5_init : MethodName := ⟨RX5, "<init>", "()V"⟩
abbrev cX5_clear : ByteArray := prog_7_method_2_code
def yX5_clear : MethodName := ⟨RX5, "clear", "()V"⟩
abbrev cX5_clearFates : ByteArray := prog_7_method_3_code
def yX5_clearFates : MethodName := ⟨RX5, "clearFates", "(I)Z"⟩
abbrev cX5_setFate : ByteArray := prog_7_method_4_code
def yX5_setFate : MethodName := ⟨RX5, "setFate", "(II)Z"⟩
abbrev cX5_send : ByteArray := prog_7_method_5_code
def yX5_send : MethodName := ⟨RX5, "send", "(IZIIII)V"⟩
abbrev cX5_fateOfNext : ByteArray := prog_7_method_6_code
def yX5_fateOfNext : MethodName := ⟨RX5, "fateOfNext", "()I"⟩
abbrev cX5_comingAt : ByteArray := prog_7_method_7_code
def yX5_comingAt : MethodName := ⟨RX5, "comingAt", "(II)LFleetYard$Message;"⟩
abbrev cX5_forgetCome : ByteArray := prog_7_method_8_code
def yX5_forgetCome : MethodName := ⟨RX5, "forgetCome", "(I)V"⟩
abbrev cX5_comingsOnTheWay : ByteArray := prog_7_method_9_code
def yX5_comingsOnTheWay : MethodName := ⟨RX5, "comingsOnTheWay", "()I"⟩
def RX6 : String := "FleetYard$Route"
def TX6 : u_T := fun k => match k with
  | 0 => ("FleetYard$Route", "cells", "[I", true)
  | 1 => ("FleetYard$Route", "actCells", "[I", true)
  | 2 => ("FleetYard$Route", "actMoments", "[I", true)
  | 3 => ("FleetYard$Route", "parking", "I", false)
  | 4 => ("FleetYard$Route", "start", "I", false)
  | 5 => ("FleetYard$Route", "steps", "I", false)
  | 6 => ("FleetYard$Route", "acts", "I", false)
  | 7 => ("FleetYard$Route", "loadingAct", "I", false)
  | _ => ("FleetYard$Route", "endingAct", "I", false)
def tyX6 : Nat → FieldType := fun k => match k with
  | 0 => .array .int
  | 1 => .array .int
  | 2 => .array .int
  | 3 => .int
  | 4 => .int
  | 5 => .int
  | 6 => .int
  | 7 => .int
  | _ => .int
theorem nmX6 : ∀ a, a < 9 → ∀ b, b < 9 → a ≠ b → (TX6 a).2.1 ≠ (TX6 b).2.1 := by decide +kernel
theorem tyX6_ok : ∀ k, k < 9 → parseFieldDescriptor (TX6 k).2.2.1 = some (tyX6 k) := by decide +kernel
abbrev cX6_init : ByteArray := prog_8_method_1_code
def yX6_init : MethodName := ⟨RX6, "<init>", "()V"⟩
abbrev cX6_begin : ByteArray := prog_8_method_2_code
def yX6_begin : MethodName := ⟨RX6, "begin", "(II)V"⟩
abbrev cX6_addMove : ByteArray := prog_8_method_3_code
def yX6_addMove : MethodName := ⟨RX6, "addMove", "(I)V"⟩
abbrev cX6_addWait : ByteArray := prog_8_method_4_code
def yX6_addWait : MethodName := ⟨RX6, "addWait", "(I)V"⟩
abbrev cX6_addTurn : ByteArray := prog_8_method_5_code
def yX6_addTurn : MethodName := ⟨RX6, "addTurn", "(II)V"⟩
abbrev cX6_addStep : ByteArray := prog_8_method_6_code
def yX6_addStep : MethodName := ⟨RX6, "addStep", "(I)Z"⟩
abbrev cX6_addAct : ByteArray := prog_8_method_7_code
def yX6_addAct : MethodName := ⟨RX6, "addAct", "(I)V"⟩
abbrev cX6_lastMoment : ByteArray := prog_8_method_8_code
def yX6_lastMoment : MethodName := ⟨RX6, "lastMoment", "()I"⟩
abbrev cX6_cellAt : ByteArray := prog_8_method_9_code
def yX6_cellAt : MethodName := ⟨RX6, "cellAt", "(I)I"⟩
abbrev cX6_hasAct : ByteArray := prog_8_method_10_code
def yX6_hasAct : MethodName := ⟨RX6, "hasAct", "(I)Z"⟩
abbrev cX6_cellOfAct : ByteArray := prog_8_method_11_code
def yX6_cellOfAct : MethodName := ⟨RX6, "cellOfAct", "(I)I"⟩
abbrev cX6_momentOfAct : ByteArray := prog_8_method_12_code
def yX6_momentOfAct : MethodName := ⟨RX6, "momentOfAct", "(I)I"⟩
abbrev cX6_stageAfter : ByteArray := prog_8_method_13_code
def yX6_stageAfter : MethodName := ⟨RX6, "stageAfter", "(I)I"⟩
def RX7 : String := "FleetYard$Tape"
def TX7 : u_T := fun k => match k with
  | 0 => ("FleetYard$Tape", "bytes", "[B", true)
  | _ => ("FleetYard$Tape", "length", "I", false)
def tyX7 : Nat → FieldType := fun k => match k with
  | 0 => .array .byte
  | _ => .int
theorem nmX7 : ∀ a, a < 2 → ∀ b, b < 2 → a ≠ b → (TX7 a).2.1 ≠ (TX7 b).2.1 := by decide +kernel
theorem tyX7_ok : ∀ k, k < 2 → parseFieldDescriptor (TX7 k).2.2.1 = some (tyX7 k) := by decide +kernel
abbrev cX7_init : ByteArray := prog_9_method_1_code
def yX7_init : MethodName := ⟨RX7, "<init>", "()V"⟩
abbrev cX7_hasRoomForFive : ByteArray := prog_9_method_2_code
def yX7_hasRoomForFive : MethodName := ⟨RX7, "hasRoomForFive", "()Z"⟩
abbrev cX7_addWord : ByteArray := prog_9_method_3_code
def yX7_addWord : MethodName := ⟨RX7, "addWord", "(I)V"⟩
def RX8 : String := "FleetYard$TaskBook"
def TX8 : u_T := fun k => match k with
  | 0 => ("FleetYard$TaskBook", "from", "[I", true)
  | 1 => ("FleetYard$TaskBook", "to", "[I", true)
  | 2 => ("FleetYard$TaskBook", "takers", "[I", true)
  | 3 => ("FleetYard$TaskBook", "takenAt", "[I", true)
  | 4 => ("FleetYard$TaskBook", "finishedAt", "[I", true)
  | 5 => ("FleetYard$TaskBook", "came", "I", false)
  | 6 => ("FleetYard$TaskBook", "given", "I", false)
  | _ => ("FleetYard$TaskBook", "finished", "I", false)
def tyX8 : Nat → FieldType := fun k => match k with
  | 0 => .array .int
  | 1 => .array .int
  | 2 => .array .int
  | 3 => .array .int
  | 4 => .array .int
  | 5 => .int
  | 6 => .int
  | _ => .int
theorem nmX8 : ∀ a, a < 8 → ∀ b, b < 8 → a ≠ b → (TX8 a).2.1 ≠ (TX8 b).2.1 := by decide +kernel
theorem tyX8_ok : ∀ k, k < 8 → parseFieldDescriptor (TX8 k).2.2.1 = some (tyX8 k) := by decide +kernel
abbrev cX8_init : ByteArray := prog_10_method_1_code
def yX8_init : MethodName := ⟨RX8, "<init>", "()V"⟩
abbrev cX8_clear : ByteArray := prog_10_method_2_code
def yX8_clear : MethodName := ⟨RX8, "clear", "()V"⟩
abbrev cX8_add : ByteArray := prog_10_method_3_code
def yX8_add : MethodName := ⟨RX8, "add", "(II)I"⟩
abbrev cX8_has : ByteArray := prog_10_method_4_code
def yX8_has : MethodName := ⟨RX8, "has", "(I)Z"⟩
abbrev cX8_give : ByteArray := prog_10_method_5_code
def yX8_give : MethodName := ⟨RX8, "give", "(III)V"⟩
abbrev cX8_finish : ByteArray := prog_10_method_6_code
def yX8_finish : MethodName := ⟨RX8, "finish", "(II)V"⟩
abbrev cX8_answer : ByteArray := prog_10_method_7_code
def yX8_answer : MethodName := ⟨RX8, "answer", "(II)I"⟩
def RX9 : String := "FleetYard$Vehicle"
def TX9 : u_T := fun k => match k with
  | 0 => ("FleetYard$Vehicle", "cell", "I", false)
  | 1 => ("FleetYard$Vehicle", "plan", "I", false)
  | 2 => ("FleetYard$Vehicle", "act", "I", false)
  | 3 => ("FleetYard$Vehicle", "hasGrant", "Z", false)
  | 4 => ("FleetYard$Vehicle", "grantedCell", "I", false)
  | _ => ("FleetYard$Vehicle", "silent", "I", false)
def tyX9 : Nat → FieldType := fun k => match k with
  | 0 => .int
  | 1 => .int
  | 2 => .int
  | 3 => .boolean
  | 4 => .int
  | _ => .int
theorem nmX9 : ∀ a, a < 6 → ∀ b, b < 6 → a ≠ b → (TX9 a).2.1 ≠ (TX9 b).2.1 := by decide +kernel
theorem tyX9_ok : ∀ k, k < 6 → parseFieldDescriptor (TX9 k).2.2.1 = some (tyX9 k) := by decide +kernel
abbrev cX9_init : ByteArray := prog_11_method_1_code
def yX9_init : MethodName := ⟨RX9, "<init>", "()V"⟩
abbrev cX9_beginAnew : ByteArray := prog_11_method_2_code
def yX9_beginAnew : MethodName := ⟨RX9, "beginAnew", "(I)V"⟩
abbrev cX9_halts : ByteArray := prog_11_method_3_code
def yX9_halts : MethodName := ⟨RX9, "halts", "()Z"⟩
abbrev cX9_hear : ByteArray := prog_11_method_4_code
def yX9_hear : MethodName := ⟨RX9, "hear", "(LFleetYard$Message;)V"⟩
abbrev cX9_obey : ByteArray := prog_11_method_5_code
def yX9_obey : MethodName := ⟨RX9, "obey", "()Z"⟩
def RX10 : String := "FleetYard$YardMap"
def TX10 : u_T := fun k => match k with
  | 0 => ("FleetYard$YardMap", "kinds", "[I", true)
  | 1 => ("FleetYard$YardMap", "ordinals", "[I", true)
  | 2 => ("FleetYard$YardMap", "neighbours", "[I", true)
  | 3 => ("FleetYard$YardMap", "stations", "[I", true)
  | 4 => ("FleetYard$YardMap", "parkings", "[I", true)
  | 5 => ("FleetYard$YardMap", "cells", "I", false)
  | 6 => ("FleetYard$YardMap", "width", "I", false)
  | 7 => ("FleetYard$YardMap", "stationCount", "I", false)
  | _ => ("FleetYard$YardMap", "parkingCount", "I", false)
def tyX10 : Nat → FieldType := fun k => match k with
  | 0 => .array .int
  | 1 => .array .int
  | 2 => .array .int
  | 3 => .array .int
  | 4 => .array .int
  | 5 => .int
  | 6 => .int
  | 7 => .int
  | _ => .int
theorem nmX10 : ∀ a, a < 9 → ∀ b, b < 9 → a ≠ b → (TX10 a).2.1 ≠ (TX10 b).2.1 := by decide +kernel
theorem tyX10_ok : ∀ k, k < 9 → parseFieldDescriptor (TX10 k).2.2.1 = some (tyX10 k) := by decide +kernel
abbrev cX10_init : ByteArray := prog_12_method_1_code
def yX10_init : MethodName := ⟨RX10, "<init>", "()V"⟩
abbrev cX10_clear : ByteArray := prog_12_method_2_code
def yX10_clear : MethodName := ⟨RX10, "clear", "()V"⟩
abbrev cX10_addCell : ByteArray := prog_12_method_3_code
def yX10_addCell : MethodName := ⟨RX10, "addCell", "(I)V"⟩
abbrev cX10_addStation : ByteArray := prog_12_method_4_code
def yX10_addStation : MethodName := ⟨RX10, "addStation", "()V"⟩
abbrev cX10_addParking : ByteArray := prog_12_method_5_code
def yX10_addParking : MethodName := ⟨RX10, "addParking", "()V"⟩
abbrev cX10_hasCell : ByteArray := prog_12_method_6_code
def yX10_hasCell : MethodName := ⟨RX10, "hasCell", "(I)Z"⟩
abbrev cX10_kindOf : ByteArray := prog_12_method_7_code
def yX10_kindOf : MethodName := ⟨RX10, "kindOf", "(I)I"⟩
abbrev cX10_ordinalOf : ByteArray := prog_12_method_8_code
def yX10_ordinalOf : MethodName := ⟨RX10, "ordinalOf", "(I)I"⟩
abbrev cX10_isEndpoint : ByteArray := prog_12_method_9_code
def yX10_isEndpoint : MethodName := ⟨RX10, "isEndpoint", "(I)Z"⟩
abbrev cX10_stationCell : ByteArray := prog_12_method_10_code
def yX10_stationCell : MethodName := ⟨RX10, "stationCell", "(I)I"⟩
abbrev cX10_parkingCell : ByteArray := prog_12_method_11_code
def yX10_parkingCell : MethodName := ⟨RX10, "parkingCell", "(I)I"⟩
abbrev cX10_joinCells : ByteArray := prog_12_method_12_code
def yX10_joinCells : MethodName := ⟨RX10, "joinCells", "()V"⟩
abbrev cX10_cellBeside : ByteArray := prog_12_method_13_code
def yX10_cellBeside : MethodName := ⟨RX10, "cellBeside", "(II)I"⟩
abbrev cX10_neighbour : ByteArray := prog_12_method_14_code
def yX10_neighbour : MethodName := ⟨RX10, "neighbour", "(II)I"⟩
def RX11 : String := "FleetYard"
def TX11 : u_T := fun k => match k with
  | 0 => ("FleetYard", "tape", "LFleetYard$Tape;", true)
  | 1 => ("FleetYard", "judge", "LFleetYard$Judge;", true)
  | 2 => ("FleetYard", "radio", "LFleetYard$Radio;", true)
  | 3 => ("FleetYard", "tasks", "LFleetYard$TaskBook;", true)
  | 4 => ("FleetYard", "base", "LFleetYard$Base;", true)
  | 5 => ("FleetYard", "vehicles", "[LFleetYard$Vehicle;", true)
  | 6 => ("FleetYard", "map", "LFleetYard$YardMap;", false)
  | 7 => ("FleetYard", "spareMap", "LFleetYard$YardMap;", false)
  | 8 => ("FleetYard", "faultPlace", "I", false)
  | 9 => ("FleetYard", "tick", "I", false)
  | _ => ("FleetYard", "actsDone", "I", false)
def tyX11 : Nat → FieldType := fun k => match k with
  | 0 => .object "FleetYard$Tape"
  | 1 => .object "FleetYard$Judge"
  | 2 => .object "FleetYard$Radio"
  | 3 => .object "FleetYard$TaskBook"
  | 4 => .object "FleetYard$Base"
  | 5 => .array (.object "FleetYard$Vehicle")
  | 6 => .object "FleetYard$YardMap"
  | 7 => .object "FleetYard$YardMap"
  | 8 => .int
  | 9 => .int
  | _ => .int
theorem nmX11 : ∀ a, a < 11 → ∀ b, b < 11 → a ≠ b → (TX11 a).2.1 ≠ (TX11 b).2.1 := by decide +kernel
theorem tyX11_ok : ∀ k, k < 11 → parseFieldDescriptor (TX11 k).2.2.1 = some (tyX11 k) := by decide +kernel
abbrev cX11_init : ByteArray := prog_1_method_1_code
def yX11_init : MethodName := ⟨RX11, "<init>", "()V"⟩
abbrev cX11_feed : ByteArray := prog_1_method_2_code
def yX11_feed : MethodName := ⟨RX11, "feed", "(IIIII)I"⟩
abbrev cX11_back : ByteArray := prog_1_method_3_code
def yX11_back : MethodName := ⟨RX11, "back", "(I)I"⟩
abbrev cX11_read : ByteArray := prog_1_method_4_code
def yX11_read : MethodName := ⟨RX11, "read", "()I"⟩
abbrev cX11_place : ByteArray := prog_1_method_5_code
def yX11_place : MethodName := ⟨RX11, "place", "()I"⟩
abbrev cX11_fates : ByteArray := prog_1_method_6_code
def yX11_fates : MethodName := ⟨RX11, "fates", "(I)Z"⟩
abbrev cX11_fate : ByteArray := prog_1_method_7_code
def yX11_fate : MethodName := ⟨RX11, "fate", "(II)Z"⟩
abbrev cX11_task : ByteArray := prog_1_method_8_code
def yX11_task : MethodName := ⟨RX11, "task", "(II)I"⟩
abbrev cX11_run : ByteArray := prog_1_method_9_code
def yX11_run : MethodName := ⟨RX11, "run", "(I)I"⟩
abbrev cX11_cell : ByteArray := prog_1_method_10_code
def yX11_cell : MethodName := ⟨RX11, "cell", "(II)I"⟩
abbrev cX11_vehicle : ByteArray := prog_1_method_11_code
def yX11_vehicle : MethodName := ⟨RX11, "vehicle", "(II)I"⟩
abbrev cX11_trip : ByteArray := prog_1_method_12_code
def yX11_trip : MethodName := ⟨RX11, "trip", "(II)I"⟩
abbrev cX11_plan : ByteArray := prog_1_method_13_code
def yX11_plan : MethodName := ⟨RX11, "plan", "(III)I"⟩
abbrev cX11_told : ByteArray := prog_1_method_14_code
def yX11_told : MethodName := ⟨RX11, "told", "(II)I"⟩
abbrev cX11_count : ByteArray := prog_1_method_15_code
def yX11_count : MethodName := ⟨RX11, "count", "(I)I"⟩
abbrev cX11_beginAnew : ByteArray := prog_1_method_16_code
def yX11_beginAnew : MethodName := ⟨RX11, "beginAnew", "()V"⟩
abbrev cX11_vehicleAt : ByteArray := prog_1_method_17_code
def yX11_vehicleAt : MethodName := ⟨RX11, "vehicleAt", "(I)LFleetYard$Vehicle;"⟩
abbrev cX11_vehicleIn : ByteArray := prog_1_method_18_code
def yX11_vehicleIn : MethodName := ⟨RX11, "vehicleIn", "(I)I"⟩
abbrev cX11_ofVehicle : ByteArray := prog_1_method_19_code
def yX11_ofVehicle : MethodName := ⟨RX11, "ofVehicle", "(LFleetYard$Vehicle;LFleetYard$Account;I)I"⟩
abbrev cX11_ofAccount : ByteArray := prog_1_method_20_code
def yX11_ofAccount : MethodName := ⟨RX11, "ofAccount", "(LFleetYard$Account;I)I"⟩
abbrev cX11_takeMessages : ByteArray := prog_1_method_21_code
def yX11_takeMessages : MethodName := ⟨RX11, "takeMessages", "()V"⟩
abbrev cX11_deliver : ByteArray := prog_1_method_22_code
def yX11_deliver : MethodName := ⟨RX11, "deliver", "(LFleetYard$Message;)V"⟩
abbrev cX11_driveVehicles : ByteArray := prog_1_method_23_code
def yX11_driveVehicles : MethodName := ⟨RX11, "driveVehicles", "()V"⟩
def RX12 : String := "FleetYardModel"
def TX12 : u_T := fun k => match k with
  | 0 => ("FleetYardModel", "thrown", "I", false)
  | 1 => ("FleetYardModel", "tape", "[B", true)
  | 2 => ("FleetYardModel", "taped", "I", false)
  | 3 => ("FleetYardModel", "fault", "I", false)
  | 4 => ("FleetYardModel", "place", "I", false)
  | 5 => ("FleetYardModel", "lines", "I", false)
  | 6 => ("FleetYardModel", "wide", "I", false)
  | 7 => ("FleetYardModel", "kind", "[I", true)
  | 8 => ("FleetYardModel", "ofKind", "[I", true)
  | 9 => ("FleetYardModel", "stations", "I", false)
  | 10 => ("FleetYardModel", "vehicles", "I", false)
  | 11 => ("FleetYardModel", "station", "[I", true)
  | 12 => ("FleetYardModel", "parking", "[I", true)
  | 13 => ("FleetYardModel", "readLines", "I", false)
  | 14 => ("FleetYardModel", "readWide", "I", false)
  | 15 => ("FleetYardModel", "met", "[Z", true)
  | 16 => ("FleetYardModel", "waits", "[I", true)
  | 17 => ("FleetYardModel", "fateMany", "I", false)
  | 18 => ("FleetYardModel", "fate", "[I", true)
  | 19 => ("FleetYardModel", "tasks", "I", false)
  | 20 => ("FleetYardModel", "given", "I", false)
  | 21 => ("FleetYardModel", "finished", "I", false)
  | 22 => ("FleetYardModel", "from", "[I", true)
  | 23 => ("FleetYardModel", "to", "[I", true)
  | 24 => ("FleetYardModel", "whose", "[I", true)
  | 25 => ("FleetYardModel", "givenAt", "[I", true)
  | 26 => ("FleetYardModel", "finishedAt", "[I", true)
  | 27 => ("FleetYardModel", "trip", "[I", true)
  | 28 => ("FleetYardModel", "tripBegin", "[I", true)
  | 29 => ("FleetYardModel", "tripEnd", "[I", true)
  | 30 => ("FleetYardModel", "acts", "[I", true)
  | 31 => ("FleetYardModel", "actCell", "[I", true)
  | 32 => ("FleetYardModel", "actMoment", "[I", true)
  | 33 => ("FleetYardModel", "comes", "[Z", true)
  | 34 => ("FleetYardModel", "leads", "[Z", true)
  | 35 => ("FleetYardModel", "sent", "I", false)
  | 36 => ("FleetYardModel", "lost", "I", false)
  | 37 => ("FleetYardModel", "comings", "I", false)
  | 38 => ("FleetYardModel", "cTick", "[I", true)
  | 39 => ("FleetYardModel", "cMessage", "[I", true)
  | 40 => ("FleetYardModel", "cSort", "[I", true)
  | 41 => ("FleetYardModel", "cVehicle", "[I", true)
  | 42 => ("FleetYardModel", "cPlan", "[I", true)
  | 43 => ("FleetYardModel", "cAct", "[I", true)
  | 44 => ("FleetYardModel", "cCell", "[I", true)
  | 45 => ("FleetYardModel", "heard", "[Z", true)
  | 46 => ("FleetYardModel", "at", "[I", true)
  | 47 => ("FleetYardModel", "load", "[I", true)
  | 48 => ("FleetYardModel", "ownPlan", "[I", true)
  | 49 => ("FleetYardModel", "ownAct", "[I", true)
  | 50 => ("FleetYardModel", "hasGrant", "[Z", true)
  | 51 => ("FleetYardModel", "grantCell", "[I", true)
  | 52 => ("FleetYardModel", "silent", "[I", true)
  | 53 => ("FleetYardModel", "actsDone", "I", false)
  | 54 => ("FleetYardModel", "idle", "[Z", true)
  | 55 => ("FleetYardModel", "knownPlan", "[I", true)
  | 56 => ("FleetYardModel", "knownAct", "[I", true)
  | 57 => ("FleetYardModel", "plans", "[I", true)
  | 58 => ("FleetYardModel", "taskOf", "[I", true)
  | 59 => ("FleetYardModel", "granted", "[I", true)
  | 60 => ("FleetYardModel", "grantedAt", "[I", true)
  | 61 => ("FleetYardModel", "ticks", "I", false)
  | 62 => ("FleetYardModel", "waiting", "I", false)
  | 63 => ("FleetYardModel", "firstVehicle", "I", false)
  | _ => ("FleetYardModel", "firstAct", "I", false)
def tyX12 : Nat → FieldType := fun k => match k with
  | 0 => .int
  | 1 => .array .byte
  | 2 => .int
  | 3 => .int
  | 4 => .int
  | 5 => .int
  | 6 => .int
  | 7 => .array .int
  | 8 => .array .int
  | 9 => .int
  | 10 => .int
  | 11 => .array .int
  | 12 => .array .int
  | 13 => .int
  | 14 => .int
  | 15 => .array .boolean
  | 16 => .array .int
  | 17 => .int
  | 18 => .array .int
  | 19 => .int
  | 20 => .int
  | 21 => .int
  | 22 => .array .int
  | 23 => .array .int
  | 24 => .array .int
  | 25 => .array .int
  | 26 => .array .int
  | 27 => .array .int
  | 28 => .array .int
  | 29 => .array .int
  | 30 => .array .int
  | 31 => .array .int
  | 32 => .array .int
  | 33 => .array .boolean
  | 34 => .array .boolean
  | 35 => .int
  | 36 => .int
  | 37 => .int
  | 38 => .array .int
  | 39 => .array .int
  | 40 => .array .int
  | 41 => .array .int
  | 42 => .array .int
  | 43 => .array .int
  | 44 => .array .int
  | 45 => .array .boolean
  | 46 => .array .int
  | 47 => .array .int
  | 48 => .array .int
  | 49 => .array .int
  | 50 => .array .boolean
  | 51 => .array .int
  | 52 => .array .int
  | 53 => .int
  | 54 => .array .boolean
  | 55 => .array .int
  | 56 => .array .int
  | 57 => .array .int
  | 58 => .array .int
  | 59 => .array .int
  | 60 => .array .int
  | 61 => .int
  | 62 => .int
  | 63 => .int
  | _ => .int
theorem nmX12 : ∀ a, a < 65 → ∀ b, b < 65 → a ≠ b → (TX12 a).2.1 ≠ (TX12 b).2.1 := by decide +kernel
theorem tyX12_ok : ∀ k, k < 65 → parseFieldDescriptor (TX12 k).2.2.1 = some (tyX12 k) := by decide +kernel
abbrev cX12_init : ByteArray := prog_14_method_2_code
def yX12_init : MethodName := ⟨RX12, "<init>", "()V"⟩
abbrev cX12_feed : ByteArray := prog_14_method_3_code
def yX12_feed : MethodName := ⟨RX12, "feed", "(IIIII)I"⟩
abbrev cX12_put : ByteArray := prog_14_method_4_code
def yX12_put : MethodName := ⟨RX12, "put", "(I)V"⟩
abbrev cX12_back : ByteArray := prog_14_method_5_code
def yX12_back : MethodName := ⟨RX12, "back", "(I)I"⟩
abbrev cX12_sort : ByteArray := prog_14_method_6_code
def yX12_sort : MethodName := ⟨RX12, "sort", "(I)I"⟩
abbrev cX12_cuts : ByteArray := prog_14_method_7_code
def yX12_cuts : MethodName := ⟨RX12, "cuts", "(I)V"⟩
abbrev cX12_read : ByteArray := prog_14_method_8_code
def yX12_read : MethodName := ⟨RX12, "read", "()I"⟩
abbrev cX12_place : ByteArray := prog_14_method_9_code
def yX12_place : MethodName := ⟨RX12, "place", "()I"⟩
abbrev cX12_readAt : ByteArray := prog_14_method_10_code
def yX12_readAt : MethodName := ⟨RX12, "readAt", "(II)I"⟩
abbrev cX12_apart : ByteArray := prog_14_method_11_code
def yX12_apart : MethodName := ⟨RX12, "apart", "()I"⟩
abbrev cX12_neighbour : ByteArray := prog_14_method_12_code
def yX12_neighbour : MethodName := ⟨RX12, "neighbour", "(II)I"⟩
abbrev cX12_begins : ByteArray := prog_14_method_13_code
def yX12_begins : MethodName := ⟨RX12, "begins", "()V"⟩
abbrev cX12_fates : ByteArray := prog_14_method_14_code
def yX12_fates : MethodName := ⟨RX12, "fates", "(I)Z"⟩
abbrev cX12_fate : ByteArray := prog_14_method_15_code
def yX12_fate : MethodName := ⟨RX12, "fate", "(II)Z"⟩
abbrev cX12_task : ByteArray := prog_14_method_16_code
def yX12_task : MethodName := ⟨RX12, "task", "(II)I"⟩
abbrev cX12_tripAt : ByteArray := prog_14_method_17_code
def yX12_tripAt : MethodName := ⟨RX12, "tripAt", "(II)I"⟩
abbrev cX12_isClear : ByteArray := prog_14_method_18_code
def yX12_isClear : MethodName := ⟨RX12, "isClear", "(IIII)Z"⟩
abbrev cX12_leadsTo : ByteArray := prog_14_method_19_code
def yX12_leadsTo : MethodName := ⟨RX12, "leadsTo", "(IIIII)I"⟩
abbrev cX12_finds : ByteArray := prog_14_method_20_code
def yX12_finds : MethodName := ⟨RX12, "finds", "(IIII)Z"⟩
abbrev cX12_sends : ByteArray := prog_14_method_21_code
def yX12_sends : MethodName := ⟨RX12, "sends", "(IIIII)V"⟩
abbrev cX12_nextComing : ByteArray := prog_14_method_22_code
def yX12_nextComing : MethodName := ⟨RX12, "nextComing", "()I"⟩
abbrev cX12_messagesCome : ByteArray := prog_14_method_23_code
def yX12_messagesCome : MethodName := ⟨RX12, "messagesCome", "()V"⟩
abbrev cX12_granting : ByteArray := prog_14_method_24_code
def yX12_granting : MethodName := ⟨RX12, "granting", "(IIII)V"⟩
abbrev cX12_vehicleActs : ByteArray := prog_14_method_25_code
def yX12_vehicleActs : MethodName := ⟨RX12, "vehicleActs", "(I)V"⟩
abbrev cX12_reporting : ByteArray := prog_14_method_26_code
def yX12_reporting : MethodName := ⟨RX12, "reporting", "(III)V"⟩
abbrev cX12_known : ByteArray := prog_14_method_27_code
def yX12_known : MethodName := ⟨RX12, "known", "(I)I"⟩
abbrev cX12_isOver : ByteArray := prog_14_method_28_code
def yX12_isOver : MethodName := ⟨RX12, "isOver", "(II)Z"⟩
abbrev cX12_waitFor : ByteArray := prog_14_method_29_code
def yX12_waitFor : MethodName := ⟨RX12, "waitFor", "(I)V"⟩
abbrev cX12_baseActs : ByteArray := prog_14_method_30_code
def yX12_baseActs : MethodName := ⟨RX12, "baseActs", "()I"⟩
abbrev cX12_grants : ByteArray := prog_14_method_31_code
def yX12_grants : MethodName := ⟨RX12, "grants", "(I)V"⟩
abbrev cX12_run : ByteArray := prog_14_method_32_code
def yX12_run : MethodName := ⟨RX12, "run", "(I)I"⟩
abbrev cX12_cell : ByteArray := prog_14_method_33_code
def yX12_cell : MethodName := ⟨RX12, "cell", "(II)I"⟩
abbrev cX12_vehicle : ByteArray := prog_14_method_34_code
def yX12_vehicle : MethodName := ⟨RX12, "vehicle", "(II)I"⟩
abbrev cX12_trip : ByteArray := prog_14_method_35_code
def yX12_trip : MethodName := ⟨RX12, "trip", "(II)I"⟩
abbrev cX12_plan : ByteArray := prog_14_method_36_code
def yX12_plan : MethodName := ⟨RX12, "plan", "(III)I"⟩
abbrev cX12_told : ByteArray := prog_14_method_37_code
def yX12_told : MethodName := ⟨RX12, "told", "(II)I"⟩
abbrev cX12_count : ByteArray := prog_14_method_38_code
def yX12_count : MethodName := ⟨RX12, "count", "(I)I"⟩
def RJ9 : String := "java/lang/Math"
def TJ9 : u_T := fun k => match k with
  | _ => ("", "", "", false)
def tyJ9 : Nat → FieldType := fun k => match k with
  | _ => .int
theorem nmJ9 : ∀ a, a < 0 → ∀ b, b < 0 → a ≠ b → (TJ9 a).2.1 ≠ (TJ9 b).2.1 := by decide +kernel
theorem tyJ9_ok : ∀ k, k < 0 → parseFieldDescriptor (TJ9 k).2.2.1 = some (tyJ9 k) := by decide +kernel
abbrev cJ9_min_7cf53 : ByteArray := prog_15_method_69_code
def yJ9_min_7cf53 : MethodName := ⟨RJ9, "min", "(II)I"⟩
def RJ7 : String := "java/util/Arrays"
def TJ7 : u_T := fun k => match k with
  | _ => ("", "", "", false)
def tyJ7 : Nat → FieldType := fun k => match k with
  | _ => .int
theorem nmJ7 : ∀ a, a < 0 → ∀ b, b < 0 → a ≠ b → (TJ7 a).2.1 ≠ (TJ7 b).2.1 := by decide +kernel
theorem tyJ7_ok : ∀ k, k < 0 → parseFieldDescriptor (TJ7 k).2.2.1 = some (tyJ7 k) := by decide +kernel
abbrev cJ7_fill_53178 : ByteArray := prog_16_method_103_code
def yJ7_fill_53178 : MethodName := ⟨RJ7, "fill", "([II)V"⟩
def RL : String := "FleetYardLaw"
abbrev cL_law : ByteArray := code
def yL_law : MethodName := ⟨RL, "law", "([I)Z"⟩
abbrev vwCl : List vw_C := [(RX0, TX0, 7), (RX1, TX1, 5), (RX2, TX2, 5), (RX3, TX3, 7), (RX4, TX4, 14), (RX5, TX5, 6), (RX6, TX6, 9), (RX7, TX7, 2), (RX8, TX8, 8), (RX9, TX9, 6), (RX10, TX10, 9), (RX11, TX11, 11), (RX12, TX12, 65)]
end
section
def zALl : List (Nat × Int) := [(1, 0), (2, 0), (3, 0), (4, 0), (5, 0), (6, 0), (7, 0), (8, 0), (9, 0), (10, 0), (10, 1), (10, 2), (10, 3), (10, 4), (10, 5), (10, 6), (10, 7), (10, 8), (10, 9), (10, 10), (10, 11), (10, 12), (10, 13), (10, 14), (10, 15), (10, 16), (10, 17), (10, 18), (10, 19), (10, 20), (10, 21), (10, 22), (10, 23), (10, 24), (10, 25), (10, 26), (10, 27), (10, 28), (10, 29), (10, 30), (10, 31), (10, 32), (10, 33), (10, 34), (10, 35), (10, 36), (10, 37), (10, 38), (10, 39), (10, 40), (10, 41), (10, 42), (10, 43), (10, 44), (10, 45), (10, 46), (10, 47), (10, 48), (10, 49), (10, 50), (10, 51), (10, 52), (10, 53), (10, 54), (10, 55), (10, 56), (10, 57), (10, 58), (10, 59), (10, 60), (10, 61), (10, 62), (10, 63), (11, 0), (12, 0), (13, 0), (14, 0), (15, 0), (16, 0), (17, 0), (18, 0), (19, 0), (20, 0), (21, 0), (22, 0), (23, 0), (23, 1), (24, 0), (25, 0), (26, 0), (27, 0), (28, 0), (24, 1), (25, 1), (26, 1), (27, 1), (28, 1), (24, 2), (25, 2), (26, 2), (27, 2), (28, 2), (24, 3), (25, 3), (26, 3), (27, 3), (28, 3), (24, 4), (25, 4), (26, 4), (27, 4), (28, 4), (24, 5), (25, 5), (26, 5), (27, 5), (28, 5), (29, 0), (30, 0), (31, 0), (32, 0), (33, 0), (34, 0), (35, 0), (30, 1), (31, 1), (32, 1), (33, 1), (34, 1), (35, 1), (36, 0), (36, 1), (36, 2), (36, 3), (36, 4), (36, 5), (37, 0), (38, 0), (39, 0), (40, 0), (41, 0), (42, 0), (43, 0), (44, 0), (45, 0), (46, 0), (47, 0), (48, 0), (49, 0), (50, 0), (51, 0), (52, 0), (53, 0), (54, 0), (55, 0), (56, 0), (57, 0), (58, 0), (59, 0), (60, 0), (61, 0), (62, 0), (63, 0), (64, 0), (65, 0), (66, 0), (67, 0), (68, 0), (69, 0), (70, 0), (71, 0), (72, 0), (73, 0), (74, 0), (75, 0), (76, 0), (77, 0), (78, 0), (79, 0), (80, 0)]
def zAL (i : Nat) : Nat × Int := zALl.getD i (0, 0)
def zTOT : Nat := 180
def zObl : List Nat := [999, 0, 1, 2, 3, 4, 5, 6, 7, 8, 9, 73, 74, 75, 76, 77, 78, 79, 80, 81, 82, 83, 84, 85, 87, 88, 89, 90, 91, 117, 118, 119, 120, 121, 122, 123, 130, 136, 137, 138, 139, 140, 141, 142, 143, 144, 145, 146, 147, 148, 149, 150, 151, 152, 153, 154, 155, 156, 157, 158, 159, 160, 161, 162, 163, 164, 165, 166, 167, 168, 169, 170, 171, 172, 173, 174, 175, 176, 177, 178, 179]
def zOsl : List Nat := [0, 999, 999, 999, 999, 999, 999, 999, 999, 999, 1, 999, 999, 999, 999, 999, 999, 999, 999, 999, 999, 999, 999, 1, 5, 5, 5, 5, 5, 999, 6, 6, 6, 6, 6, 6, 1, 999, 999, 999, 999, 999, 999, 999, 999, 999, 999, 999, 999, 999, 999, 999, 999, 999, 999, 999, 999, 999, 999, 999, 999, 999, 999, 999, 999, 999, 999, 999, 999, 999, 999, 999, 999, 999, 999, 999, 999, 999, 999, 999, 999]
def zOff (k : Nat) (j : Int) : Nat := zObl.getD k 999 + zOsl.getD k 0 * j.toNat
def zShl : List (Nat ⊕ (Nat × Nat)) := [.inr (9, 0), .inl 11, .inl 7, .inr (1, 400), .inl 2, .inr (0, 256), .inr (0, 256), .inl 5, .inr (0, 64), .inr (4, 64), .inl 3, .inl 8, .inr (0, 60), .inr (0, 60), .inr (0, 60), .inr (0, 60), .inr (0, 60), .inl 1, .inr (3, 6), .inl 4, .inr (0, 14448), .inr (0, 16), .inr (0, 48), .inr (0, 16), .inl 0, .inl 6, .inr (0, 301), .inr (0, 301), .inr (0, 301), .inr (5, 6), .inl 10, .inr (0, 256), .inr (0, 256), .inr (0, 1024), .inr (0, 10), .inr (0, 6), .inl 9, .inl 12, .inr (1, 400), .inr (0, 512), .inr (0, 256), .inr (0, 256), .inr (0, 256), .inr (2, 256), .inr (0, 256), .inr (0, 64), .inr (0, 60), .inr (0, 60), .inr (0, 60), .inr (0, 60), .inr (0, 60), .inr (0, 1806), .inr (0, 6), .inr (0, 6), .inr (0, 6), .inr (0, 1806), .inr (0, 1806), .inr (2, 231168), .inr (2, 231168), .inr (0, 400), .inr (0, 400), .inr (0, 400), .inr (0, 400), .inr (0, 400), .inr (0, 400), .inr (0, 400), .inr (2, 6), .inr (0, 6), .inr (0, 6), .inr (0, 6), .inr (0, 6), .inr (2, 6), .inr (0, 6), .inr (0, 6), .inr (2, 6), .inr (0, 6), .inr (0, 6), .inr (0, 6), .inr (0, 6), .inr (0, 6), .inr (0, 6)]
def zSh (k : Nat) : Nat ⊕ (Nat × Nat) := zShl.getD k (.inr (9, 0))
/-- which fields of a kind of object hold references -/
def zRFl : List (List Bool) := [[true, false, false, false, false, false, false], [true, true, false, false, false], [true, true, false, false, false], [false, false, false, false, false, false, false], [true, true, true, true, true, true, true, false, false, false, false, false, false, false], [true, true, false, false, false, false], [true, true, true, false, false, false, false, false, false], [true, false], [true, true, true, true, true, false, false, false], [false, false, false, false, false, false], [true, true, true, true, true, false, false, false, false], [true, true, true, true, true, true, true, true, false, false, false], [false, true, false, false, false, false, false, true, true, false, false, true, true, false, false, true, true, false, true, false, false, false, true, true, true, true, true, true, true, true, true, true, true, true, true, false, false, false, true, true, true, true, true, true, true, true, true, true, true, true, true, true, true, false, true, true, true, true, true, true, true, false, false, false, false]]
def zRF (c s : Nat) : Bool := (zRFl.getD c []).getD s false
def zNF (c : Nat) : Nat := (zRFl.getD c []).length
theorem zTab : ∀ i, i < zTOT → zOff (zAL i).1 (zAL i).2 = i := by decide +kernel
theorem zSh_1 : zSh 1 = .inl 11 := rfl
theorem zSh_2 : zSh 2 = .inl 7 := rfl
theorem zSh_3 : zSh 3 = .inr (1, 400) := rfl
theorem zSh_4 : zSh 4 = .inl 2 := rfl
theorem zSh_5 : zSh 5 = .inr (0, 256) := rfl
theorem zSh_6 : zSh 6 = .inr (0, 256) := rfl
theorem zSh_7 : zSh 7 = .inl 5 := rfl
theorem zSh_8 : zSh 8 = .inr (0, 64) := rfl
theorem zSh_9 : zSh 9 = .inr (4, 64) := rfl
theorem zSh_10 : zSh 10 = .inl 3 := rfl
theorem zSh_11 : zSh 11 = .inl 8 := rfl
theorem zSh_12 : zSh 12 = .inr (0, 60) := rfl
theorem zSh_13 : zSh 13 = .inr (0, 60) := rfl
theorem zSh_14 : zSh 14 = .inr (0, 60) := rfl
theorem zSh_15 : zSh 15 = .inr (0, 60) := rfl
theorem zSh_16 : zSh 16 = .inr (0, 60) := rfl
theorem zSh_17 : zSh 17 = .inl 1 := rfl
theorem zSh_18 : zSh 18 = .inr (3, 6) := rfl
theorem zSh_19 : zSh 19 = .inl 4 := rfl
theorem zSh_20 : zSh 20 = .inr (0, 14448) := rfl
theorem zSh_21 : zSh 21 = .inr (0, 16) := rfl
theorem zSh_22 : zSh 22 = .inr (0, 48) := rfl
theorem zSh_23 : zSh 23 = .inr (0, 16) := rfl
theorem zSh_24 : zSh 24 = .inl 0 := rfl
theorem zSh_25 : zSh 25 = .inl 6 := rfl
theorem zSh_26 : zSh 26 = .inr (0, 301) := rfl
theorem zSh_27 : zSh 27 = .inr (0, 301) := rfl
theorem zSh_28 : zSh 28 = .inr (0, 301) := rfl
theorem zSh_29 : zSh 29 = .inr (5, 6) := rfl
theorem zSh_30 : zSh 30 = .inl 10 := rfl
theorem zSh_31 : zSh 31 = .inr (0, 256) := rfl
theorem zSh_32 : zSh 32 = .inr (0, 256) := rfl
theorem zSh_33 : zSh 33 = .inr (0, 1024) := rfl
theorem zSh_34 : zSh 34 = .inr (0, 10) := rfl
theorem zSh_35 : zSh 35 = .inr (0, 6) := rfl
theorem zSh_36 : zSh 36 = .inl 9 := rfl
theorem zSh_37 : zSh 37 = .inl 12 := rfl
theorem zSh_38 : zSh 38 = .inr (1, 400) := rfl
theorem zSh_39 : zSh 39 = .inr (0, 512) := rfl
theorem zSh_40 : zSh 40 = .inr (0, 256) := rfl
theorem zSh_41 : zSh 41 = .inr (0, 256) := rfl
theorem zSh_42 : zSh 42 = .inr (0, 256) := rfl
theorem zSh_43 : zSh 43 = .inr (2, 256) := rfl
theorem zSh_44 : zSh 44 = .inr (0, 256) := rfl
theorem zSh_45 : zSh 45 = .inr (0, 64) := rfl
theorem zSh_46 : zSh 46 = .inr (0, 60) := rfl
theorem zSh_47 : zSh 47 = .inr (0, 60) := rfl
theorem zSh_48 : zSh 48 = .inr (0, 60) := rfl
theorem zSh_49 : zSh 49 = .inr (0, 60) := rfl
theorem zSh_50 : zSh 50 = .inr (0, 60) := rfl
theorem zSh_51 : zSh 51 = .inr (0, 1806) := rfl
theorem zSh_52 : zSh 52 = .inr (0, 6) := rfl
theorem zSh_53 : zSh 53 = .inr (0, 6) := rfl
theorem zSh_54 : zSh 54 = .inr (0, 6) := rfl
theorem zSh_55 : zSh 55 = .inr (0, 1806) := rfl
theorem zSh_56 : zSh 56 = .inr (0, 1806) := rfl
theorem zSh_57 : zSh 57 = .inr (2, 231168) := rfl
theorem zSh_58 : zSh 58 = .inr (2, 231168) := rfl
theorem zSh_59 : zSh 59 = .inr (0, 400) := rfl
theorem zSh_60 : zSh 60 = .inr (0, 400) := rfl
theorem zSh_61 : zSh 61 = .inr (0, 400) := rfl
theorem zSh_62 : zSh 62 = .inr (0, 400) := rfl
theorem zSh_63 : zSh 63 = .inr (0, 400) := rfl
theorem zSh_64 : zSh 64 = .inr (0, 400) := rfl
theorem zSh_65 : zSh 65 = .inr (0, 400) := rfl
theorem zSh_66 : zSh 66 = .inr (2, 6) := rfl
theorem zSh_67 : zSh 67 = .inr (0, 6) := rfl
theorem zSh_68 : zSh 68 = .inr (0, 6) := rfl
theorem zSh_69 : zSh 69 = .inr (0, 6) := rfl
theorem zSh_70 : zSh 70 = .inr (0, 6) := rfl
theorem zSh_71 : zSh 71 = .inr (2, 6) := rfl
theorem zSh_72 : zSh 72 = .inr (0, 6) := rfl
theorem zSh_73 : zSh 73 = .inr (0, 6) := rfl
theorem zSh_74 : zSh 74 = .inr (2, 6) := rfl
theorem zSh_75 : zSh 75 = .inr (0, 6) := rfl
theorem zSh_76 : zSh 76 = .inr (0, 6) := rfl
theorem zSh_77 : zSh 77 = .inr (0, 6) := rfl
theorem zSh_78 : zSh 78 = .inr (0, 6) := rfl
theorem zSh_79 : zSh 79 = .inr (0, 6) := rfl
theorem zSh_80 : zSh 80 = .inr (0, 6) := rfl
end
section
/-! A logic of its own over the kit's W: states are (locals, stack, ints, references) over named cells (kind, number); ints are Int -/
def zNests : List Cond := [.methodLinkNest RX11 11 yX7_init RX11, .methodLinkNest RX11 18 yX2_init RX11, .methodLinkNest RX5 23 yX3_init RX11, .methodLinkNest RX11 32 yX8_init RX11, .methodLinkNest RX1 19 yX4_init RX11, .methodLinkNest RX1 31 yX0_init RX11, .methodLinkNest RX0 11 yX6_init RX11, .methodLinkNest RX11 52 yX10_init RX11, .methodLinkNest RX11 64 yX9_init RX11, .arrayOver (.object RX0), .arrayOver (.object RX3), .arrayOver (.object RX9)]
def zTg : List Cond := lw_tbl.filter goodWord
def zTb : List Cond := zTg ++ zNests
abbrev zV : Type := Int ⊕ Option (Nat × Int)
abbrev zI : Type := Nat → Int → Int → Int
abbrev zR : Type := Nat → Int → Int → Option (Nat × Int)
abbrev zM : Type := MethodName × ByteArray × Nat × Option FieldType × Nat × Nat × Nat × Nat
def zNm (y : zM) : MethodName := y.1
def zBy (y : zM) : ByteArray := y.2.1
def zMx (y : zM) : Nat := y.2.2.1
def zRt (y : zM) : Option FieldType := y.2.2.2.1
def zFr (y : zM) : Nat := y.2.2.2.2.1
def zLo (y : zM) : Nat := y.2.2.2.2.2.1
def zMc (y : zM) : Nat := y.2.2.2.2.2.2.1
def zMs (y : zM) : Nat := y.2.2.2.2.2.2.2
abbrev zInR (x : Int) : Prop := -2147483648 ≤ x ∧ x < 2147483648
theorem z_bmod {z : Int} (h : zInR z) : z.bmod (2 ^ 32) = z := by
  obtain ⟨h1, h2⟩ := h
  rw [Int.bmod_eq_of_le (by omega) (by omega)]
theorem z_ofI {z : Int} (h : zInR z) : (Int32.ofInt z).toInt = z := by rw [Int32.toInt_ofInt, z_bmod h]
theorem z_toI (x : Int32) : zInR x.toInt := by
  have h1 := Int32.le_toInt x
  have h2 := Int32.toInt_lt x
  exact ⟨by omega, by omega⟩
theorem z_lt {a b : Int} (ha : zInR a) (hb : zInR b) : Int32.ofInt a < Int32.ofInt b ↔ a < b := by rw [Int32.lt_iff_toInt_lt, z_ofI ha, z_ofI hb]
theorem z_le {a b : Int} (ha : zInR a) (hb : zInR b) : Int32.ofInt a ≤ Int32.ofInt b ↔ a ≤ b := by rw [Int32.le_iff_toInt_le, z_ofI ha, z_ofI hb]
theorem z_eq {a b : Int} (ha : zInR a) (hb : zInR b) : Int32.ofInt a = Int32.ofInt b ↔ a = b := by rw [← Int32.toInt_inj, z_ofI ha, z_ofI hb]
theorem z_0 : (0 : Int32) = Int32.ofInt 0 := rfl
theorem z_in {x : Int} {n : Nat} (h : zInR x) (h0 : 0 ≤ x) (h1 : x < n) : vp_in (Int32.ofInt x) n := by
  rw [vp_in_iff, z_ofI h]; exact ⟨h0, h1⟩
theorem z_cl {x : Int} (h : zInR x) (h0 : 0 ≤ x) : (((Int32.ofInt x).toNatClampNeg : Nat) : Int) = x := by
  show ((Int32.ofInt x).toInt.toNat : Int) = x
  rw [z_ofI h]; omega
def zA (B : Nat) (q : Nat × Int) : Nat := B + zOff q.1 q.2
def zv (B : Nat) (v : zV) : Value := match v with
  | .inl x => .int (Int32.ofInt x)
  | .inr none => .null
  | .inr (some q) => .ref (zA B q)
theorem zv_cat (B : Nat) (v : zV) : (zv B v).category = 1 := by
  rcases v with x | _ | q <;> rfl
def zf (B : Nat) (o : Option (Nat × Int)) : Option Nat := o.map (zA B)
theorem zf_rf (B : Nat) (o : Option (Nat × Int)) : va_rf (zf B o) = zv B (.inr o) := by cases o <;> rfl
def zFs (B : Nat) (hi : zI) (hr : zR) (q : Nat × Int) (c : Nat) : List Value := (List.range (zNF c)).map (fun s => if zRF c s then va_rf (zf B (hr q.1 q.2 (s : Int))) else .int (Int32.ofInt (hi q.1 q.2 (s : Int))))
def zE (B : Nat) (cy : Nat → ClassId) (hi : zI) (hr : zR) (q : Nat × Int) : va_E := match zSh q.1 with
  | .inl c => .inr (c, zFs B hi hr q c)
  | .inr (t, n) => .inl (cy t, n, if t < 3 then .inl (fun s => Int32.ofInt (hi q.1 q.2 (s : Int))) else .inr (.inr (.inr (.inr (fun s => zf B (hr q.1 q.2 (s : Int)))))))
def zW (B : Nat) (cy : Nat → ClassId) (n : Nat) (hi : zI) (hr : zR) : va_W := (List.range n).map (fun i => (B + i, zE B cy hi hr (zAL i)))
theorem zW_get {B : Nat} {cy : Nat → ClassId} {n : Nat} {hi : zI} {hr : zR} {i : Nat} (h : i < n) : (zW B cy n hi hr)[i]? = some (B + i, zE B cy hi hr (zAL i)) := by simp [zW, h]
theorem zW_inv {B : Nat} {cy : Nat → ClassId} {n : Nat} {hi : zI} {hr : zR} {i : Nat} {q : Nat × va_E} (h : (zW B cy n hi hr)[i]? = some q) : i < n ∧ q = (B + i, zE B cy hi hr (zAL i)) := by
  by_cases hi' : i < n
  · rw [zW_get hi'] at h
    exact ⟨hi', (Option.some.inj h).symm⟩
  · simp [zW, hi'] at h
theorem zW_D {B : Nat} {cy : Nat → ClassId} {n : Nat} {hi : zI} {hr : zR} : va_D (fun q => B ≤ q) (zW B cy n hi hr) := by
  refine ⟨fun i j p q hp hq e => ?_, fun k q hk => ?_⟩
  · obtain ⟨-, rfl⟩ := zW_inv hp
    obtain ⟨-, rfl⟩ := zW_inv hq
    exact Nat.add_left_cancel e
  · obtain ⟨-, rfl⟩ := zW_inv hk
    exact Nat.le_add_right _ _
theorem zW_set {B : Nat} {cy : Nat → ClassId} {n : Nat} {hi hi' : zI} {hr hr' : zR} (hn : n ≤ zTOT) {i0 : Nat} (h0 : i0 < n) {q : Nat × Int} (hq : zAL i0 = q) {e' : va_E} (he : e' = zE B cy hi' hr' q)
    (ho : ∀ q', q' ≠ q → zE B cy hi' hr' q' = zE B cy hi hr q') : (zW B cy n hi hr).set i0 (B + i0, e') = zW B cy n hi' hr' := by
  apply List.ext_getElem?
  intro k
  by_cases hkn : k < n
  · by_cases hk : i0 = k
    · subst hk
      rw [List.getElem?_set_self (by simp [zW]; exact hkn), zW_get hkn, he, hq]
    · rw [List.getElem?_set_ne hk, zW_get hkn, zW_get hkn, ho]
      intro e
      apply hk
      have h1 := zTab k (Nat.lt_of_lt_of_le hkn hn)
      have h2 := zTab i0 (Nat.lt_of_lt_of_le h0 hn)
      rw [← h1, ← h2, e, hq]
  · have h1 : ∀ (a b : zI × zR), (zW B cy n a.1 a.2).length ≤ k := fun a b => by simp [zW]; omega
    rw [List.getElem?_eq_none (by rw [List.length_set]; exact h1 (hi, hr) (hi, hr)), List.getElem?_eq_none (h1 (hi', hr') (hi', hr'))]
def zval (n : Nat) (q : Nat × Int) : Prop := zOff q.1 q.2 < n ∧ zAL (zOff q.1 q.2) = q
theorem zval_mono {n n' : Nat} (h : n ≤ n') {q : Nat × Int} (hq : zval n q) : zval n' q := ⟨Nat.lt_of_lt_of_le hq.1 h, hq.2⟩
def zok (n : Nat) (v : zV) : Prop := match v with
  | .inl x => zInR x
  | .inr none => True
  | .inr (some q) => zval n q
theorem zok_mono {n n' : Nat} (h : n ≤ n') {v : zV} (hv : zok n v) : zok n' v := by
  rcases v with x | _ | q
  · exact hv
  · exact trivial
  · exact zval_mono h hv
def zokH (n : Nat) (hi : zI) (hr : zR) : Prop := (∀ k j s, zInR (hi k j s)) ∧ ∀ k j s q, hr k j s = some q → zval n q
theorem zokH_r {n : Nat} {hi : zI} {hr : zR} (h : zokH n hi hr) (k : Nat) (j s : Int) : zok n (.inr (hr k j s)) := by
  cases e : hr k j s with
  | none => exact trivial
  | some q => exact h.2 k j s q e
def zlv (B : Nat) (ls : List (Option zV)) : List (Nat × Value) := (List.range ls.length).filterMap (fun i => (ls[i]?.join).map (fun v => (i, zv B v)))
theorem zlv_mem {B : Nat} {ls : List (Option zV)} {q : Nat × Value} : q ∈ zlv B ls ↔ ∃ v, ls[q.1]? = some (some v) ∧ q.2 = zv B v := by
  rw [zlv, List.mem_filterMap]
  constructor
  · rintro ⟨i, -, h⟩
    cases hj : ls[i]?.join with
    | none => rw [hj] at h; simp at h
    | some v =>
      rw [hj] at h
      simp at h
      subst h
      refine ⟨v, ?_, rfl⟩
      show ls[i]? = some (some v)
      rcases h9 : ls[i]? with _ | _ | w
      · rw [h9] at hj; simp at hj
      · rw [h9] at hj; simp at hj
      · rw [h9] at hj; simp at hj; rw [hj]
  · rintro ⟨v, h, e⟩
    obtain ⟨i, w⟩ := q
    simp only at h e
    subst e
    refine ⟨i, ?_, ?_⟩
    · rw [List.mem_range]
      exact (List.getElem?_eq_some_iff.mp h).1
    · simp [h]
def zLs (n B mx : Nat) (ls : List (Option zV)) (lsr : Array Slot) : Prop := ls.length = mx ∧ lv_has lsr mx (zlv B ls) ∧ ∀ (i : Nat) (v : zV), ls[i]? = some (some v) → zok n v
theorem zLs.at {n B mx : Nat} {ls : List (Option zV)} {lsr : Array Slot} (h : zLs n B mx ls lsr) {i : Nat} {v : zV} (hi : ls[i]? = some (some v)) : lsr[i]? = some (.val (zv B v)) :=
  h.2.1.2.2 (i, zv B v) (zlv_mem.mpr ⟨v, hi, rfl⟩)
theorem zLs.mono {n n' B mx : Nat} {ls : List (Option zV)} {lsr : Array Slot} (h : zLs n B mx ls lsr) (hn : n ≤ n') : zLs n' B mx ls lsr := ⟨h.1, h.2.1, fun i v hv => zok_mono hn (h.2.2 i v hv)⟩
theorem zLs.put {n B mx : Nat} {ls : List (Option zV)} {lsr ls' : Array Slot} (h : zLs n B mx ls lsr) {i : Nat} {v : zV} (hv : zok n v)
    (h' : lv_has ls' mx ((i, zv B v) :: (zlv B ls).filter (fun q => !(q.1 == i) && !(q.1 + 1 == i && q.2.category == 2)))) : zLs n B mx (ls.set i (some v)) ls' := by
  refine ⟨by rw [List.length_set]; exact h.1, ⟨h'.1, h'.2.1, fun q hq => h'.2.2 q ?_⟩, fun k w hw => ?_⟩
  · obtain ⟨w, h1, h2⟩ := zlv_mem.mp hq
    by_cases e : i = q.1
    · subst e
      have hl : q.1 < ls.length := by
        have := (List.getElem?_eq_some_iff.mp h1).1
        rwa [List.length_set] at this
      rw [List.getElem?_set_self hl] at h1
      cases h1
      rw [← h2]
      exact List.mem_cons_self
    · rw [List.getElem?_set_ne e] at h1
      refine List.mem_cons_of_mem _ (List.mem_filter.mpr ⟨zlv_mem.mpr ⟨w, h1, h2⟩, ?_⟩)
      rw [h2, zv_cat]
      simp
      exact fun e2 => e e2.symm
  · by_cases e : i = k
    · subst e
      have hl : i < ls.length := by
        have := (List.getElem?_eq_some_iff.mp hw).1
        rwa [List.length_set] at this
      rw [List.getElem?_set_self hl] at hw
      cases hw
      exact hv
    · rw [List.getElem?_set_ne e] at hw
      exact h.2.2 k w hw
def zTys (cy : Nat → ClassId) : List (ClassId × FieldType) := [(cy 0, .int), (cy 1, .byte), (cy 2, .boolean), (cy 3, .object RX0), (cy 4, .object RX3), (cy 5, .object RX9)]
def zRm (y : zM) : Room := { frames := zFr y, cells := zMc y, slots := zMs y, locals := zLo y }
def zWs (y : zM) : List Cond := Cond.code (zNm y) (zBy y) (zMx y) (zRt y) :: zTg
abbrev zQ : Type := Option zV → Nat → zI → zR → Prop
def zQc (B : Nat) (cy : Nat → ClassId) (D : va_G) (mc : Nat) (Q : zQ) : Array Value → State → Outcome → State → Prop := fun _ st o t =>
  (∃ (r : Option zV) (n : Nat) (hi : zI) (hr : zR), o = .returned (r.map (zv B)) ∧ Q r n hi hr ∧ (∀ v, r = some v → zok n v) ∧ zokH n hi hr ∧ n ≤ zTOT ∧ B + n = st.heap.size + mc ∧ va_P D vwCl (zW B cy n hi hr) t.heap) ∧ va_F (fun q => B ≤ q) st t
def zCt (y : zM) (D : va_G) (cy : Nat → ClassId) (p : Program) (s : State) (m : MethodId) (args : Array Value) (meth : Method) (c : Code) : Prop :=
  p.tables.exec = Jvm.exec ∧ c.code = zBy y ∧ meth.sig.returnType = zRt y ∧ c.maxLocals = zMx y ∧ s.vm.findClass (zNm y).cls = some m.cls ∧ (∀ w ∈ zTb, w.before args s = true) ∧ meth.locks = false ∧ meth.name = (zNm y).name ∧ va_K D vwCl (zTys cy) s
def zG (y : zM) (n ac av : Nat) (hi : zI) (hr : zR) (s : State) (H : Heap) (locs : List Loc) (cells slots : Nat) (D : va_G) (cy : Nat → ClassId) (B : Nat) : Prop :=
  zokH n hi hr ∧ n ≤ zTOT ∧ B + n = s.heap.size + cells ∧ va_P D vwCl (zW B cy n hi hr) H ∧ B ≤ s.heap.size ∧ va_S (fun q => B ≤ q) s.heap H locs ∧ cells + ac = zMc y ∧ slots + av = zMs y
def VP (y : zM) (pc : Nat) (ls : List (Option zV)) (st : List zV) (n ac av : Nat) (hi : zI) (hr : zR) (Q : zQ) : Prop :=
  ∀ (p : Program) (l : Launch) (e : Env) (s : State) (m : MethodId) (args : Array Value) (below : List Frame) (meth : Method) (c : Code) (H : Heap) (locs : List Loc) (cells slots : Nat) (D : va_G) (cy : Nat → ClassId) (B : Nat) (lsr : Array Slot),
    zCt y D cy p s m args meth c → zLs n B (zMx y) ls lsr → (∀ v ∈ st, zok n v) → zG y n ac av hi hr s H locs cells slots D cy B →
    W p l e (zRm y) s m args below meth c H locs cells slots (MQ below (zQc B cy D (zMc y) Q) args s (zMc y) (zMs y) (fun q => B ≤ q)) (F0 m pc lsr (st.map (zv B)))
theorem zok_cons {n : Nat} {v : zV} {st : List zV} (h : zok n v) (hs : ∀ w ∈ st, zok n w) : ∀ w ∈ v :: st, zok n w := List.forall_mem_cons.mpr ⟨h, hs⟩
section ZR
variable {y : zM} {pc : Nat} {ls : List (Option zV)} {st : List zV} {n ac av : Nat} {hi : zI} {hr : zR} {Q : zQ}
theorem VP.iconst {x : Int} (hd : decode (zBy y) pc = .ok (.iconst x, 1)) (hx : zInR x) (k : VP y (pc + 1) ls (.inl x :: st) n ac av hi hr Q) : VP y pc ls st n ac av hi hr Q := by
  intro p l e s m args below meth c H locs cells slots D cy B lsr C L S G
  exact lv_iconst C.1 C.2.1 hd rfl (k p l e s m args below meth c H locs cells slots D cy B lsr C L (zok_cons hx S) G)
theorem VP.bipush {x : Int} (hd : decode (zBy y) pc = .ok (.bipush x, 2)) (hx : (Int8.ofInt x).toInt32 = Int32.ofInt x ∧ zInR x) (k : VP y (pc + 2) ls (.inl x :: st) n ac av hi hr Q) : VP y pc ls st n ac av hi hr Q := by
  intro p l e s m args below meth c H locs cells slots D cy B lsr C L S G
  exact lv_bipush C.1 C.2.1 hd hx.1 (k p l e s m args below meth c H locs cells slots D cy B lsr C L (zok_cons hx.2 S) G)
theorem VP.sipush {x : Int} (hd : decode (zBy y) pc = .ok (.sipush x, 3)) (hx : (Int16.ofInt x).toInt32 = Int32.ofInt x ∧ zInR x) (k : VP y (pc + 3) ls (.inl x :: st) n ac av hi hr Q) : VP y pc ls st n ac av hi hr Q := by
  intro p l e s m args below meth c H locs cells slots D cy B lsr C L S G
  exact lv_sipush C.1 C.2.1 hd hx.1 (k p l e s m args below meth c H locs cells slots D cy B lsr C L (zok_cons hx.2 S) G)
theorem VP.ldc {x : Int} {index : Nat} (hc : Cond.constant (zNm y).cls index (Int32.ofInt x) ∈ zTb) (hd : decode (zBy y) pc = .ok (.ldc index, 2)) (hx : zInR x) (k : VP y (pc + 2) ls (.inl x :: st) n ac av hi hr Q) : VP y pc ls st n ac av hi hr Q := by
  intro p l e s m args below meth c H locs cells slots D cy B lsr C L S G
  exact lv_ldc C.1 C.2.1 C.2.2.2.2.1 (C.2.2.2.2.2.1 _ hc) hd (k p l e s m args below meth c H locs cells slots D cy B lsr C L (zok_cons hx S) G)
theorem VP.null (hd : decode (zBy y) pc = .ok (.aconst_null, 1)) (k : VP y (pc + 1) ls (.inr none :: st) n ac av hi hr Q) : VP y pc ls st n ac av hi hr Q := by
  intro p l e s m args below meth c H locs cells slots D cy B lsr C L S G
  exact lv_null C.1 C.2.1 hd (k p l e s m args below meth c H locs cells slots D cy B lsr C L (zok_cons trivial S) G)
theorem VP.iload_n {i : Fin 4} {x : Int} (hd : decode (zBy y) pc = .ok (.iload_n i, 1)) (hl : ls[(i : Nat)]? = some (some (.inl x))) (k : VP y (pc + 1) ls (.inl x :: st) n ac av hi hr Q) : VP y pc ls st n ac av hi hr Q := by
  intro p l e s m args below meth c H locs cells slots D cy B lsr C L S G
  exact lv_iload_n C.1 C.2.1 hd rfl (L.at hl) (k p l e s m args below meth c H locs cells slots D cy B lsr C L (zok_cons (L.2.2 _ _ hl) S) G)
theorem VP.iload {i : Nat} {x : Int} (hd : decode (zBy y) pc = .ok (.iload i, 2)) (hl : ls[i]? = some (some (.inl x))) (k : VP y (pc + 2) ls (.inl x :: st) n ac av hi hr Q) : VP y pc ls st n ac av hi hr Q := by
  intro p l e s m args below meth c H locs cells slots D cy B lsr C L S G
  exact lv_iload C.1 C.2.1 hd (L.at hl) (k p l e s m args below meth c H locs cells slots D cy B lsr C L (zok_cons (L.2.2 _ _ hl) S) G)
theorem VP.aload_n {i : Fin 4} {o : Option (Nat × Int)} (hd : decode (zBy y) pc = .ok (.aload_n i, 1)) (hl : ls[(i : Nat)]? = some (some (.inr o))) (k : VP y (pc + 1) ls (.inr o :: st) n ac av hi hr Q) : VP y pc ls st n ac av hi hr Q := by
  intro p l e s m args below meth c H locs cells slots D cy B lsr C L S G
  have K := k p l e s m args below meth c H locs cells slots D cy B lsr C L (zok_cons (L.2.2 _ _ hl) S) G
  cases o with
  | none => exact lv_aload_nN C.1 C.2.1 hd rfl (L.at hl) K
  | some q => exact lv_aload_n C.1 C.2.1 hd rfl (L.at hl) K
theorem VP.aload {i : Nat} {o : Option (Nat × Int)} (hd : decode (zBy y) pc = .ok (.aload i, 2)) (hl : ls[i]? = some (some (.inr o))) (k : VP y (pc + 2) ls (.inr o :: st) n ac av hi hr Q) : VP y pc ls st n ac av hi hr Q := by
  intro p l e s m args below meth c H locs cells slots D cy B lsr C L S G
  have K := k p l e s m args below meth c H locs cells slots D cy B lsr C L (zok_cons (L.2.2 _ _ hl) S) G
  cases o with
  | none => exact lv_aloadN C.1 C.2.1 hd (L.at hl) K
  | some q => exact lv_aload C.1 C.2.1 hd (L.at hl) K
theorem VP.istore_n {i : Fin 4} {x : Int} (hd : decode (zBy y) pc = .ok (.istore_n i, 1)) (hn : (i : Nat) < zMx y) (k : VP y (pc + 1) (ls.set (i : Nat) (some (.inl x))) st n ac av hi hr Q) : VP y pc ls (.inl x :: st) n ac av hi hr Q := by
  intro p l e s m args below meth c H locs cells slots D cy B lsr C L S G
  obtain ⟨h1, h2⟩ := List.forall_mem_cons.mp S
  exact lv_istore_n C.1 C.2.1 hd rfl L.2.1 hn rfl (fun ls' h' => k p l e s m args below meth c H locs cells slots D cy B ls' C (L.put h1 h') h2 G)
theorem VP.istore {i : Nat} {x : Int} (hd : decode (zBy y) pc = .ok (.istore i, 2)) (hn : i < zMx y) (k : VP y (pc + 2) (ls.set i (some (.inl x))) st n ac av hi hr Q) : VP y pc ls (.inl x :: st) n ac av hi hr Q := by
  intro p l e s m args below meth c H locs cells slots D cy B lsr C L S G
  obtain ⟨h1, h2⟩ := List.forall_mem_cons.mp S
  exact lv_istore C.1 C.2.1 hd L.2.1 hn rfl (fun ls' h' => k p l e s m args below meth c H locs cells slots D cy B ls' C (L.put h1 h') h2 G)
theorem VP.astore_n {i : Fin 4} {o : Option (Nat × Int)} (hd : decode (zBy y) pc = .ok (.astore_n i, 1)) (hn : (i : Nat) < zMx y) (k : VP y (pc + 1) (ls.set (i : Nat) (some (.inr o))) st n ac av hi hr Q) : VP y pc ls (.inr o :: st) n ac av hi hr Q := by
  intro p l e s m args below meth c H locs cells slots D cy B lsr C L S G
  obtain ⟨h1, h2⟩ := List.forall_mem_cons.mp S
  cases o with
  | none => exact lv_astore_nN C.1 C.2.1 hd rfl L.2.1 hn rfl (fun ls' h' => k p l e s m args below meth c H locs cells slots D cy B ls' C (L.put h1 h') h2 G)
  | some q => exact lv_astore_n C.1 C.2.1 hd rfl L.2.1 hn rfl (fun ls' h' => k p l e s m args below meth c H locs cells slots D cy B ls' C (L.put h1 h') h2 G)
theorem VP.astore {i : Nat} {q : Nat × Int} (hd : decode (zBy y) pc = .ok (.astore i, 2)) (hn : i < zMx y) (k : VP y (pc + 2) (ls.set i (some (.inr (some q)))) st n ac av hi hr Q) : VP y pc ls (.inr (some q) :: st) n ac av hi hr Q := by
  intro p l e s m args below meth c H locs cells slots D cy B lsr C L S G
  obtain ⟨h1, h2⟩ := List.forall_mem_cons.mp S
  exact lv_astore C.1 C.2.1 hd L.2.1 hn rfl (fun ls' h' => k p l e s m args below meth c H locs cells slots D cy B ls' C (L.put h1 h') h2 G)
end ZR
end
section
section ZR
variable {y : zM} {pc : Nat} {ls : List (Option zV)} {st : List zV} {n ac av : Nat} {hi : zI} {hr : zR} {Q : zQ}

theorem VP.iinc {i : Nat} {d x : Int} (hd : decode (zBy y) pc = .ok (.iinc i d, 3)) (hl : ls[i]? = some (some (.inl x))) (hx : zInR (x + d)) (k : VP y (pc + 3) (ls.set i (some (.inl (x + d)))) st n ac av hi hr Q) : VP y pc ls st n ac av hi hr Q := by
  intro p l e s m args below meth c H locs cells slots D cy B lsr C L S G
  obtain ⟨kk, hk⟩ := List.getElem?_of_mem (zlv_mem.mpr ⟨_, hl, rfl⟩ : (i, zv B (.inl x)) ∈ zlv B ls)
  have hn : i < zMx y := by rw [← L.1]; exact (List.getElem?_eq_some_iff.mp hl).1
  exact lv_iinc (v := Int32.ofInt (x + d)) C.1 C.2.1 hd L.2.1 hk (by rw [Int32.ofInt_add]) hn rfl (fun ls' h' => k p l e s m args below meth c H locs cells slots D cy B ls' C (L.put (v := .inl (x + d)) hx h') S G)
theorem z_add (a b : Int) : Int32.ofInt a + Int32.ofInt b = Int32.ofInt (a + b) := by rw [Int32.ofInt_add]
theorem z_sub (a b : Int) : Int32.ofInt a - Int32.ofInt b = Int32.ofInt (a - b) := by rw [Int32.ofInt_sub]
theorem z_mul (a b : Int) : Int32.ofInt a * Int32.ofInt b = Int32.ofInt (a * b) := by rw [Int32.ofInt_mul]
theorem z_div {a b : Int} (ha : zInR a) (hb : zInR b) (h0 : 0 ≤ a) (h1 : 0 < b) : Int32.ofInt a / Int32.ofInt b = Int32.ofInt (a / b) := by
  have h2 : 0 ≤ a / b := Int.ediv_nonneg h0 (by omega)
  have h3 : a / b ≤ a := Int.ediv_le_self b h0
  apply Int32.toInt_inj.1
  rw [Int32.toInt_div, z_ofI ha, z_ofI hb, Int.tdiv_eq_ediv_of_nonneg h0, z_bmod ⟨by omega, by omega⟩, z_ofI ⟨by omega, by omega⟩]
theorem z_divR {a b : Int} (ha : zInR a) (h0 : 0 ≤ a) (h1 : 0 < b) : zInR (a / b) := by
  have h2 : 0 ≤ a / b := Int.ediv_nonneg h0 (by omega)
  have h3 : a / b ≤ a := Int.ediv_le_self b h0
  exact ⟨by omega, by omega⟩
theorem z_remR {a b : Int} (hb : zInR b) (h1 : 0 < b) : zInR (a % b) := by
  have h2 := Int.emod_nonneg a (show b ≠ 0 by omega)
  have h3 := Int.emod_lt_of_pos a h1
  exact ⟨by omega, by omega⟩
def zand (a b : Int) : Int := (Int32.ofInt a &&& Int32.ofInt b).toInt
def zor (a b : Int) : Int := (Int32.ofInt a ||| Int32.ofInt b).toInt
def zxor (a b : Int) : Int := (Int32.ofInt a ^^^ Int32.ofInt b).toInt
def zshl (a b : Int) : Int := (Int32.ofInt a <<< (Int32.ofInt b &&& 31)).toInt
def zshr (a b : Int) : Int := (Int32.ofInt a >>> (Int32.ofInt b &&& 31)).toInt
def zushr (a b : Int) : Int := (((Int32.ofInt a).toUInt32 >>> ((Int32.ofInt b).toUInt32 &&& Int32.toUInt32 31)).toInt32).toInt
def zi2b (a : Int) : Int := ((Int32.ofInt a).toInt8.toInt32).toInt

theorem VP.iadd {a b : Int} (hd : decode (zBy y) pc = .ok (.iadd, 1)) (hx : zInR (a + b)) (k : VP y (pc + 1) ls (.inl (a + b) :: st) n ac av hi hr Q) : VP y pc ls (.inl b :: .inl a :: st) n ac av hi hr Q := by
  intro p l e s m args below meth c H locs cells slots D cy B lsr C L S G
  obtain ⟨hb, S1⟩ := List.forall_mem_cons.mp S
  obtain ⟨ha, S2⟩ := List.forall_mem_cons.mp S1
  have K := k p l e s m args below meth c H locs cells slots D cy B lsr C L (zok_cons (v := .inl (a + b)) hx S2) G
  refine lv_iadd C.1 C.2.1 hd ?_
  rw [z_add]; exact K

theorem VP.isub {a b : Int} (hd : decode (zBy y) pc = .ok (.isub, 1)) (hx : zInR (a - b)) (k : VP y (pc + 1) ls (.inl (a - b) :: st) n ac av hi hr Q) : VP y pc ls (.inl b :: .inl a :: st) n ac av hi hr Q := by
  intro p l e s m args below meth c H locs cells slots D cy B lsr C L S G
  obtain ⟨hb, S1⟩ := List.forall_mem_cons.mp S
  obtain ⟨ha, S2⟩ := List.forall_mem_cons.mp S1
  have K := k p l e s m args below meth c H locs cells slots D cy B lsr C L (zok_cons (v := .inl (a - b)) hx S2) G
  refine lv_isub C.1 C.2.1 hd ?_
  rw [z_sub]; exact K

theorem VP.imul {a b : Int} (hd : decode (zBy y) pc = .ok (.imul, 1)) (hx : zInR (a * b)) (k : VP y (pc + 1) ls (.inl (a * b) :: st) n ac av hi hr Q) : VP y pc ls (.inl b :: .inl a :: st) n ac av hi hr Q := by
  intro p l e s m args below meth c H locs cells slots D cy B lsr C L S G
  obtain ⟨hb, S1⟩ := List.forall_mem_cons.mp S
  obtain ⟨ha, S2⟩ := List.forall_mem_cons.mp S1
  have K := k p l e s m args below meth c H locs cells slots D cy B lsr C L (zok_cons (v := .inl (a * b)) hx S2) G
  refine lv_imul C.1 C.2.1 hd ?_
  rw [z_mul]; exact K

theorem VP.idiv {a b : Int} (hd : decode (zBy y) pc = .ok (.idiv, 1)) (h0 : 0 ≤ a) (h1 : 0 < b) (k : VP y (pc + 1) ls (.inl (a / b) :: st) n ac av hi hr Q) : VP y pc ls (.inl b :: .inl a :: st) n ac av hi hr Q := by
  intro p l e s m args below meth c H locs cells slots D cy B lsr C L S G
  obtain ⟨hb, S1⟩ := List.forall_mem_cons.mp S
  obtain ⟨ha, S2⟩ := List.forall_mem_cons.mp S1
  have K := k p l e s m args below meth c H locs cells slots D cy B lsr C L (zok_cons (v := .inl (a / b)) (z_divR ha h0 h1) S2) G
  refine lv_idiv C.1 C.2.1 hd (fun h => by rw [z_0, z_eq hb (by decide)] at h; omega) ?_
  rw [z_div ha hb h0 h1]; exact K

theorem VP.irem {a b : Int} (hd : decode (zBy y) pc = .ok (.irem, 1)) (h0 : 0 ≤ a) (h1 : 0 < b) (k : VP y (pc + 1) ls (.inl (a % b) :: st) n ac av hi hr Q) : VP y pc ls (.inl b :: .inl a :: st) n ac av hi hr Q := by
  intro p l e s m args below meth c H locs cells slots D cy B lsr C L S G
  obtain ⟨hb, S1⟩ := List.forall_mem_cons.mp S
  obtain ⟨ha, S2⟩ := List.forall_mem_cons.mp S1
  have K := k p l e s m args below meth c H locs cells slots D cy B lsr C L (zok_cons (v := .inl (a % b)) (z_remR hb h1) S2) G
  refine lv_irem C.1 C.2.1 hd (fun h => by rw [z_0, z_eq hb (by decide)] at h; omega) ?_
  rw [z_div ha hb h0 h1, z_mul, z_sub, show a - a / b * b = a % b by rw [Int.emod_def, Int.mul_comm]]; exact K

theorem VP.iand {a b : Int} (hd : decode (zBy y) pc = .ok (.iand, 1)) (k : VP y (pc + 1) ls (.inl (zand a b) :: st) n ac av hi hr Q) : VP y pc ls (.inl b :: .inl a :: st) n ac av hi hr Q := by
  intro p l e s m args below meth c H locs cells slots D cy B lsr C L S G
  obtain ⟨hb, S1⟩ := List.forall_mem_cons.mp S
  obtain ⟨ha, S2⟩ := List.forall_mem_cons.mp S1
  have K := k p l e s m args below meth c H locs cells slots D cy B lsr C L (zok_cons (v := .inl (zand a b)) (z_toI _) S2) G
  refine lv_iand C.1 C.2.1 hd ?_
  have K : W p l e (zRm y) s m args below meth c H locs cells slots _ (F0 m (pc + 1) lsr (.int (Int32.ofInt (zand a b)) :: st.map (zv B))) := K
  rw [zand, Int32.ofInt_toInt] at K; exact K

theorem VP.ior {a b : Int} (hd : decode (zBy y) pc = .ok (.ior, 1)) (k : VP y (pc + 1) ls (.inl (zor a b) :: st) n ac av hi hr Q) : VP y pc ls (.inl b :: .inl a :: st) n ac av hi hr Q := by
  intro p l e s m args below meth c H locs cells slots D cy B lsr C L S G
  obtain ⟨hb, S1⟩ := List.forall_mem_cons.mp S
  obtain ⟨ha, S2⟩ := List.forall_mem_cons.mp S1
  have K := k p l e s m args below meth c H locs cells slots D cy B lsr C L (zok_cons (v := .inl (zor a b)) (z_toI _) S2) G
  refine lv_ior C.1 C.2.1 hd ?_
  have K : W p l e (zRm y) s m args below meth c H locs cells slots _ (F0 m (pc + 1) lsr (.int (Int32.ofInt (zor a b)) :: st.map (zv B))) := K
  rw [zor, Int32.ofInt_toInt] at K; exact K

theorem VP.ixor {a b : Int} (hd : decode (zBy y) pc = .ok (.ixor, 1)) (k : VP y (pc + 1) ls (.inl (zxor a b) :: st) n ac av hi hr Q) : VP y pc ls (.inl b :: .inl a :: st) n ac av hi hr Q := by
  intro p l e s m args below meth c H locs cells slots D cy B lsr C L S G
  obtain ⟨hb, S1⟩ := List.forall_mem_cons.mp S
  obtain ⟨ha, S2⟩ := List.forall_mem_cons.mp S1
  have K := k p l e s m args below meth c H locs cells slots D cy B lsr C L (zok_cons (v := .inl (zxor a b)) (z_toI _) S2) G
  refine lv_ixor C.1 C.2.1 hd ?_
  have K : W p l e (zRm y) s m args below meth c H locs cells slots _ (F0 m (pc + 1) lsr (.int (Int32.ofInt (zxor a b)) :: st.map (zv B))) := K
  rw [zxor, Int32.ofInt_toInt] at K; exact K

theorem VP.ishl {a b : Int} (hd : decode (zBy y) pc = .ok (.ishl, 1)) (k : VP y (pc + 1) ls (.inl (zshl a b) :: st) n ac av hi hr Q) : VP y pc ls (.inl b :: .inl a :: st) n ac av hi hr Q := by
  intro p l e s m args below meth c H locs cells slots D cy B lsr C L S G
  obtain ⟨hb, S1⟩ := List.forall_mem_cons.mp S
  obtain ⟨ha, S2⟩ := List.forall_mem_cons.mp S1
  have K := k p l e s m args below meth c H locs cells slots D cy B lsr C L (zok_cons (v := .inl (zshl a b)) (z_toI _) S2) G
  refine lv_ishl C.1 C.2.1 hd ?_
  have K : W p l e (zRm y) s m args below meth c H locs cells slots _ (F0 m (pc + 1) lsr (.int (Int32.ofInt (zshl a b)) :: st.map (zv B))) := K
  rw [zshl, Int32.ofInt_toInt] at K; exact K

theorem VP.ishr {a b : Int} (hd : decode (zBy y) pc = .ok (.ishr, 1)) (k : VP y (pc + 1) ls (.inl (zshr a b) :: st) n ac av hi hr Q) : VP y pc ls (.inl b :: .inl a :: st) n ac av hi hr Q := by
  intro p l e s m args below meth c H locs cells slots D cy B lsr C L S G
  obtain ⟨hb, S1⟩ := List.forall_mem_cons.mp S
  obtain ⟨ha, S2⟩ := List.forall_mem_cons.mp S1
  have K := k p l e s m args below meth c H locs cells slots D cy B lsr C L (zok_cons (v := .inl (zshr a b)) (z_toI _) S2) G
  refine lv_ishr C.1 C.2.1 hd ?_
  have K : W p l e (zRm y) s m args below meth c H locs cells slots _ (F0 m (pc + 1) lsr (.int (Int32.ofInt (zshr a b)) :: st.map (zv B))) := K
  rw [zshr, Int32.ofInt_toInt] at K; exact K

theorem VP.iushr {a b : Int} (hd : decode (zBy y) pc = .ok (.iushr, 1)) (k : VP y (pc + 1) ls (.inl (zushr a b) :: st) n ac av hi hr Q) : VP y pc ls (.inl b :: .inl a :: st) n ac av hi hr Q := by
  intro p l e s m args below meth c H locs cells slots D cy B lsr C L S G
  obtain ⟨hb, S1⟩ := List.forall_mem_cons.mp S
  obtain ⟨ha, S2⟩ := List.forall_mem_cons.mp S1
  exact lv_iushr (v := Int32.ofInt (zushr a b)) C.1 C.2.1 hd (by rw [zushr, Int32.ofInt_toInt]) (k p l e s m args below meth c H locs cells slots D cy B lsr C L (zok_cons (v := .inl (zushr a b)) (z_toI _) S2) G)
theorem VP.i2b {a : Int} (hd : decode (zBy y) pc = .ok (.i2b, 1)) (k : VP y (pc + 1) ls (.inl (zi2b a) :: st) n ac av hi hr Q) : VP y pc ls (.inl a :: st) n ac av hi hr Q := by
  intro p l e s m args below meth c H locs cells slots D cy B lsr C L S G
  obtain ⟨ha, S2⟩ := List.forall_mem_cons.mp S
  exact lv_i2b (v := Int32.ofInt (zi2b a)) C.1 C.2.1 hd (by rw [zi2b, Int32.ofInt_toInt]) (k p l e s m args below meth c H locs cells slots D cy B lsr C L (zok_cons (v := .inl (zi2b a)) (z_toI _) S2) G)
theorem VP.dup {v : zV} (hd : decode (zBy y) pc = .ok (.dup, 1)) (k : VP y (pc + 1) ls (v :: v :: st) n ac av hi hr Q) : VP y pc ls (v :: st) n ac av hi hr Q := by
  intro p l e s m args below meth c H locs cells slots D cy B lsr C L S G
  exact lv_dup C.1 C.2.1 hd (zv_cat B v) (k p l e s m args below meth c H locs cells slots D cy B lsr C L (zok_cons (List.forall_mem_cons.mp S).1 S) G)
theorem VP.dup2 {v u : zV} (hd : decode (zBy y) pc = .ok (.dup2, 1)) (k : VP y (pc + 1) ls (v :: u :: v :: u :: st) n ac av hi hr Q) : VP y pc ls (v :: u :: st) n ac av hi hr Q := by
  intro p l e s m args below meth c H locs cells slots D cy B lsr C L S G
  obtain ⟨h1, S1⟩ := List.forall_mem_cons.mp S
  obtain ⟨h2, S2⟩ := List.forall_mem_cons.mp S1
  exact lv_dup2_11 C.1 C.2.1 hd (zv_cat B v) (zv_cat B u) (k p l e s m args below meth c H locs cells slots D cy B lsr C L (zok_cons h1 (zok_cons h2 S)) G)
theorem VP.pop {v : zV} (hd : decode (zBy y) pc = .ok (.pop, 1)) (k : VP y (pc + 1) ls st n ac av hi hr Q) : VP y pc ls (v :: st) n ac av hi hr Q := by
  intro p l e s m args below meth c H locs cells slots D cy B lsr C L S G
  exact lv_pop C.1 C.2.1 hd (zv_cat B v) (k p l e s m args below meth c H locs cells slots D cy B lsr C L (List.forall_mem_cons.mp S).2 G)
theorem VP.goto {off : Int} {tgt : Nat} (hd : decode (zBy y) pc = .ok (.goto off, 3)) (ht : (pc : Int) + off = (tgt : Int)) (k : VP y tgt ls st n ac av hi hr Q) : VP y pc ls st n ac av hi hr Q := by
  intro p l e s m args below meth c H locs cells slots D cy B lsr C L S G
  exact lv_goto C.1 C.2.1 hd ht (k p l e s m args below meth c H locs cells slots D cy B lsr C L S G)

theorem VP.if_eq {a : Int} {off : Int} {tgt : Nat} (hd : decode (zBy y) pc = .ok (.ifCond .eq off, 3)) (ht : (pc : Int) + off = (tgt : Int)) (kt : a = 0 → VP y tgt ls st n ac av hi hr Q) (kf : a ≠ 0 → VP y (pc + 3) ls st n ac av hi hr Q) : VP y pc ls (.inl a :: st) n ac av hi hr Q := by
  intro p l e s m args below meth c H locs cells slots D cy B lsr C L S G
  obtain ⟨ha, S2⟩ := List.forall_mem_cons.mp S
  exact lv_if_eq C.1 C.2.1 hd ht (fun h => kt (by rw [z_0, z_eq ha (by decide)] at h; exact h) p l e s m args below meth c H locs cells slots D cy B lsr C L S2 G) (fun h => kf (by rw [z_0, z_eq ha (by decide)] at h; exact h) p l e s m args below meth c H locs cells slots D cy B lsr C L S2 G)

theorem VP.if_ne {a : Int} {off : Int} {tgt : Nat} (hd : decode (zBy y) pc = .ok (.ifCond .ne off, 3)) (ht : (pc : Int) + off = (tgt : Int)) (kt : a ≠ 0 → VP y tgt ls st n ac av hi hr Q) (kf : a = 0 → VP y (pc + 3) ls st n ac av hi hr Q) : VP y pc ls (.inl a :: st) n ac av hi hr Q := by
  intro p l e s m args below meth c H locs cells slots D cy B lsr C L S G
  obtain ⟨ha, S2⟩ := List.forall_mem_cons.mp S
  exact lv_if_ne C.1 C.2.1 hd ht (fun h => kt (by rw [z_0, z_eq ha (by decide)] at h; exact h) p l e s m args below meth c H locs cells slots D cy B lsr C L S2 G) (fun h => kf (by rw [z_0, z_eq ha (by decide)] at h; exact h) p l e s m args below meth c H locs cells slots D cy B lsr C L S2 G)

theorem VP.if_lt {a : Int} {off : Int} {tgt : Nat} (hd : decode (zBy y) pc = .ok (.ifCond .lt off, 3)) (ht : (pc : Int) + off = (tgt : Int)) (kt : a < 0 → VP y tgt ls st n ac av hi hr Q) (kf : 0 ≤ a → VP y (pc + 3) ls st n ac av hi hr Q) : VP y pc ls (.inl a :: st) n ac av hi hr Q := by
  intro p l e s m args below meth c H locs cells slots D cy B lsr C L S G
  obtain ⟨ha, S2⟩ := List.forall_mem_cons.mp S
  exact lv_if_lt C.1 C.2.1 hd ht (fun h => kt (by rw [z_0, z_lt ha (by decide)] at h; exact h) p l e s m args below meth c H locs cells slots D cy B lsr C L S2 G) (fun h => kf (by rw [z_0, z_lt ha (by decide)] at h; omega) p l e s m args below meth c H locs cells slots D cy B lsr C L S2 G)

theorem VP.if_ge {a : Int} {off : Int} {tgt : Nat} (hd : decode (zBy y) pc = .ok (.ifCond .ge off, 3)) (ht : (pc : Int) + off = (tgt : Int)) (kt : 0 ≤ a → VP y tgt ls st n ac av hi hr Q) (kf : a < 0 → VP y (pc + 3) ls st n ac av hi hr Q) : VP y pc ls (.inl a :: st) n ac av hi hr Q := by
  intro p l e s m args below meth c H locs cells slots D cy B lsr C L S G
  obtain ⟨ha, S2⟩ := List.forall_mem_cons.mp S
  exact lv_if_ge C.1 C.2.1 hd ht (fun h => kt (by rw [z_0, z_le (by decide) ha] at h; exact h) p l e s m args below meth c H locs cells slots D cy B lsr C L S2 G) (fun h => kf (by rw [z_0, z_le (by decide) ha] at h; omega) p l e s m args below meth c H locs cells slots D cy B lsr C L S2 G)

theorem VP.if_gt {a : Int} {off : Int} {tgt : Nat} (hd : decode (zBy y) pc = .ok (.ifCond .gt off, 3)) (ht : (pc : Int) + off = (tgt : Int)) (kt : 0 < a → VP y tgt ls st n ac av hi hr Q) (kf : a ≤ 0 → VP y (pc + 3) ls st n ac av hi hr Q) : VP y pc ls (.inl a :: st) n ac av hi hr Q := by
  intro p l e s m args below meth c H locs cells slots D cy B lsr C L S G
  obtain ⟨ha, S2⟩ := List.forall_mem_cons.mp S
  exact lv_if_gt C.1 C.2.1 hd ht (fun h => kt (by rw [z_0, z_lt (by decide) ha] at h; exact h) p l e s m args below meth c H locs cells slots D cy B lsr C L S2 G) (fun h => kf (by rw [z_0, z_lt (by decide) ha] at h; omega) p l e s m args below meth c H locs cells slots D cy B lsr C L S2 G)

theorem VP.if_le {a : Int} {off : Int} {tgt : Nat} (hd : decode (zBy y) pc = .ok (.ifCond .le off, 3)) (ht : (pc : Int) + off = (tgt : Int)) (kt : a ≤ 0 → VP y tgt ls st n ac av hi hr Q) (kf : 0 < a → VP y (pc + 3) ls st n ac av hi hr Q) : VP y pc ls (.inl a :: st) n ac av hi hr Q := by
  intro p l e s m args below meth c H locs cells slots D cy B lsr C L S G
  obtain ⟨ha, S2⟩ := List.forall_mem_cons.mp S
  exact lv_if_le C.1 C.2.1 hd ht (fun h => kt (by rw [z_0, z_le ha (by decide)] at h; exact h) p l e s m args below meth c H locs cells slots D cy B lsr C L S2 G) (fun h => kf (by rw [z_0, z_le ha (by decide)] at h; omega) p l e s m args below meth c H locs cells slots D cy B lsr C L S2 G)

theorem VP.icmp_eq {a b : Int} {off : Int} {tgt : Nat} (hd : decode (zBy y) pc = .ok (.if_icmp .eq off, 3)) (ht : (pc : Int) + off = (tgt : Int)) (kt : a = b → VP y tgt ls st n ac av hi hr Q) (kf : a ≠ b → VP y (pc + 3) ls st n ac av hi hr Q) : VP y pc ls (.inl b :: .inl a :: st) n ac av hi hr Q := by
  intro p l e s m args below meth c H locs cells slots D cy B lsr C L S G
  obtain ⟨hb, S1⟩ := List.forall_mem_cons.mp S
  obtain ⟨ha, S2⟩ := List.forall_mem_cons.mp S1
  exact lv_icmp_eq C.1 C.2.1 hd ht (fun h => kt (by rw [z_eq ha hb] at h; exact h) p l e s m args below meth c H locs cells slots D cy B lsr C L S2 G) (fun h => kf (by rw [z_eq ha hb] at h; exact h) p l e s m args below meth c H locs cells slots D cy B lsr C L S2 G)

theorem VP.icmp_ne {a b : Int} {off : Int} {tgt : Nat} (hd : decode (zBy y) pc = .ok (.if_icmp .ne off, 3)) (ht : (pc : Int) + off = (tgt : Int)) (kt : a ≠ b → VP y tgt ls st n ac av hi hr Q) (kf : a = b → VP y (pc + 3) ls st n ac av hi hr Q) : VP y pc ls (.inl b :: .inl a :: st) n ac av hi hr Q := by
  intro p l e s m args below meth c H locs cells slots D cy B lsr C L S G
  obtain ⟨hb, S1⟩ := List.forall_mem_cons.mp S
  obtain ⟨ha, S2⟩ := List.forall_mem_cons.mp S1
  exact lv_icmp_ne C.1 C.2.1 hd ht (fun h => kt (by rw [z_eq ha hb] at h; exact h) p l e s m args below meth c H locs cells slots D cy B lsr C L S2 G) (fun h => kf (by rw [z_eq ha hb] at h; exact h) p l e s m args below meth c H locs cells slots D cy B lsr C L S2 G)

theorem VP.icmp_lt {a b : Int} {off : Int} {tgt : Nat} (hd : decode (zBy y) pc = .ok (.if_icmp .lt off, 3)) (ht : (pc : Int) + off = (tgt : Int)) (kt : a < b → VP y tgt ls st n ac av hi hr Q) (kf : b ≤ a → VP y (pc + 3) ls st n ac av hi hr Q) : VP y pc ls (.inl b :: .inl a :: st) n ac av hi hr Q := by
  intro p l e s m args below meth c H locs cells slots D cy B lsr C L S G
  obtain ⟨hb, S1⟩ := List.forall_mem_cons.mp S
  obtain ⟨ha, S2⟩ := List.forall_mem_cons.mp S1
  exact lv_icmp_lt C.1 C.2.1 hd ht (fun h => kt (by rw [z_lt ha hb] at h; exact h) p l e s m args below meth c H locs cells slots D cy B lsr C L S2 G) (fun h => kf (by rw [z_lt ha hb] at h; omega) p l e s m args below meth c H locs cells slots D cy B lsr C L S2 G)

theorem VP.icmp_ge {a b : Int} {off : Int} {tgt : Nat} (hd : decode (zBy y) pc = .ok (.if_icmp .ge off, 3)) (ht : (pc : Int) + off = (tgt : Int)) (kt : b ≤ a → VP y tgt ls st n ac av hi hr Q) (kf : a < b → VP y (pc + 3) ls st n ac av hi hr Q) : VP y pc ls (.inl b :: .inl a :: st) n ac av hi hr Q := by
  intro p l e s m args below meth c H locs cells slots D cy B lsr C L S G
  obtain ⟨hb, S1⟩ := List.forall_mem_cons.mp S
  obtain ⟨ha, S2⟩ := List.forall_mem_cons.mp S1
  exact lv_icmp_ge C.1 C.2.1 hd ht (fun h => kt (by rw [z_le hb ha] at h; exact h) p l e s m args below meth c H locs cells slots D cy B lsr C L S2 G) (fun h => kf (by rw [z_le hb ha] at h; omega) p l e s m args below meth c H locs cells slots D cy B lsr C L S2 G)

theorem VP.icmp_gt {a b : Int} {off : Int} {tgt : Nat} (hd : decode (zBy y) pc = .ok (.if_icmp .gt off, 3)) (ht : (pc : Int) + off = (tgt : Int)) (kt : b < a → VP y tgt ls st n ac av hi hr Q) (kf : a ≤ b → VP y (pc + 3) ls st n ac av hi hr Q) : VP y pc ls (.inl b :: .inl a :: st) n ac av hi hr Q := by
  intro p l e s m args below meth c H locs cells slots D cy B lsr C L S G
  obtain ⟨hb, S1⟩ := List.forall_mem_cons.mp S
  obtain ⟨ha, S2⟩ := List.forall_mem_cons.mp S1
  exact lv_icmp_gt C.1 C.2.1 hd ht (fun h => kt (by rw [z_lt hb ha] at h; exact h) p l e s m args below meth c H locs cells slots D cy B lsr C L S2 G) (fun h => kf (by rw [z_lt hb ha] at h; omega) p l e s m args below meth c H locs cells slots D cy B lsr C L S2 G)

theorem VP.icmp_le {a b : Int} {off : Int} {tgt : Nat} (hd : decode (zBy y) pc = .ok (.if_icmp .le off, 3)) (ht : (pc : Int) + off = (tgt : Int)) (kt : a ≤ b → VP y tgt ls st n ac av hi hr Q) (kf : b < a → VP y (pc + 3) ls st n ac av hi hr Q) : VP y pc ls (.inl b :: .inl a :: st) n ac av hi hr Q := by
  intro p l e s m args below meth c H locs cells slots D cy B lsr C L S G
  obtain ⟨hb, S1⟩ := List.forall_mem_cons.mp S
  obtain ⟨ha, S2⟩ := List.forall_mem_cons.mp S1
  exact lv_icmp_le C.1 C.2.1 hd ht (fun h => kt (by rw [z_le ha hb] at h; exact h) p l e s m args below meth c H locs cells slots D cy B lsr C L S2 G) (fun h => kf (by rw [z_le ha hb] at h; omega) p l e s m args below meth c H locs cells slots D cy B lsr C L S2 G)

theorem VP.ifnull {o : Option (Nat × Int)} {off : Int} {tgt : Nat} (hd : decode (zBy y) pc = .ok (.ifnull off, 3)) (ht : (pc : Int) + off = (tgt : Int)) (kt : o = none → VP y tgt ls st n ac av hi hr Q) (kf : ∀ q, o = some q → VP y (pc + 3) ls st n ac av hi hr Q) : VP y pc ls (.inr o :: st) n ac av hi hr Q := by
  intro p l e s m args below meth c H locs cells slots D cy B lsr C L S G
  obtain ⟨ha, S2⟩ := List.forall_mem_cons.mp S
  cases o with
  | none => exact lv_ifnullN C.1 C.2.1 hd ht (kt rfl p l e s m args below meth c H locs cells slots D cy B lsr C L S2 G)
  | some q => exact lv_ifnull C.1 C.2.1 hd (kf q rfl p l e s m args below meth c H locs cells slots D cy B lsr C L S2 G)
theorem VP.ifnonnull {o : Option (Nat × Int)} {off : Int} {tgt : Nat} (hd : decode (zBy y) pc = .ok (.ifnonnull off, 3)) (ht : (pc : Int) + off = (tgt : Int)) (kt : ∀ q, o = some q → VP y tgt ls st n ac av hi hr Q) (kf : o = none → VP y (pc + 3) ls st n ac av hi hr Q) : VP y pc ls (.inr o :: st) n ac av hi hr Q := by
  intro p l e s m args below meth c H locs cells slots D cy B lsr C L S G
  obtain ⟨ha, S2⟩ := List.forall_mem_cons.mp S
  cases o with
  | none => exact lv_ifnonnullN C.1 C.2.1 hd (kf rfl p l e s m args below meth c H locs cells slots D cy B lsr C L S2 G)
  | some q => exact lv_ifnonnull C.1 C.2.1 hd ht (kt q rfl p l e s m args below meth c H locs cells slots D cy B lsr C L S2 G)
theorem VP.tsw {a dflt lo hi' : Int} {offs : Array Int} {len : Nat} (hd : decode (zBy y) pc = .ok (.tableswitch dflt lo hi' offs, len)) (ko : a < lo ∨ hi' < a → ∃ tgt : Nat, (pc : Int) + dflt = (tgt : Int) ∧ VP y tgt ls st n ac av hi hr Q)
    (ki : lo ≤ a → a ≤ hi' → ∃ (off : Int) (tgt : Nat), offs[(a - lo).toNat]? = some off ∧ (pc : Int) + off = (tgt : Int) ∧ VP y tgt ls st n ac av hi hr Q) : VP y pc ls (.inl a :: st) n ac av hi hr Q := by
  intro p l e s m args below meth c H locs cells slots D cy B lsr C L S G
  obtain ⟨ha, S2⟩ := List.forall_mem_cons.mp S
  by_cases h : a < lo ∨ hi' < a
  · obtain ⟨tgt, h1, k⟩ := ko h
    exact lv_tableOut C.1 C.2.1 hd (by rw [z_ofI ha]; exact h) h1 (k p l e s m args below meth c H locs cells slots D cy B lsr C L S2 G)
  · obtain ⟨off, tgt, h1, h2, k⟩ := ki (by omega) (by omega)
    exact lv_tableIn C.1 C.2.1 hd (by rw [z_ofI ha]; omega) (by rw [z_ofI ha]; omega) (by rw [z_ofI ha]; exact h1) h2 (k p l e s m args below meth c H locs cells slots D cy B lsr C L S2 G)
theorem VP.lsw {a dflt : Int} {ps : Array (Int × Int)} {len tgt : Nat} (hd : decode (zBy y) pc = .ok (.lookupswitch dflt ps, len)) (hp : (ps.toList.zip (ps.toList.drop 1)).all (fun (a, next) => a.1 < next.1) = true) (ht : (pc : Int) + Op.lookupswitch.offset ps.toList dflt a = (tgt : Int)) (k : VP y tgt ls st n ac av hi hr Q) : VP y pc ls (.inl a :: st) n ac av hi hr Q := by
  intro p l e s m args below meth c H locs cells slots D cy B lsr C L S G
  obtain ⟨ha, S2⟩ := List.forall_mem_cons.mp S
  exact lv_lookup C.1 C.2.1 hd hp (by rw [z_ofI ha]) ht (k p l e s m args below meth c H locs cells slots D cy B lsr C L S2 G)

end ZR
end
section
def zup (hi : zI) (k : Nat) (j s x : Int) : zI := fun k' j' s' => if k' = k ∧ j' = j ∧ s' = s then x else hi k' j' s'
def zupR (hr : zR) (k : Nat) (j s : Int) (o : Option (Nat × Int)) : zR := fun k' j' s' => if k' = k ∧ j' = j ∧ s' = s then o else hr k' j' s'
def zclr (hi : zI) (k : Nat) (j : Int) : zI := fun k' j' s' => if k' = k ∧ j' = j then 0 else hi k' j' s'
def zclrR (hr : zR) (k : Nat) (j : Int) : zR := fun k' j' s' => if k' = k ∧ j' = j then none else hr k' j' s'
theorem zokH_up {n : Nat} {hi : zI} {hr : zR} (h : zokH n hi hr) {k : Nat} {j s x : Int} (hx : zInR x) : zokH n (zup hi k j s x) hr := by
  refine ⟨fun k' j' s' => ?_, h.2⟩
  unfold zup
  split
  · exact hx
  · exact h.1 _ _ _
theorem zokH_upR {n : Nat} {hi : zI} {hr : zR} (h : zokH n hi hr) {k : Nat} {j s : Int} {o : Option (Nat × Int)} (ho : zok n (.inr o)) : zokH n hi (zupR hr k j s o) := by
  refine ⟨h.1, fun k' j' s' q hq => ?_⟩
  unfold zupR at hq
  split at hq
  · subst hq; exact ho
  · exact h.2 _ _ _ _ hq
theorem zokH_clr {n : Nat} {hi : zI} {hr : zR} (h : zokH n hi hr) {k : Nat} {j : Int} : zokH (n + 1) (zclr hi k j) (zclrR hr k j) := by
  refine ⟨fun k' j' s' => ?_, fun k' j' s' q hq => ?_⟩
  · unfold zclr
    split
    · exact ⟨by decide, by decide⟩
    · exact h.1 _ _ _
  · unfold zclrR at hq
    split at hq
    · cases hq
    · exact zval_mono (Nat.le_succ n) (h.2 _ _ _ _ hq)
/-- cells of other names are as they were -/
theorem zE_off {B : Nat} {cy : Nat → ClassId} {hi hi' : zI} {hr hr' : zR} {q' : Nat × Int} (h : ∀ s, hi' q'.1 q'.2 s = hi q'.1 q'.2 s) (h2 : ∀ s, hr' q'.1 q'.2 s = hr q'.1 q'.2 s) : zE B cy hi' hr' q' = zE B cy hi hr q' := by
  unfold zE zFs
  have e1 : hi' q'.1 q'.2 = hi q'.1 q'.2 := funext h
  have e2 : hr' q'.1 q'.2 = hr q'.1 q'.2 := funext h2
  rw [e1, e2]
theorem z_ne {k' k : Nat} {j' j : Int} (h : (k', j') ≠ (k, j)) : ¬ (k' = k ∧ j' = j) := fun e => h (by rw [e.1, e.2])
theorem zE_up {B : Nat} {cy : Nat → ClassId} {hi : zI} {hr : zR} {k : Nat} {j s x : Int} {q' : Nat × Int} (h : q' ≠ (k, j)) : zE B cy (zup hi k j s x) hr q' = zE B cy hi hr q' := by
  refine zE_off (fun s' => ?_) (fun _ => rfl)
  unfold zup
  rw [if_neg (fun e => z_ne (k' := q'.1) (j' := q'.2) h ⟨e.1, e.2.1⟩)]
theorem zE_upR {B : Nat} {cy : Nat → ClassId} {hi : zI} {hr : zR} {k : Nat} {j s : Int} {o : Option (Nat × Int)} {q' : Nat × Int} (h : q' ≠ (k, j)) : zE B cy hi (zupR hr k j s o) q' = zE B cy hi hr q' := by
  refine zE_off (fun _ => rfl) (fun s' => ?_)
  unfold zupR
  rw [if_neg (fun e => z_ne (k' := q'.1) (j' := q'.2) h ⟨e.1, e.2.1⟩)]
theorem zE_clr {B : Nat} {cy : Nat → ClassId} {hi : zI} {hr : zR} {k : Nat} {j : Int} {q' : Nat × Int} (h : q' ≠ (k, j)) : zE B cy (zclr hi k j) (zclrR hr k j) q' = zE B cy hi hr q' := by
  refine zE_off (fun s' => ?_) (fun s' => ?_)
  · unfold zclr
    rw [if_neg (z_ne (k' := q'.1) (j' := q'.2) h)]
  · unfold zclrR
    rw [if_neg (z_ne (k' := q'.1) (j' := q'.2) h)]
/-- what is known of a kind of object -/
def zCl (c : Nat) (C : String) (T : u_T) (N : Nat) (ty : Nat → FieldType) : Prop :=
  vwCl[c]? = some (C, T, N) ∧ zNF c = N ∧ (∀ w ∈ u_ws C T N, w ∈ zTb) ∧ (∀ k, k < N → parseFieldDescriptor (T k).2.2.1 = some (ty k)) ∧ (∀ a, a < N → ∀ b, b < N → a ≠ b → (T a).2.1 ≠ (T b).2.1) ∧
  (∀ k, k < N → defaultValue (ty k) = if zRF c k then .null else .int 0) ∧ Cond.instantiable C N ∈ zTb ∧ Cond.initialized C ∈ zTb
theorem zFs_get {B : Nat} {hi : zI} {hr : zR} {q : Nat × Int} {c s : Nat} (h : s < zNF c) : (zFs B hi hr q c)[s]? = some (if zRF c s then va_rf (zf B (hr q.1 q.2 (s : Int))) else .int (Int32.ofInt (hi q.1 q.2 (s : Int)))) := by
  simp [zFs, h]
theorem zFs_len {B : Nat} {hi : zI} {hr : zR} {q : Nat × Int} {c : Nat} : (zFs B hi hr q c).length = zNF c := by simp [zFs]
theorem zFs_set {B : Nat} {hi hi' : zI} {hr hr' : zR} {q : Nat × Int} {c s : Nat} (h : s < zNF c) {v : Value}
    (hv : v = if zRF c s then va_rf (zf B (hr' q.1 q.2 (s : Int))) else .int (Int32.ofInt (hi' q.1 q.2 (s : Int))))
    (ho : ∀ s' : Nat, s' ≠ s → hi' q.1 q.2 (s' : Int) = hi q.1 q.2 (s' : Int) ∧ hr' q.1 q.2 (s' : Int) = hr q.1 q.2 (s' : Int)) : (zFs B hi hr q c).set s v = zFs B hi' hr' q c := by
  apply List.ext_getElem?
  intro k
  by_cases hk : k < zNF c
  · by_cases e : s = k
    · subst e
      rw [List.getElem?_set_self (by rw [zFs_len]; exact hk), zFs_get hk, hv]
    · rw [List.getElem?_set_ne e, zFs_get hk, zFs_get hk, (ho k (fun e2 => e e2.symm)).1, (ho k (fun e2 => e e2.symm)).2]
  · rw [List.getElem?_eq_none (by rw [List.length_set, zFs_len]; omega), List.getElem?_eq_none (by rw [zFs_len]; omega)]
theorem zE_o {B : Nat} {cy : Nat → ClassId} {hi : zI} {hr : zR} {k : Nat} {j : Int} {c : Nat} (hk : zSh k = .inl c) : zE B cy hi hr (k, j) = .inr (c, zFs B hi hr (k, j) c) := by
  unfold zE
  show (match zSh k with | .inl c => _ | .inr (t, n) => _) = _
  rw [hk]
theorem zE_a {B : Nat} {cy : Nat → ClassId} {hi : zI} {hr : zR} {k : Nat} {j : Int} {t len : Nat} (hk : zSh k = .inr (t, len)) (ht : t < 3) : zE B cy hi hr (k, j) = .inl (cy t, len, .inl (fun s => Int32.ofInt (hi k j (s : Int)))) := by
  unfold zE
  show (match zSh k with | .inl c => _ | .inr (t, n) => _) = _
  rw [hk]
  show Sum.inl _ = Sum.inl _
  rw [if_pos ht]
theorem zE_q {B : Nat} {cy : Nat → ClassId} {hi : zI} {hr : zR} {k : Nat} {j : Int} {t len : Nat} (hk : zSh k = .inr (t, len)) (ht : ¬ t < 3) : zE B cy hi hr (k, j) = .inl (cy t, len, .inr (.inr (.inr (.inr (fun s => zf B (hr k j (s : Int))))))) := by
  unfold zE
  show (match zSh k with | .inl c => _ | .inr (t, n) => _) = _
  rw [hk]
  show Sum.inl _ = Sum.inl _
  rw [if_neg ht]
theorem zW_at {B : Nat} {cy : Nat → ClassId} {n : Nat} {hi : zI} {hr : zR} {k : Nat} {j : Int} (h : zval n (k, j)) : (zW B cy n hi hr)[zOff k j]? = some (zA B (k, j), zE B cy hi hr (k, j)) := by
  rw [zW_get h.1, h.2]; rfl
section ZR
variable {y : zM} {pc : Nat} {ls : List (Option zV)} {st : List zV} {n ac av : Nat} {hi : zI} {hr : zR} {Q : zQ}
theorem VP.getI {k c N i : Nat} {j : Int} {C : String} {T : u_T} {ty : Nat → FieldType} {index : Nat} (hd : decode (zBy y) pc = .ok (.getfield index, 3)) (hz : zCl c C T N ty) (hk : zSh k = .inl c) (hs : i < N) (hrf : zRF c i = false)
    (hl : Cond.fieldLink (zNm y).cls index (T i).1 (T i).2.1 (T i).2.2.1 ∈ zTb) (kk : VP y (pc + 3) ls (.inl (hi k j (i : Int)) :: st) n ac av hi hr Q) : VP y pc ls (.inr (some (k, j)) :: st) n ac av hi hr Q := by
  intro p l e s m args below meth c' H locs cells slots D cy B lsr C' L S G
  obtain ⟨h1, S2⟩ := List.forall_mem_cons.mp S
  obtain ⟨z1, z2, z3, z4, z5, z6, z7, z8⟩ := hz
  have he := zW_at (B := B) (cy := cy) (hi := hi) (hr := hr) h1
  rw [zE_o hk] at he
  refine va_get (C := C) (T := T) (N := N) (ci := c) C'.1 C'.2.1 C'.2.2.2.2.2.1 z3 C'.2.2.2.2.1 C'.2.2.2.2.2.2.2.2 G.2.2.2.1 _ he z1 i hs (C'.2.2.2.2.2.1 _ hl) (fun _ h => h) (v := .int (Int32.ofInt (hi k j (i : Int)))) ?_ hd (kk p l e s m args below meth c' H locs cells slots D cy B lsr C' L (zok_cons (v := .inl (hi k j (i : Int))) (G.1.1 _ _ _) S2) G)
  rw [zFs_get (by rw [z2]; exact hs), hrf]; rfl
theorem VP.getR {k c N i : Nat} {j : Int} {C : String} {T : u_T} {ty : Nat → FieldType} {index : Nat} (hd : decode (zBy y) pc = .ok (.getfield index, 3)) (hz : zCl c C T N ty) (hk : zSh k = .inl c) (hs : i < N) (hrf : zRF c i = true)
    (hl : Cond.fieldLink (zNm y).cls index (T i).1 (T i).2.1 (T i).2.2.1 ∈ zTb) {o : Option (Nat × Int)} (ho : hr k j (i : Int) = o) (kk : VP y (pc + 3) ls (.inr o :: st) n ac av hi hr Q) : VP y pc ls (.inr (some (k, j)) :: st) n ac av hi hr Q := by
  intro p l e s m args below meth c' H locs cells slots D cy B lsr C' L S G
  obtain ⟨h1, S2⟩ := List.forall_mem_cons.mp S
  obtain ⟨z1, z2, z3, z4, z5, z6, z7, z8⟩ := hz
  have he := zW_at (B := B) (cy := cy) (hi := hi) (hr := hr) h1
  rw [zE_o hk] at he
  refine va_get (C := C) (T := T) (N := N) (ci := c) C'.1 C'.2.1 C'.2.2.2.2.2.1 z3 C'.2.2.2.2.1 C'.2.2.2.2.2.2.2.2 G.2.2.2.1 _ he z1 i hs (C'.2.2.2.2.2.1 _ hl) (fun _ h => h) (v := zv B (.inr o)) ?_ hd (kk p l e s m args below meth c' H locs cells slots D cy B lsr C' L (zok_cons (v := .inr o) (by rw [← ho]; exact zokH_r G.1 _ _ _) S2) G)
  rw [zFs_get (by rw [z2]; exact hs), hrf, ← ho]
  exact congrArg some (zf_rf B _)
theorem VP.putI {k c N i : Nat} {j x : Int} {C : String} {T : u_T} {ty : Nat → FieldType} {index : Nat} (hd : decode (zBy y) pc = .ok (.putfield index, 3)) (hz : zCl c C T N ty) (hk : zSh k = .inl c) (hs : i < N) (hrf : zRF c i = false)
    (hl : Cond.fieldLink (zNm y).cls index (T i).1 (T i).2.1 (T i).2.2.1 ∈ zTb) (hf : (T i).2.2.2 = false) (hn : narrow (ty i) (.int (Int32.ofInt x)) = .int (Int32.ofInt x) ∧ fits (ty i) (.int (Int32.ofInt x)) = true)
    (kk : VP y (pc + 3) ls st n ac av (zup hi k j (i : Int) x) hr Q) : VP y pc ls (.inl x :: .inr (some (k, j)) :: st) n ac av hi hr Q := by
  intro p l e s m args below meth c' H locs cells slots D cy B lsr C' L S G
  obtain ⟨hx, S1⟩ := List.forall_mem_cons.mp S
  obtain ⟨h1, S2⟩ := List.forall_mem_cons.mp S1
  obtain ⟨z1, z2, z3, z4, z5, z6, z7, z8⟩ := hz
  obtain ⟨g1, g2, g3, g4, g5, g6, g7, g8⟩ := G
  have he := zW_at (B := B) (cy := cy) (hi := hi) (hr := hr) h1
  rw [zE_o hk] at he
  refine va_put (C := C) (T := T) (N := N) (ci := c) (v := .int (Int32.ofInt x)) C'.1 C'.2.1 C'.2.2.2.2.2.1 z3 ty z4 z5 C'.2.2.2.2.1 C'.2.2.2.2.2.2.2.2 g4 zW_D g6 _ he z1 i hs (C'.2.2.2.2.2.1 _ hl) (fun _ h => h) hf (z4 i hs) hn.1 hn.2 (by rw [zFs_len, z2]; exact hs) hd (fun H1 locs1 hP _ hS => ?_)
  rw [show zA B (k, j) = B + zOff k j from rfl, zW_set (hi' := zup hi k j (i : Int) x) (hr' := hr) g2 h1.1 h1.2 ?_ (fun q' hq' => zE_up hq')] at hP
  · exact kk p l e s m args below meth c' H1 locs1 cells slots D cy B lsr C' L S2 ⟨zokH_up g1 hx, g2, g3, hP, g5, hS, g7, g8⟩
  · rw [zE_o hk, zFs_set (hi' := zup hi k j (i : Int) x) (hr' := hr) (by rw [z2]; exact hs)]
    · rw [hrf]; simp [zup]
    · intro s' hs'
      refine ⟨?_, rfl⟩
      simp [zup]
      omega
theorem z_refty {t : FieldType} (h : (∃ C, t = .object C) ∨ ∃ u, t = .array u) (B : Nat) (o : Option (Nat × Int)) : narrow t (zv B (.inr o)) = zv B (.inr o) ∧ fits t (zv B (.inr o)) = true := by
  rcases h with ⟨C, rfl⟩ | ⟨u, rfl⟩ <;> cases o <;> exact ⟨rfl, rfl⟩
theorem VP.putR {k c N i : Nat} {j : Int} {o : Option (Nat × Int)} {C : String} {T : u_T} {ty : Nat → FieldType} {index : Nat} (hd : decode (zBy y) pc = .ok (.putfield index, 3)) (hz : zCl c C T N ty) (hk : zSh k = .inl c) (hs : i < N) (hrf : zRF c i = true)
    (hl : Cond.fieldLink (zNm y).cls index (T i).1 (T i).2.1 (T i).2.2.1 ∈ zTb) (hf : (T i).2.2.2 = false ∨ ((T i).2.2.2 = true ∧ (zNm y).name = "<init>" ∧ (T i).1 = (zNm y).cls)) (hn : (∃ C, ty i = .object C) ∨ ∃ u, ty i = .array u)
    (kk : VP y (pc + 3) ls st n ac av hi (zupR hr k j (i : Int) o) Q) : VP y pc ls (.inr o :: .inr (some (k, j)) :: st) n ac av hi hr Q := by
  intro p l e s m args below meth c' H locs cells slots D cy B lsr C' L S G
  obtain ⟨hx, S1⟩ := List.forall_mem_cons.mp S
  obtain ⟨h1, S2⟩ := List.forall_mem_cons.mp S1
  obtain ⟨z1, z2, z3, z4, z5, z6, z7, z8⟩ := hz
  obtain ⟨g1, g2, g3, g4, g5, g6, g7, g8⟩ := G
  have he := zW_at (B := B) (cy := cy) (hi := hi) (hr := hr) h1
  rw [zE_o hk] at he
  have hn2 := z_refty hn B o
  have fin : ∀ (H1 : Heap) (locs1 : List Loc), va_P D vwCl ((zW B cy n hi hr).set (zOff k j) (zA B (k, j), .inr (c, (zFs B hi hr (k, j) c).set i (zv B (.inr o))))) H1 → va_S (fun q => B ≤ q) s.heap H1 locs1 → W p l e (zRm y) s m args below meth c' H1 locs1 cells slots (MQ below (zQc B cy D (zMc y) Q) args s (zMc y) (zMs y) (fun q => B ≤ q)) (F0 m (pc + 3) lsr (st.map (zv B))) := by
    intro H1 locs1 hP hS
    rw [show zA B (k, j) = B + zOff k j from rfl, zW_set (hi' := hi) (hr' := zupR hr k j (i : Int) o) g2 h1.1 h1.2 ?_ (fun q' hq' => zE_upR hq')] at hP
    · exact kk p l e s m args below meth c' H1 locs1 cells slots D cy B lsr C' L S2 ⟨zokH_upR g1 hx, g2, g3, hP, g5, hS, g7, g8⟩
    · rw [zE_o hk, zFs_set (hi' := hi) (hr' := zupR hr k j (i : Int) o) (by rw [z2]; exact hs)]
      · rw [hrf]; simp [zupR, zf_rf]
      · intro s' hs'
        refine ⟨rfl, ?_⟩
        simp [zupR]
        omega
  rcases hf with hf | ⟨hf, hf2, hf3⟩
  · exact va_put (C := C) (T := T) (N := N) (ci := c) (v := zv B (.inr o)) C'.1 C'.2.1 C'.2.2.2.2.2.1 z3 ty z4 z5 C'.2.2.2.2.1 C'.2.2.2.2.2.2.2.2 g4 zW_D g6 _ he z1 i hs (C'.2.2.2.2.2.1 _ hl) (fun _ h => h) hf (z4 i hs) hn2.1 hn2.2 (by rw [zFs_len, z2]; exact hs) hd (fun H1 locs1 hP _ hS => fin H1 locs1 hP hS)
  · exact va_putF (C := C) (T := T) (N := N) (ci := c) (v := zv B (.inr o)) C'.1 C'.2.1 C'.2.2.2.2.2.1 z3 ty z4 z5 C'.2.2.2.2.1 C'.2.2.2.2.2.2.2.2 g4 zW_D g6 _ he z1 i hs (C'.2.2.2.2.2.1 _ hl) (fun _ h => h) hf (by rw [C'.2.2.2.2.2.2.2.1]; exact hf2) hf3 (z4 i hs) hn2.1 hn2.2 (by rw [zFs_len, z2]; exact hs) hd (fun H1 locs1 hP _ hS => fin H1 locs1 hP hS)
theorem zTys_at {cy : Nat → ClassId} {t : Nat} (h : t < 6) : (zTys cy)[t]? = some (cy t, ([.int, .byte, .boolean, .object RX0, .object RX3, .object RX9] : List FieldType).getD t .int) := by
  match t, h with
  | 0, _ => rfl
  | 1, _ => rfl
  | 2, _ => rfl
  | 3, _ => rfl
  | 4, _ => rfl
  | 5, _ => rfl
theorem VP.iaload {k len : Nat} {j x : Int} (hd : decode (zBy y) pc = .ok (.iaload, 1)) (hk : zSh k = .inr (0, len)) (h0 : 0 ≤ x) (hx : x < len) (kk : VP y (pc + 1) ls (.inl (hi k j x) :: st) n ac av hi hr Q) : VP y pc ls (.inl x :: .inr (some (k, j)) :: st) n ac av hi hr Q := by
  intro p l e s m args below meth c' H locs cells slots D cy B lsr C' L S G
  obtain ⟨hi0, S1⟩ := List.forall_mem_cons.mp S
  obtain ⟨h1, S2⟩ := List.forall_mem_cons.mp S1
  have he := zW_at (B := B) (cy := cy) (hi := hi) (hr := hr) h1
  rw [zE_a hk (by decide)] at he
  have K := kk p l e s m args below meth c' H locs cells slots D cy B lsr C' L (zok_cons (v := .inl (hi k j x)) (G.1.1 _ _ _) S2) G
  refine va_iald C'.1 C'.2.1 C'.2.2.2.2.2.2.2.2 G.2.2.2.1 _ 0 he (zTys_at (by decide)) (z_in hi0 h0 hx) hd ?_
  rw [z_cl hi0 h0]
  exact K
theorem VP.baload {k len t : Nat} {j x : Int} (hd : decode (zBy y) pc = .ok (.baload, 1)) (hk : zSh k = .inr (t, len)) (ht : t = 1 ∨ t = 2) (h0 : 0 ≤ x) (hx : x < len) (kk : VP y (pc + 1) ls (.inl (hi k j x) :: st) n ac av hi hr Q) : VP y pc ls (.inl x :: .inr (some (k, j)) :: st) n ac av hi hr Q := by
  intro p l e s m args below meth c' H locs cells slots D cy B lsr C' L S G
  obtain ⟨hi0, S1⟩ := List.forall_mem_cons.mp S
  obtain ⟨h1, S2⟩ := List.forall_mem_cons.mp S1
  have he := zW_at (B := B) (cy := cy) (hi := hi) (hr := hr) h1
  rw [zE_a hk (by omega)] at he
  have K := kk p l e s m args below meth c' H locs cells slots D cy B lsr C' L (zok_cons (v := .inl (hi k j x)) (G.1.1 _ _ _) S2) G
  rcases ht with rfl | rfl
  · refine va_bald C'.1 C'.2.1 C'.2.2.2.2.2.2.2.2 G.2.2.2.1 _ 1 he (zTys_at (by decide)) (z_in hi0 h0 hx) hd ?_
    rw [z_cl hi0 h0]
    exact K
  · refine va_zald C'.1 C'.2.1 C'.2.2.2.2.2.2.2.2 G.2.2.2.1 _ 2 he (zTys_at (by decide)) (z_in hi0 h0 hx) hd ?_
    rw [z_cl hi0 h0]
    exact K
theorem VP.aaload {k len t : Nat} {j x : Int} (hd : decode (zBy y) pc = .ok (.aaload, 1)) (hk : zSh k = .inr (t, len)) (ht : t = 3 ∨ t = 4 ∨ t = 5) (h0 : 0 ≤ x) (hx : x < len) {o : Option (Nat × Int)} (ho : hr k j x = o) (kk : VP y (pc + 1) ls (.inr o :: st) n ac av hi hr Q) : VP y pc ls (.inl x :: .inr (some (k, j)) :: st) n ac av hi hr Q := by
  intro p l e s m args below meth c' H locs cells slots D cy B lsr C' L S G
  obtain ⟨hi0, S1⟩ := List.forall_mem_cons.mp S
  obtain ⟨h1, S2⟩ := List.forall_mem_cons.mp S1
  have he := zW_at (B := B) (cy := cy) (hi := hi) (hr := hr) h1
  rw [zE_q hk (by omega)] at he
  have K := kk p l e s m args below meth c' H locs cells slots D cy B lsr C' L (zok_cons (v := .inr o) (by rw [← ho]; exact zokH_r G.1 _ _ _) S2) G
  rcases ht with rfl | rfl | rfl
  · refine va_aldq C'.1 C'.2.1 C'.2.2.2.2.2.2.2.2 G.2.2.2.1 _ 3 he (zTys_at (by decide)) (z_in hi0 h0 hx) hd ?_
    rw [z_cl hi0 h0, zf_rf, ho]
    exact K
  · refine va_aldq C'.1 C'.2.1 C'.2.2.2.2.2.2.2.2 G.2.2.2.1 _ 4 he (zTys_at (by decide)) (z_in hi0 h0 hx) hd ?_
    rw [z_cl hi0 h0, zf_rf, ho]
    exact K
  · refine va_aldq C'.1 C'.2.1 C'.2.2.2.2.2.2.2.2 G.2.2.2.1 _ 5 he (zTys_at (by decide)) (z_in hi0 h0 hx) hd ?_
    rw [z_cl hi0 h0, zf_rf, ho]
    exact K
theorem z_updI {hi : zI} {k : Nat} {j x v : Int} (h : zInR x) (h0 : 0 ≤ x) : upd (fun s : Nat => Int32.ofInt (hi k j (s : Int))) (Int32.ofInt x).toNatClampNeg (Int32.ofInt v) = fun s : Nat => Int32.ofInt (zup hi k j x v k j (s : Int)) := by
  funext s
  have e := z_cl h h0
  by_cases hs : s = (Int32.ofInt x).toNatClampNeg
  · subst hs
    simp [upd, zup, e]
  · have h2 : ¬ (s : Int) = x := fun h3 => hs (by omega)
    simp [upd, zup, hs, h2]
theorem VP.iastore {k len : Nat} {j x v : Int} (hd : decode (zBy y) pc = .ok (.iastore, 1)) (hk : zSh k = .inr (0, len)) (h0 : 0 ≤ x) (hx : x < len) (kk : VP y (pc + 1) ls st n ac av (zup hi k j x v) hr Q) : VP y pc ls (.inl v :: .inl x :: .inr (some (k, j)) :: st) n ac av hi hr Q := by
  intro p l e s m args below meth c' H locs cells slots D cy B lsr C' L S G
  obtain ⟨hv, S0⟩ := List.forall_mem_cons.mp S
  obtain ⟨hi0, S1⟩ := List.forall_mem_cons.mp S0
  obtain ⟨h1, S2⟩ := List.forall_mem_cons.mp S1
  obtain ⟨g1, g2, g3, g4, g5, g6, g7, g8⟩ := G
  have he := zW_at (B := B) (cy := cy) (hi := hi) (hr := hr) h1
  rw [zE_a hk (by decide)] at he
  refine va_iast C'.1 C'.2.1 C'.2.2.2.2.2.2.2.2 g4 zW_D g6 _ 0 he (zTys_at (by decide)) (z_in hi0 h0 hx) hd (fun H1 locs1 hP _ hS => ?_)
  rw [show zA B (k, j) = B + zOff k j from rfl, zW_set (hi' := zup hi k j x v) (hr' := hr) g2 h1.1 h1.2 ?_ (fun q' hq' => zE_up hq')] at hP
  · exact kk p l e s m args below meth c' H1 locs1 cells slots D cy B lsr C' L S2 ⟨zokH_up g1 hv, g2, g3, hP, g5, hS, g7, g8⟩
  · rw [zE_a hk (by decide), z_updI hi0 h0]
theorem VP.bastore {k len t : Nat} {j x v : Int} (hd : decode (zBy y) pc = .ok (.bastore, 1)) (hk : zSh k = .inr (t, len)) (ht : (t = 1 ∧ -128 ≤ v ∧ v < 128) ∨ (t = 2 ∧ 0 ≤ v ∧ v < 2)) (h0 : 0 ≤ x) (hx : x < len) (kk : VP y (pc + 1) ls st n ac av (zup hi k j x v) hr Q) : VP y pc ls (.inl v :: .inl x :: .inr (some (k, j)) :: st) n ac av hi hr Q := by
  intro p l e s m args below meth c' H locs cells slots D cy B lsr C' L S G
  obtain ⟨hv, S0⟩ := List.forall_mem_cons.mp S
  obtain ⟨hi0, S1⟩ := List.forall_mem_cons.mp S0
  obtain ⟨h1, S2⟩ := List.forall_mem_cons.mp S1
  obtain ⟨g1, g2, g3, g4, g5, g6, g7, g8⟩ := G
  have he := zW_at (B := B) (cy := cy) (hi := hi) (hr := hr) h1
  rw [zE_a hk (by omega)] at he
  rcases ht with ⟨rfl, hv1, hv2⟩ | ⟨rfl, hv1, hv2⟩
  · refine va_bast C'.1 C'.2.1 C'.2.2.2.2.2.2.2.2 g4 zW_D g6 _ 1 he (zTys_at (by decide)) (z_in hi0 h0 hx) hd (fun H1 locs1 hP _ hS => ?_)
    have hb : vp_nar .byte (Int32.ofInt v) = Int32.ofInt v := by
      rw [vp_nar_byte]
      apply Int32.toInt_inj.1
      rw [Int8.toInt_toInt32, Int32.toInt_toInt8, z_ofI hv, Int.bmod_eq_of_le (by omega) (by omega)]
    rw [hb] at hP
    rw [show zA B (k, j) = B + zOff k j from rfl, zW_set (hi' := zup hi k j x v) (hr' := hr) g2 h1.1 h1.2 ?_ (fun q' hq' => zE_up hq')] at hP
    · exact kk p l e s m args below meth c' H1 locs1 cells slots D cy B lsr C' L S2 ⟨zokH_up g1 hv, g2, g3, hP, g5, hS, g7, g8⟩
    · rw [zE_a hk (by decide), z_updI hi0 h0]
  · refine va_zast C'.1 C'.2.1 C'.2.2.2.2.2.2.2.2 g4 zW_D g6 _ 2 he (zTys_at (by decide)) (z_in hi0 h0 hx) hd (fun H1 locs1 hP _ hS => ?_)
    have hb : vp_nar .boolean (Int32.ofInt v) = Int32.ofInt v := by
      rcases (show v = 0 ∨ v = 1 by omega) with rfl | rfl <;> decide +kernel
    rw [hb] at hP
    rw [show zA B (k, j) = B + zOff k j from rfl, zW_set (hi' := zup hi k j x v) (hr' := hr) g2 h1.1 h1.2 ?_ (fun q' hq' => zE_up hq')] at hP
    · exact kk p l e s m args below meth c' H1 locs1 cells slots D cy B lsr C' L S2 ⟨zokH_up g1 hv, g2, g3, hP, g5, hS, g7, g8⟩
    · rw [zE_a hk (by decide), z_updI hi0 h0]
theorem VP.alen {k len t : Nat} {j : Int} (hd : decode (zBy y) pc = .ok (.arraylength, 1)) (hk : zSh k = .inr (t, len)) (ht : t < 6) (hn : len < 2147483648) (kk : VP y (pc + 1) ls (.inl (len : Int) :: st) n ac av hi hr Q) : VP y pc ls (.inr (some (k, j)) :: st) n ac av hi hr Q := by
  intro p l e s m args below meth c' H locs cells slots D cy B lsr C' L S G
  obtain ⟨h1, S2⟩ := List.forall_mem_cons.mp S
  have he := zW_at (B := B) (cy := cy) (hi := hi) (hr := hr) h1
  have K := kk p l e s m args below meth c' H locs cells slots D cy B lsr C' L (zok_cons (v := .inl (len : Int)) ⟨by omega, by omega⟩ S2) G
  by_cases h3 : t < 3
  · rw [zE_a hk h3] at he
    exact va_alen (v := Int32.ofInt (len : Int)) C'.1 C'.2.1 C'.2.2.2.2.2.2.2.2 G.2.2.2.1 _ t he (zTys_at ht) (by rfl) hd K
  · rw [zE_q hk h3] at he
    exact va_alen (v := Int32.ofInt (len : Int)) C'.1 C'.2.1 C'.2.2.2.2.2.2.2.2 G.2.2.2.1 _ t he (zTys_at ht) (by rfl) hd K
theorem VP.aastore {k len t k2 c : Nat} {j x j2 : Int} {C : String} {T : u_T} {N : Nat} {ty : Nat → FieldType} (hd : decode (zBy y) pc = .ok (.aastore, 1)) (hk : zSh k = .inr (t, len)) (hk2 : zSh k2 = .inl c) (hz : zCl c C T N ty) (ht : (t = 3 ∧ C = RX0) ∨ (t = 4 ∧ C = RX3) ∨ (t = 5 ∧ C = RX9)) (h0 : 0 ≤ x) (hx : x < len) (kk : VP y (pc + 1) ls st n ac av hi (zupR hr k j x (some (k2, j2))) Q) : VP y pc ls (.inr (some (k2, j2)) :: .inl x :: .inr (some (k, j)) :: st) n ac av hi hr Q := by
  intro p l e s m args below meth c' H locs cells slots D cy B lsr C' L S G
  obtain ⟨hv, S0⟩ := List.forall_mem_cons.mp S
  obtain ⟨hi0, S1⟩ := List.forall_mem_cons.mp S0
  obtain ⟨h1, S2⟩ := List.forall_mem_cons.mp S1
  obtain ⟨g1, g2, g3, g4, g5, g6, g7, g8⟩ := G
  obtain ⟨z1, z2, z3, z4, z5, z6, z7, z8⟩ := hz
  have he := zW_at (B := B) (cy := cy) (hi := hi) (hr := hr) h1
  rw [zE_q hk (by omega)] at he
  have he2 := zW_at (B := B) (cy := cy) (hi := hi) (hr := hr) hv
  rw [zE_o hk2] at he2
  have htt : (zTys cy)[t]? = some (cy t, .object C) := by
    rcases ht with ⟨rfl, rfl⟩ | ⟨rfl, rfl⟩ | ⟨rfl, rfl⟩ <;> rfl
  refine va_astq (r := (C, T, N)) C'.1 C'.2.1 C'.2.2.2.2.2.2.2.2 g4 zW_D g6 _ t _ c he htt he2 z1 (z_in hi0 h0 hx) hd (fun H1 locs1 hP _ hS => ?_)
  rw [show zA B (k, j) = B + zOff k j from rfl, zW_set (hi' := hi) (hr' := zupR hr k j x (some (k2, j2))) g2 h1.1 h1.2 ?_ (fun q' hq' => zE_upR hq')] at hP
  · exact kk p l e s m args below meth c' H1 locs1 cells slots D cy B lsr C' L S2 ⟨zokH_upR g1 hv, g2, g3, hP, g5, hS, g7, g8⟩
  · rw [zE_q hk (by omega)]
    have e := z_cl hi0 h0
    have e2 : va_up (fun s : Nat => zf B (hr k j (s : Int))) (Int32.ofInt x).toNatClampNeg (some (zA B (k2, j2))) = fun s : Nat => zf B (zupR hr k j x (some (k2, j2)) k j (s : Int)) := by
      funext s
      by_cases hs : s = (Int32.ofInt x).toNatClampNeg
      · subst hs
        simp [va_up, zupR, e, zf]
      · have h2 : ¬ (s : Int) = x := fun h3 => hs (by omega)
        simp [va_up, zupR, hs, h2]
    rw [e2]
end ZR
end
section
theorem zSized {p : Program} {l : Launch} {e : Env} {R : Room} {s : State} {m : MethodId} {args : Array Value} {below : List Frame} {meth : Method} {c : Code} {H : Heap} {locs : List Loc} {cells slots : Nat} {Qf : State → Prop} {g : JFrame}
    (k : H.size ≤ s.heap.size + cells → W p l e R s m args below meth c H locs cells slots Qf g) : W p l e R s m args below meth c H locs cells slots Qf g := fun T hT X => k (hT ▸ X.heapSize) T hT X
theorem zSize {B : Nat} {cy : Nat → ClassId} {n : Nat} {hi : zI} {hr : zR} {D : va_G} {s : State} {H : Heap} {cells : Nat} {locs : List Loc} (g3 : B + n = s.heap.size + cells) (g4 : va_P D vwCl (zW B cy n hi hr) H) (g5 : B ≤ s.heap.size) (g6 : va_S (fun q => B ≤ q) s.heap H locs) (h : H.size ≤ s.heap.size + cells) : H.size = B + n := by
  have h2 := g6.1
  cases n with
  | zero => omega
  | succ n =>
    have h1 := (g4 n _ (zW_get (Nat.lt_succ_self n))).lt
    simp only at h1
    omega
theorem zW_push {B : Nat} {cy : Nat → ClassId} {n : Nat} {hi hi' : zI} {hr hr' : zR} (hn : n < zTOT) {q : Nat × Int} (hq : zAL n = q) (ho : ∀ q', q' ≠ q → zE B cy hi' hr' q' = zE B cy hi hr q') : zW B cy (n + 1) hi' hr' = zW B cy n hi hr ++ [(B + n, zE B cy hi' hr' q)] := by
  unfold zW
  rw [List.range_succ, List.map_append]
  congr 1
  · apply List.map_congr_left
    intro i hi0
    rw [List.mem_range] at hi0
    rw [ho]
    intro e
    have h1 := zTab i (by omega)
    have h2 := zTab n hn
    rw [e] at h1
    rw [hq] at h2
    omega
  · simp [hq]
/-- a new cell's address is the next one -/
theorem zFresh {B : Nat} {cy : Nat → ClassId} {n : Nat} {hi : zI} {hr : zR} {D : va_G} {H1 : Heap} {a : Nat} {x : va_E} (hP : va_P D vwCl (zW B cy n hi hr ++ [(a, x)]) H1) (hD : va_D (fun q => B ≤ q) (zW B cy n hi hr ++ [(a, x)])) (hs : H1.size ≤ B + n + 1) : a = B + n := by
  have hl : (zW B cy n hi hr).length = n := by simp [zW]
  have hlast : (zW B cy n hi hr ++ [(a, x)])[n]? = some (a, x) := by
    rw [List.getElem?_append_right (by omega), hl]; simp
  have h1 := (hP n _ hlast).lt
  have h2 := hD.2 n _ hlast
  simp only at h1 h2
  by_cases h : a < B + n
  · exfalso
    have h3 : a - B < n := by omega
    have h4 : (zW B cy n hi hr ++ [(a, x)])[a - B]? = some (B + (a - B), zE B cy hi hr (zAL (a - B))) := by
      rw [List.getElem?_append_left (by omega), zW_get h3]
    have h5 := hD.1 _ _ _ _ h4 hlast (by show B + (a - B) = a; omega)
    omega
  · omega
section ZR
variable {y : zM} {pc : Nat} {ls : List (Option zV)} {st : List zV} {n ac av : Nat} {hi : zI} {hr : zR} {Q : zQ}
theorem zclr_self (hi : zI) (k : Nat) (j s : Int) : zclr hi k j k j s = 0 := by simp [zclr]
theorem zclrR_self (hr : zR) (k : Nat) (j s : Int) : zclrR hr k j k j s = none := by simp [zclrR]
theorem VP.new {k c N : Nat} {j : Int} {C : String} {T : u_T} {ty : Nat → FieldType} {index : Nat} (hd : decode (zBy y) pc = .ok (.new index, 3)) (hz : zCl c C T N ty) (hl : Cond.classLink (zNm y).cls index C ∈ zTb) (hn : n < zTOT) (hq : zAL n = (k, j)) (hk : zSh k = .inl c) (hac : 1 ≤ ac) (hav : N ≤ av)
    (kk : VP y (pc + 3) ls (.inr (some (k, j)) :: st) (n + 1) (ac - 1) (av - N) (zclr hi k j) (zclrR hr k j) Q) : VP y pc ls st n ac av hi hr Q := by
  intro p l e s m args below meth c' H locs cells slots D cy B lsr C' L S G
  obtain ⟨z1, z2, z3, z4, z5, z6, z7, z8⟩ := hz
  obtain ⟨g1, g2, g3, g4, g5, g6, g7, g8⟩ := G
  refine va_new (C := C) (T := T) (N := N) (ci := c) (fs := zFs B (zclr hi k j) (zclrR hr k j) (k, j) c) C'.1 C'.2.1 C'.2.2.2.2.2.1 z3 ty z4 C'.2.2.2.2.1 (C'.2.2.2.2.2.1 _ hl) (C'.2.2.2.2.2.1 _ z7) (C'.2.2.2.2.2.1 _ z8) C'.2.2.2.2.2.2.2.2 g4 zW_D g6 (fun q h => Nat.le_trans g5 h) z1 ?_ ?_ ?_ hd (fun a H1 hP hD hS => ?_)
  · intro i hi0
    rw [z6 i hi0]
    simp only [vp_V, List.getD_eq_getElem?_getD]
    rw [zFs_get (by rw [z2]; exact hi0)]
    show _ = (if zRF c i = true then va_rf (zf B (zclrR hr k j k j (i : Int))) else Value.int (Int32.ofInt (zclr hi k j k j (i : Int))))
    rw [zclr_self, zclrR_self]
    rfl
  · show cells + 1 ≤ zMc y
    omega
  · show slots + N ≤ zMs y
    omega
  · refine zSized (fun hs => ?_)
    have ha := zFresh hP hD (by omega)
    subst ha
    rw [← zE_o (cy := cy) hk, ← zW_push hn hq (fun q' h => zE_clr h)] at hP
    have hv : zval (n + 1) (k, j) := by
      have h1 := zTab n hn
      rw [hq] at h1
      exact ⟨by show zOff k j < n + 1; simp only at h1; omega, by show zAL (zOff k j) = _; simp only at h1; rw [h1, hq]⟩
    have ea : zA B (k, j) = B + n := by
      have h1 := zTab n hn
      rw [hq] at h1
      simp only at h1
      show B + zOff k j = _
      rw [h1]
    have K := kk p l e s m args below meth c' H1 locs (cells + 1) (slots + N) D cy B lsr C' (L.mono (Nat.le_succ n)) (zok_cons (v := .inr (some (k, j))) hv (fun v h => zok_mono (Nat.le_succ n) (S v h))) ⟨zokH_clr g1, hn, by omega, hP, g5, hS, by omega, by omega⟩
    have K2 : W p l e (zRm y) s m args below meth c' H1 locs (cells + 1) (slots + N) _ (F0 m (pc + 3) lsr (.ref (zA B (k, j)) :: st.map (zv B))) := K
    rw [ea] at K2
    exact K2
theorem VP.newarr {k len t : Nat} {j : Int} {atype : ArrayType} (hd : decode (zBy y) pc = .ok (.newarray atype, 2)) (hl : Cond.arrayClass (newarray.typeOf atype) ∈ zTb) (ht : (t = 0 ∧ newarray.typeOf atype = .int) ∨ (t = 1 ∧ newarray.typeOf atype = .byte) ∨ (t = 2 ∧ newarray.typeOf atype = .boolean)) (hn : n < zTOT) (hq : zAL n = (k, j)) (hk : zSh k = .inr (t, len)) (hlen : len < 67108864) (hac : 1 ≤ ac) (hav : len ≤ av)
    (kk : VP y (pc + 2) ls (.inr (some (k, j)) :: st) (n + 1) (ac - 1) (av - len) (zclr hi k j) (zclrR hr k j) Q) : VP y pc ls (.inl (len : Int) :: st) n ac av hi hr Q := by
  intro p l e s m args below meth c' H locs cells slots D cy B lsr C' L S G
  obtain ⟨g1, g2, g3, g4, g5, g6, g7, g8⟩ := G
  obtain ⟨h0, S2⟩ := List.forall_mem_cons.mp S
  have ht6 : t < 3 := by rcases ht with ⟨rfl, _⟩ | ⟨rfl, _⟩ | ⟨rfl, _⟩ <;> decide
  have hx : zInR (len : Int) := ⟨by omega, by omega⟩
  refine va_newa (ty := newarray.typeOf atype) (N' := len) (a0 := (len, .inl (fun s : Nat => Int32.ofInt (zclr hi k j k j (s : Int))))) C'.1 C'.2.1 (C'.2.2.2.2.2.1 _ hl) rfl C'.2.2.2.2.2.2.2.2 g4 zW_D g6 (fun q h => Nat.le_trans g5 h) ?_ ?_ ?_ ?_ ?_ ?_ hd (fun a cA H1 hK hP hD hS => ?_)
  · intro cA
    rw [vp_cell_i]
    congr 1
    funext s
    rw [zclr_self]
    rcases ht with ⟨_, h⟩ | ⟨_, h⟩ | ⟨_, h⟩ <;> rw [h] <;> rfl
  · rw [z_0, z_lt hx (by decide)]; omega
  · have := z_cl hx (by omega)
    omega
  · rcases ht with ⟨_, h⟩ | ⟨_, h⟩ | ⟨_, h⟩ <;> rw [h] <;> show len * _ ≤ _ <;> simp [componentBytes] <;> omega
  · show cells + 1 ≤ zMc y
    omega
  · show slots + len ≤ zMs y
    omega
  · refine zSized (fun hs => ?_)
    have ha := zFresh hP hD (by omega)
    subst ha
    have hc : cA = cy t := by
      have h1 := (hK.2 (zTys cy).length (cA, newarray.typeOf atype) (by rw [List.getElem?_append_right (Nat.le_refl _)]; simp)).2
      have h2 := (C'.2.2.2.2.2.2.2.2.2 t _ (zTys_at (show t < 6 by omega))).2
      rcases ht with ⟨rfl, h⟩ | ⟨rfl, h⟩ | ⟨rfl, h⟩ <;> rw [h] at h1 <;> exact Option.some.inj (h1.symm.trans h2)
    subst hc
    rw [← zE_a (cy := cy) (hr := zclrR hr k j) hk ht6, ← zW_push hn hq (fun q' h => zE_clr h)] at hP
    have h1 := zTab n hn
    rw [hq] at h1
    simp only at h1
    have hv : zval (n + 1) (k, j) := ⟨by show zOff k j < n + 1; omega, by show zAL (zOff k j) = _; rw [h1, hq]⟩
    have ea : zA B (k, j) = B + n := by
      show B + zOff k j = _
      rw [h1]
    have K := kk p l e s m args below meth c' H1 locs (cells + 1) (slots + len) D cy B lsr C' (L.mono (Nat.le_succ n)) (zok_cons (v := .inr (some (k, j))) hv (fun v h => zok_mono (Nat.le_succ n) (S2 v h))) ⟨zokH_clr g1, hn, by omega, hP, g5, hS, by omega, by omega⟩
    have K2 : W p l e (zRm y) s m args below meth c' H1 locs (cells + 1) (slots + len) _ (F0 m (pc + 2) lsr (.ref (zA B (k, j)) :: st.map (zv B))) := K
    rw [ea] at K2
    exact K2
theorem VP.anewarr {k len t : Nat} {j : Int} {index : Nat} {C : String} (hd : decode (zBy y) pc = .ok (.anewarray index, 3)) (hcl : Cond.classLink (zNm y).cls index C ∈ zTb) (hl : Cond.arrayOver (.object C) ∈ zTb) (ht : (t = 3 ∧ C = RX0) ∨ (t = 4 ∧ C = RX3) ∨ (t = 5 ∧ C = RX9)) (hn : n < zTOT) (hq : zAL n = (k, j)) (hk : zSh k = .inr (t, len)) (hlen : len < 67108864) (hac : 1 ≤ ac) (hav : len ≤ av)
    (kk : VP y (pc + 3) ls (.inr (some (k, j)) :: st) (n + 1) (ac - 1) (av - len) (zclr hi k j) (zclrR hr k j) Q) : VP y pc ls (.inl (len : Int) :: st) n ac av hi hr Q := by
  intro p l e s m args below meth c' H locs cells slots D cy B lsr C' L S G
  obtain ⟨g1, g2, g3, g4, g5, g6, g7, g8⟩ := G
  obtain ⟨h0, S2⟩ := List.forall_mem_cons.mp S
  have ht6 : ¬ t < 3 := by rcases ht with ⟨rfl, _⟩ | ⟨rfl, _⟩ | ⟨rfl, _⟩ <;> decide
  have hx : zInR (len : Int) := ⟨by omega, by omega⟩
  have hlr : va_AO C s := by
    have h9 := C'.2.2.2.2.2.1 _ hl
    exact h9
  refine va_newq (N' := len) C'.1 C'.2.1 C'.2.2.2.2.1 (C'.2.2.2.2.2.1 _ hcl) hlr C'.2.2.2.2.2.2.2.2 g4 zW_D g6 (fun q h => Nat.le_trans g5 h) ?_ ?_ (by omega) ?_ ?_ hd (fun a cA H1 hK hP hD hS => ?_)
  · rw [z_0, z_lt hx (by decide)]; omega
  · have := z_cl hx (by omega)
    omega
  · show cells + 1 ≤ zMc y
    omega
  · show slots + len ≤ zMs y
    omega
  · refine zSized (fun hs => ?_)
    have ha := zFresh hP hD (by omega)
    subst ha
    have hc : cA = cy t := by
      have h1 := (hK.2 (zTys cy).length (cA, .object C) (by rw [List.getElem?_append_right (Nat.le_refl _)]; simp)).2
      have h2 := (C'.2.2.2.2.2.2.2.2.2 t (cy t, .object C) (by rcases ht with ⟨rfl, rfl⟩ | ⟨rfl, rfl⟩ | ⟨rfl, rfl⟩ <;> rfl)).2
      obtain ⟨_, _, _, _, _, h3⟩ := h1
      obtain ⟨_, _, _, _, _, h4⟩ := h2
      exact Option.some.inj (h3.symm.trans h4)
    subst hc
    have e2 : (fun _ : Nat => (none : Option Nat)) = fun s : Nat => zf B (zclrR hr k j k j (s : Int)) := by
      funext s
      rw [zclrR_self]; rfl
    rw [e2, ← zE_q (cy := cy) (hi := zclr hi k j) hk ht6, ← zW_push hn hq (fun q' h => zE_clr h)] at hP
    have h1 := zTab n hn
    rw [hq] at h1
    simp only at h1
    have hv : zval (n + 1) (k, j) := ⟨by show zOff k j < n + 1; omega, by show zAL (zOff k j) = _; rw [h1, hq]⟩
    have ea : zA B (k, j) = B + n := by
      show B + zOff k j = _
      rw [h1]
    have K := kk p l e s m args below meth c' H1 locs (cells + 1) (slots + len) D cy B lsr C' (L.mono (Nat.le_succ n)) (zok_cons (v := .inr (some (k, j))) hv (fun v h => zok_mono (Nat.le_succ n) (S2 v h))) ⟨zokH_clr g1, hn, by omega, hP, g5, hS, by omega, by omega⟩
    have K2 : W p l e (zRm y) s m args below meth c' H1 locs (cells + 1) (slots + len) _ (F0 m (pc + 3) lsr (.ref (zA B (k, j)) :: st.map (zv B))) := K
    rw [ea] at K2
    exact K2
theorem zRet {Q : zQ} {D : va_G} {cy : Nat → ClassId} {B : Nat} {s t : State} {args : Array Value} {H : Heap} {locs : List Loc} {cells slots : Nat} (G : zG y n 0 av hi hr s H locs cells slots D cy B) (ht : t.heap = H) {r : Option zV} (hq : Q r n hi hr) (hr' : ∀ v, r = some v → zok n v) : zQc B cy D (zMc y) Q args s (.returned (r.map (zv B))) t := by
  obtain ⟨g1, g2, g3, g4, g5, g6, g7, g8⟩ := G
  refine ⟨⟨r, n, hi, hr, rfl, hq, hr', g1, g2, by omega, by rw [ht]; exact g4⟩, ?_⟩
  rw [va_F, ht]
  exact ⟨g6.1, g6.2.1⟩
theorem VP.vret (hd : decode (zBy y) pc = .ok (.return_, 1)) (hr0 : zRt y = none) (hq : Q none n hi hr) : VP y pc ls [] n 0 av hi hr Q := by
  intro p l e s m args below meth c' H locs cells slots D cy B lsr C' L S G
  refine W.widen (k := zMc y) (n := zMs y) (by have := G.2.2.2.2.2.2.1; omega) (by have := G.2.2.2.2.2.2.2; omega) ?_
  exact W.vret C'.1 C'.2.1 (C'.2.2.1.trans hr0) (fun t ht hW => zRet G ht hq (fun v h => by cases h)) G.2.2.2.2.2.1.2.2 hd C'.2.2.2.2.2.2.1
theorem VP.iret {x : Int} {t0 : FieldType} (hd : decode (zBy y) pc = .ok (.ireturn, 1)) (hr0 : zRt y = some t0) (hn : narrow t0 (.int (Int32.ofInt x)) = .int (Int32.ofInt x)) (hq : Q (some (.inl x)) n hi hr) : VP y pc ls [.inl x] n 0 av hi hr Q := by
  intro p l e s m args below meth c' H locs cells slots D cy B lsr C' L S G
  refine W.widen (k := zMc y) (n := zMs y) (by have := G.2.2.2.2.2.2.1; omega) (by have := G.2.2.2.2.2.2.2; omega) ?_
  exact W.zret C'.1 C'.2.1 (C'.2.2.1.trans hr0) hn (fun t ht hW => zRet G ht hq (fun v h => by cases h; exact S _ List.mem_cons_self)) G.2.2.2.2.2.1.2.2 hd C'.2.2.2.2.2.2.1
theorem VP.aret {o : Option (Nat × Int)} {C : String} (hd : decode (zBy y) pc = .ok (.areturn, 1)) (hr0 : zRt y = some (.object C)) (hq : Q (some (.inr o)) n hi hr) : VP y pc ls [.inr o] n 0 av hi hr Q := by
  intro p l e s m args below meth c' H locs cells slots D cy B lsr C' L S G
  refine W.widen (k := zMc y) (n := zMs y) (by have := G.2.2.2.2.2.2.1; omega) (by have := G.2.2.2.2.2.2.2; omega) ?_
  exact W.aret C'.1 C'.2.1 (C'.2.2.1.trans hr0) (Or.inl ⟨C, rfl⟩) (by cases o with | none => exact Or.inl rfl | some q => exact Or.inr ⟨_, rfl⟩) (fun t ht hW => zRet G ht hq (fun v h => by cases h; exact S _ List.mem_cons_self)) G.2.2.2.2.2.1.2.2 hd C'.2.2.2.2.2.2.1
end ZR
end
section
theorem zGoodAll : ∀ w ∈ zTg, goodWord w = true := fun w h => (List.mem_filter.mp h).2
def zXt (U : State) : Prop := ∀ w ∈ zNests, w.before #[] U = true
theorem zXt.warm {s U : State} (hW : s.WarmedH U.vm) (h : zXt s) : zXt U := by
  intro w hw
  have h1 := h w hw
  have h2 : (∃ a i x b, w = .methodLinkNest a i x b) ∨ ∃ C, w = .arrayOver (.object C) := by
    simp only [zNests, List.mem_cons, List.not_mem_nil, or_false] at hw
    rcases hw with h | h | h | h | h | h | h | h | h | h | h | h
    all_goals first | exact Or.inl ⟨_, _, _, _, h⟩ | exact Or.inr ⟨_, h⟩
  rcases h2 with ⟨a, i, x, b, rfl⟩ | ⟨C, rfl⟩
  · exact va_Nw.warmM hW h1
  · exact va_AO.moved hW.alike h1
theorem zXt.use {U : State} (h : zXt U) {A : Array Value} : ∀ w ∈ zNests, w.before A U = true := by
  intro w hw
  have h1 := h w hw
  have h2 : (∃ a i x b, w = .methodLinkNest a i x b) ∨ ∃ C, w = .arrayOver (.object C) := by
    simp only [zNests, List.mem_cons, List.not_mem_nil, or_false] at hw
    rcases hw with h | h | h | h | h | h | h | h | h | h | h | h
    all_goals first | exact Or.inl ⟨_, _, _, _, h⟩ | exact Or.inr ⟨_, h⟩
  rcases h2 with ⟨a, i, x, b, rfl⟩ | ⟨C, rfl⟩
  · exact va_Nw.use rfl h1
  · exact va_AO.use h1
theorem zXt.of {U : State} {A : Array Value} (h : ∀ w ∈ zTb, w.before A U = true) : zXt U := by
  intro w hw
  have h1 := h w (List.mem_append_right _ hw)
  have h2 : (∃ a i x b, w = .methodLinkNest a i x b) ∨ ∃ C, w = .arrayOver (.object C) := by
    simp only [zNests, List.mem_cons, List.not_mem_nil, or_false] at hw
    rcases hw with h | h | h | h | h | h | h | h | h | h | h | h
    all_goals first | exact Or.inl ⟨_, _, _, _, h⟩ | exact Or.inr ⟨_, h⟩
  rcases h2 with ⟨a, i, x, b, rfl⟩ | ⟨C, rfl⟩
  · exact va_Nw.of rfl h1
  · exact va_AO.of h1
def zen (y : zM) (vs : List zV) : List (Option zV) := vs.map some ++ List.replicate (zMx y - vs.length) none
def VPm (y : zM) (vs : List zV) (n : Nat) (hi : zI) (hr : zR) (Q : zQ) : Prop := VP y 0 (zen y vs) [] n (zMc y) (zMs y) hi hr Q
theorem lg_sl_len (B : Nat) (vs : List zV) : (lg_sl (vs.map (zv B))).length = vs.length := by
  induction vs with
  | nil => rfl
  | cons v vs ih =>
    show (lg_sl (zv B v :: vs.map (zv B))).length = _
    unfold lg_sl at ih ⊢
    rw [List.flatMap_cons, zv_cat, if_neg (by decide), List.length_append, ih]
    simp; omega
theorem z_args (B : Nat) : ∀ (vs : List zV) (i0 i : Nat) (v : zV), vs[i]? = some v → (i0 + i, zv B v) ∈ lv_args i0 (vs.map (zv B)) := by
  intro vs
  induction vs with
  | nil => intro i0 i v h; simp at h
  | cons w vs ih =>
    intro i0 i v h
    show _ ∈ lv_args i0 (zv B w :: vs.map (zv B))
    rw [lv_args, zv_cat, if_neg (by decide)]
    cases i with
    | zero =>
      simp at h
      subst h
      exact List.mem_cons_self
    | succ i =>
      refine List.mem_cons_of_mem _ ?_
      have := ih (i0 + 1) i v (by simpa using h)
      rw [show i0 + (i + 1) = i0 + 1 + i by omega]
      exact this
theorem zen_get {y : zM} {vs : List zV} {i : Nat} {v : zV} (h : (zen y vs)[i]? = some (some v)) : vs[i]? = some v := by
  unfold zen at h
  by_cases hi : i < vs.length
  · rw [List.getElem?_append_left (by simpa using hi)] at h
    simpa using h
  · rw [List.getElem?_append_right (by simp; omega)] at h
    simp [List.getElem?_replicate] at h
/-- a call's ground: heap, classes -/
def zB0 (D : va_G) (cy : Nat → ClassId) (B n : Nat) (hi : zI) (hr : zR) (U : State) : Prop := B + n = U.heap.size ∧ va_P D vwCl (zW B cy n hi hr) U.heap ∧ va_K D vwCl (zTys cy) U ∧ zXt U
theorem VPm.met {y : zM} {vs : List zV} {n : Nat} {hi : zI} {hr : zR} {Q : zQ} (h : VPm y vs n hi hr Q) (hy : plainName (zNm y).cls = true) (hlen : vs.length ≤ zMx y) (hok : ∀ v ∈ vs, zok n v) (hH : zokH n hi hr) (hn : n ≤ zTOT) (l : Launch) (D : va_G) (cy : Nat → ClassId) (B : Nat) :
    Met l (zNm y) (zWs y) (zRm y) (va_Pc (vs.map (zv B)) (zB0 D cy B n hi hr)) (zQc B cy D (zMc y) Q) (zMc y) (zMs y) (fun q => B ≤ q) := by
  refine Met.ofW (cc := zBy y) (maxL := zMx y) (ret := zRt y) hy rfl ?_
  intro p e s m args below meth c s₁ Bd hml hv
  obtain ⟨rfl, hsz, hP, hK, hX⟩ := hv
  have hts := atoms_spec (ws := zWs y) Bd.pre
  have hl := lv_entry (vs.map (zv B)) (n := zMx y) (by rw [lg_sl_len]; exact hlen)
  rw [lg_entry_eq]
  refine h p l e s m _ below meth c s.heap [] 0 0 D cy B _ ⟨Bd.exec, Bd.bytes, Bd.returns, hml, findClass_of_methodNamed Bd.named, fun w hw => (List.mem_append.mp hw).elim (fun h => hts w (List.mem_cons_of_mem _ h)) (fun h => hX.use w h), Bd.notSynchronized, (name_of_methodNamed Bd.named Bd.method).1, hK⟩ ⟨?_, ⟨hl.1, hl.2.1, fun q hq => hl.2.2 q ?_⟩, fun i v hv => hok v ?_⟩ (fun v hv => by cases hv) ⟨hH, hn, by omega, hP, by omega, va_S.rf, by omega, by omega⟩
  · unfold zen
    simp
    omega
  · obtain ⟨v, h1, h2⟩ := zlv_mem.mp hq
    have h3 := z_args B vs 0 q.1 v (zen_get h1)
    rw [Nat.zero_add, ← h2] at h3
    exact h3
  · exact List.mem_of_getElem? (zen_get hv)
/-- what is fixed of a method -/
def zOK (y : zM) (na mm : Nat) : Prop := plainName (zNm y).cls = true ∧ (zNm y).cls ≠ "java/lang/invoke/MethodHandle" ∧ (zNm y).cls ≠ "java/lang/invoke/VarHandle" ∧ (parseMethodDescriptor (zNm y).desc).map (fun d => d.parameters.length) = some na ∧ mm ≤ zMx y ∧ Cond.code (zNm y) (zBy y) (zMx y) (zRt y) ∈ zTg ∧ Cond.initialized (zNm y).cls ∈ zTb
/-- the room of a call -/
def zRo (y y' : zM) : Prop := zFr y' + 1 ≤ zFr y ∧ 8 + (zMx y' + 11) + zLo y' ≤ zLo y
theorem z_good (y : zM) (h : Cond.code (zNm y) (zBy y) (zMx y) (zRt y) ∈ zTg) : GoodIn zTg (zWs y) := by
  intro w hw
  rcases List.mem_cons.mp hw with rfl | hw
  · exact ⟨h, good_of_word (zGoodAll _ h)⟩
  · exact ⟨hw, good_of_word (zGoodAll _ hw)⟩
theorem z_blind (vs : List Value) (D : va_G) (cy : Nat → ClassId) (B n : Nat) (hi : zI) (hr : zR) : FrameBlind (va_Pc vs (zB0 D cy B n hi hr)) := by
  intro a U g mk q
  obtain ⟨q0, q1, qP, qK, qX⟩ := q
  exact ⟨q0, q1, qP, va_K.moved (u := U) (U := U.calling g mk a) (Vm.Alike.refl U.vm) qK, zXt.warm (s := U) (U := U.calling g mk a) (State.WarmedH.refl U) qX⟩
theorem z_cats (B : Nat) (st : List zV) : ((st.map (zv B)).map fun v => v.category).sum = st.length := by
  induction st with
  | nil => rfl
  | cons v st ih =>
    rw [List.map_cons, List.map_cons, List.sum_cons, zv_cat, ih]
    simp; omega
/-- behind a call -/
theorem zRun {y y' : zM} {pc : Nat} {ls : List (Option zV)} {st : List zV} {n ac av : Nat} {hi : zI} {hr : zR} {Q : zQ} {p : Program} {l : Launch} {e : Env} {s : State} {m : MethodId} {args : Array Value} {below : List Frame} {meth : Method} {c : Code} {H : Heap} {locs : List Loc} {cells slots : Nat} {D : va_G} {cy : Nat → ClassId} {B : Nat} {lsr : Array Slot} {st0 : List Value} {a : Array Value} {Qn : zQ}
    (hrun : va_Run p l e (zRm y) s m args below meth c H locs cells slots (zMc y') (zMs y') (F0 m pc lsr st0) (st.map (zv B)) (zQc B cy D (zMc y') Qn a) (fun q => B ≤ q))
    (hQn : ∀ r n' hi' hr', Qn r n' hi' hr' → VP y (pc + 3) ls (r.toList ++ st) n' (ac - zMc y') (av - zMs y') hi' hr' Q)
    (C : zCt y D cy p s m args meth c) (L : zLs n B (zMx y) ls lsr) (S : ∀ v ∈ st, zok n v) (G : zG y n ac av hi hr s H locs cells slots D cy B) (hmc : zMc y' ≤ ac) (hms : zMs y' ≤ av) (hsz : H.size = B + n) :
    W p l e (zRm y) s m args below meth c H locs cells slots (MQ below (zQc B cy D (zMc y) Q) args s (zMc y) (zMs y) (fun q => B ≤ q)) (F0 m pc lsr st0) := by
  obtain ⟨g1, g2, g3, g4, g5, g6, g7, g8⟩ := G
  intro T hT X
  obtain ⟨v, st₀, t, T', L', h0, X', hL, e1, e2, ⟨⟨r, n', hi', hr', hv, hq, hok, hH, hn', hsz', hP'⟩, hz, hk⟩, go⟩ := hrun T hT X
  cases hv
  rw [h0] at hz hk hsz'
  have hnn : n ≤ n' := by omega
  have K := hQn r n' hi' hr' hq p l e s m args below meth c T'.heap (locs ++ L') (cells + zMc y') (slots + zMs y') D cy B lsr C (L.mono hnn) (by
    intro w hw
    rcases List.mem_append.mp hw with h | h
    · exact hok w (by simpa using h)
    · exact zok_mono hnn (S w h)) ⟨hH, hn', by omega, by rw [e1]; exact hP', g5, ⟨Nat.le_trans g6.1 (by rw [e1]; exact hz), fun q h1 h2 => by rw [e1, hk q (Nat.lt_of_lt_of_le h1 g6.1) h2]; exact g6.2.1 q h1 h2, fun q hq => by
      rcases List.mem_append.mp hq with h | h
      · exact g6.2.2 q h
      · exact hL q h⟩, by omega, by omega⟩
  obtain ⟨t2, a1, b1⟩ := K T' rfl X'
  refine ⟨t2, go t2 ?_, b1⟩
  have e3 : (r.toList ++ st).map (zv B) = (r.map (zv B)).toList ++ st.map (zv B) := by cases r <;> rfl
  rw [e3] at a1
  exact a1
section ZR
variable {y y' : zM} {pc : Nat} {ls : List (Option zV)} {st vs : List zV} {n ac av : Nat} {hi : zI} {hr : zR} {Q : zQ}
theorem VP.callV {k c N : Nat} {j : Int} {T : u_T} {ty : Nat → FieldType} {index : Nat} (hd : decode (zBy y) pc = .ok (.invokevirtual index, 3)) (hO : zOK y' vs.length (vs.length + 1)) (hR : zRo y y') (hl : Cond.methodLink (zNm y).cls index (zNm y') ∈ zTb) (hin : Cond.instanceMethod (zNm y') ∈ zTb) (hse : Cond.selects (zNm y').cls (zNm y') (zNm y') ∈ zTb)
    (hk : zSh k = .inl c) (hz : zCl c (zNm y').cls T N ty) (hst : st.length ≤ 8) (hmc : zMc y' ≤ ac) (hms : zMs y' ≤ av) {st0 : List zV} (hst0 : st0 = vs.reverse ++ .inr (some (k, j)) :: st)
    (kk : VPm y' (.inr (some (k, j)) :: vs) n hi hr (fun r n' hi' hr' => VP y (pc + 3) ls (r.toList ++ st) n' (ac - zMc y') (av - zMs y') hi' hr' Q)) : VP y pc ls st0 n ac av hi hr Q := by
  subst hst0
  intro p l e s m args below meth c' H locs cells slots D cy B lsr C L S G
  refine zSized (fun hs => ?_)
  have hsz := zSize G.2.2.1 G.2.2.2.1 G.2.2.2.2.1 G.2.2.2.2.2.1 hs
  obtain ⟨o1, o2, o3, o4, o5, o6, o7⟩ := hO
  have hts := C.2.2.2.2.2.1
  obtain ⟨Sv, S1⟩ := List.forall_mem_append.mp S
  obtain ⟨Sr, S2⟩ := List.forall_mem_cons.mp S1
  have hvs : ∀ v ∈ vs, zok n v := fun v hv => Sv v (List.mem_reverse.mpr hv)
  have hM := kk.met o1 (by simp; omega) (zok_cons Sr hvs) G.1 G.2.1 l D cy B
  have cb : CallB (zRm y) s args (zNm y).cls index (zNm y') (zBy y') (zMx y') (zRt y') (zWs y') (zRm y') (zMc y') (zMs y') vs.length := callB_of vs.length (fun w h => hts w (List.mem_append_left _ h)) (z_good y' o6) rfl rfl rfl (hts _ o7) (hts _ hl) ⟨o2, o3, o4⟩ hR
  have he := zW_at (B := B) (cy := cy) (hi := hi) (hr := hr) Sr
  rw [zE_o hk] at he
  have hrun := va_runV (As := vs.map (zv B)) (rest := st.map (zv B)) (cells := cells) (slots := slots) (H := H) (locs := locs) (e := e) (below := below) (meth := meth) (g := F0 m pc lsr ((vs.map (zv B)).reverse ++ .ref (zA B (k, j)) :: st.map (zv B))) (nL := zMx y) (C := (zNm y').cls) (b := zA B (k, j)) ⟨C.1, C.2.1, C.2.2.2.1, C.2.2.2.2.1, hts⟩ hM ⟨cb, hts _ hin, hts _ hse⟩ ⟨z_blind _ _ _ _ _ _ _, va_recv C.2.2.2.2.2.2.2.2 G.2.2.2.1 hz.1 he, fun U hU hW => ⟨rfl, by rw [hU, hsz], by rw [hU]; exact G.2.2.2.1, va_K.moved hW.alike C.2.2.2.2.2.2.2.2, (zXt.of hts).warm hW⟩⟩ rfl (by simp) L.2.1.1 rfl (lv_room (by rw [z_cats]; exact hst)) hd ⟨by have := G.2.2.2.2.2.2.1; show cells + zMc y' ≤ zMc y; omega, by have := G.2.2.2.2.2.2.2; show slots + zMs y' ≤ zMs y; omega⟩
  have R := zRun (Q := Q) (ls := ls) hrun (fun r n' hi' hr' h => h) C L S2 G hmc hms hsz
  have es : (vs.reverse ++ .inr (some (k, j)) :: st).map (zv B) = (vs.map (zv B)).reverse ++ .ref (zA B (k, j)) :: st.map (zv B) := by simp [List.map_append]; rfl
  rw [es]
  exact R
theorem VP.callS {index : Nat} (hd : decode (zBy y) pc = .ok (.invokestatic index, 3)) (hO : zOK y' vs.length vs.length) (hR : zRo y y') (hl : Cond.methodLink (zNm y).cls index (zNm y') ∈ zTb) (hin : Cond.static (zNm y') ∈ zTb)
    (hst : st.length ≤ 8) (hmc : zMc y' ≤ ac) (hms : zMs y' ≤ av) {st0 : List zV} (hst0 : st0 = vs.reverse ++ st)
    (kk : VPm y' vs n hi hr (fun r n' hi' hr' => VP y (pc + 3) ls (r.toList ++ st) n' (ac - zMc y') (av - zMs y') hi' hr' Q)) : VP y pc ls st0 n ac av hi hr Q := by
  subst hst0
  intro p l e s m args below meth c' H locs cells slots D cy B lsr C L S G
  refine zSized (fun hs => ?_)
  have hsz := zSize G.2.2.1 G.2.2.2.1 G.2.2.2.2.1 G.2.2.2.2.2.1 hs
  obtain ⟨o1, o2, o3, o4, o5, o6, o7⟩ := hO
  have hts := C.2.2.2.2.2.1
  obtain ⟨Sv, S2⟩ := List.forall_mem_append.mp S
  have hvs : ∀ v ∈ vs, zok n v := fun v hv => Sv v (List.mem_reverse.mpr hv)
  have hM := kk.met o1 (by omega) hvs G.1 G.2.1 l D cy B
  have cb : CallB (zRm y) s args (zNm y).cls index (zNm y') (zBy y') (zMx y') (zRt y') (zWs y') (zRm y') (zMc y') (zMs y') vs.length := callB_of vs.length (fun w h => hts w (List.mem_append_left _ h)) (z_good y' o6) rfl rfl rfl (hts _ o7) (hts _ hl) ⟨o2, o3, o4⟩ hR
  have hrun := va_runS (As := vs.map (zv B)) (rest := st.map (zv B)) (cells := cells) (slots := slots) (H := H) (locs := locs) (e := e) (below := below) (meth := meth) (g := F0 m pc lsr ((vs.map (zv B)).reverse ++ st.map (zv B))) (nL := zMx y) ⟨C.1, C.2.1, C.2.2.2.1, C.2.2.2.2.1, hts⟩ hM ⟨cb, hts _ hin⟩ ⟨z_blind _ _ _ _ _ _ _, fun U hU hW => ⟨rfl, by rw [hU, hsz], by rw [hU]; exact G.2.2.2.1, va_K.moved hW.alike C.2.2.2.2.2.2.2.2, (zXt.of hts).warm hW⟩⟩ rfl (by simp) L.2.1.1 rfl (lv_room (by rw [z_cats]; exact hst)) hd ⟨by have := G.2.2.2.2.2.2.1; show cells + zMc y' ≤ zMc y; omega, by have := G.2.2.2.2.2.2.2; show slots + zMs y' ≤ zMs y; omega⟩
  have R := zRun (Q := Q) (ls := ls) hrun (fun r n' hi' hr' h => h) C L S2 G hmc hms hsz
  have es : (vs.reverse ++ st).map (zv B) = (vs.map (zv B)).reverse ++ st.map (zv B) := by simp [List.map_append]
  rw [es]
  exact R
theorem VP.callI {q : Nat × Int} {index : Nat} (hd : decode (zBy y) pc = .ok (.invokespecial index, 3)) (hO : zOK y' vs.length (vs.length + 1)) (hR : zRo y y') (hl : Cond.methodLink (zNm y).cls index (zNm y') ∈ zTb ∨ ∃ host, Cond.methodLinkNest (zNm y).cls index (zNm y') host ∈ zTb) (hin : Cond.instanceMethod (zNm y') ∈ zTb) (hnm : (zNm y').name = "<init>") (hrt : zRt y' = none)
    (hst : st.length ≤ 8) (hmc : zMc y' ≤ ac) (hms : zMs y' ≤ av) {st0 : List zV} (hst0 : st0 = vs.reverse ++ .inr (some q) :: st)
    (kk : VPm y' (.inr (some q) :: vs) n hi hr (fun r n' hi' hr' => VP y (pc + 3) ls (r.toList ++ st) n' (ac - zMc y') (av - zMs y') hi' hr' Q)) : VP y pc ls st0 n ac av hi hr Q := by
  subst hst0
  intro p l e s m args below meth c' H locs cells slots D cy B lsr C L S G
  refine zSized (fun hs => ?_)
  have hsz := zSize G.2.2.1 G.2.2.2.1 G.2.2.2.2.1 G.2.2.2.2.2.1 hs
  obtain ⟨o1, o2, o3, o4, o5, o6, o7⟩ := hO
  have hts := C.2.2.2.2.2.1
  obtain ⟨Sv, S1⟩ := List.forall_mem_append.mp S
  obtain ⟨Sr, S2⟩ := List.forall_mem_cons.mp S1
  have hvs : ∀ v ∈ vs, zok n v := fun v hv => Sv v (List.mem_reverse.mpr hv)
  have hM := kk.met o1 (by simp; omega) (zok_cons Sr hvs) G.1 G.2.1 l D cy B
  have es : (vs.reverse ++ .inr (some q) :: st).map (zv B) = (vs.map (zv B)).reverse ++ .ref (zA B q) :: st.map (zv B) := by simp [List.map_append]; rfl
  rw [es]
  have hpre : PreS s H (va_Pc ((.inr (some q) :: vs).map (zv B)) (zB0 D cy B n hi hr)) (.ref (zA B q) :: vs.map (zv B)) := ⟨z_blind _ _ _ _ _ _ _, fun U hU hW => ⟨rfl, by rw [hU, hsz], by rw [hU]; exact G.2.2.2.1, va_K.moved hW.alike C.2.2.2.2.2.2.2.2, (zXt.of hts).warm hW⟩⟩
  have hcs : cells + zMc y' ≤ (zRm y).cells ∧ slots + zMs y' ≤ (zRm y).slots := ⟨by have := G.2.2.2.2.2.2.1; show cells + zMc y' ≤ zMc y; omega, by have := G.2.2.2.2.2.2.2; show slots + zMs y' ≤ zMs y; omega⟩
  have ow : zWs y' = Cond.code (zNm y') (zBy y') (zMx y') none :: zTg := by rw [zWs, hrt]
  rcases hl with hl | ⟨host, hl⟩
  · have cb : CallB (zRm y) s args (zNm y).cls index (zNm y') (zBy y') (zMx y') none (zWs y') (zRm y') (zMc y') (zMs y') vs.length := callB_of vs.length (fun w h => hts w (List.mem_append_left _ h)) (z_good y' o6) ow rfl rfl (hts _ o7) (hts _ hl) ⟨o2, o3, o4⟩ hR
    have hrun := va_runI (As := vs.map (zv B)) (rest := st.map (zv B)) (cells := cells) (slots := slots) (H := H) (locs := locs) (e := e) (below := below) (meth := meth) (g := F0 m pc lsr ((vs.map (zv B)).reverse ++ .ref (zA B q) :: st.map (zv B))) (nL := zMx y) (b := zA B q) ⟨C.1, C.2.1, C.2.2.2.1, C.2.2.2.2.1, hts⟩ hM ⟨cb, hnm, hts _ hin⟩ hpre rfl (by simp) L.2.1.1 rfl (lv_room (by rw [z_cats]; exact hst)) hd hcs
    exact zRun (Q := Q) (ls := ls) hrun (fun r n' hi' hr' h => h) C L S2 G hmc hms hsz
  · have hl2 : va_Nw (.methodLinkNest (zNm y).cls index (zNm y') host) s := by
      have h9 := hts _ hl
      exact h9
    have cb := va_cnB (R := zRm y) (rm := zRm y') (bytes := zBy y') (maxL := zMx y') (ret := none) vs.length (fun w h => hts w (List.mem_append_left _ h)) (z_good y' o6) ow rfl rfl hl2 (hts _ o7) ⟨o2, o3, o4⟩ hR
    have hrun := va_runIN (As := vs.map (zv B)) (rest := st.map (zv B)) (cells := cells) (slots := slots) (H := H) (locs := locs) (e := e) (below := below) (meth := meth) (g := F0 m pc lsr ((vs.map (zv B)).reverse ++ .ref (zA B q) :: st.map (zv B))) (nL := zMx y) (b := zA B q) ⟨C.1, C.2.1, C.2.2.2.1, C.2.2.2.2.1, hts⟩ hM ⟨cb, hnm, hts _ hin⟩ hpre rfl (by simp) L.2.1.1 rfl (lv_room (by rw [z_cats]; exact hst)) hd hcs
    exact zRun (Q := Q) (ls := ls) hrun (fun r n' hi' hr' h => h) C L S2 G hmc hms hsz
theorem VP.objInit {q : Nat × Int} {index : Nat} (hd : decode (zBy y) pc = .ok (.invokespecial index, 3)) (hl : Cond.methodLink (zNm y).cls index objectInit ∈ zTb) (hin : Cond.instanceMethod objectInit ∈ zTb) (hc : Cond.code objectInit ⟨#[0xb1]⟩ 1 none ∈ zTb) (hR : 1 ≤ zFr y ∧ 20 ≤ zLo y) (hst : st.length ≤ 8)
    (kk : VP y (pc + 3) ls st n ac av hi hr Q) : VP y pc ls (.inr (some q) :: st) n ac av hi hr Q := by
  intro p l e s m args below meth c' H locs cells slots D cy B lsr C L S G
  have hts := C.2.2.2.2.2.1
  have h8 : 2 * (F0 m pc lsr (st.map (zv B))).monitorRoom + ((st.map (zv B)).map fun v => v.category).sum ≤ 8 := lv_room (by rw [z_cats]; exact hst)
  refine W.objInit C.1 C.2.1 C.2.2.2.2.1 (hts _ hl) (hts _ hin) (hts _ hc) rfl (by rw [C.2.2.2.1]; exact L.2.1.1) rfl hd hR.1 ?_ (kk p l e s m args below meth c' H locs cells slots D cy B lsr C L (List.forall_mem_cons.mp S).2 G)
  have h9 : 2 * (F0 m pc lsr (st.map (zv B))).monitorRoom + ((st.map (zv B)).map fun v => v.category).sum + 12 ≤ zLo y := by omega
  exact h9
end ZR
end
section
/-! methods that make nothing: n stays -/
abbrev zP : Type := Option zV → zI → zR → Prop
def WP (y : zM) (pc : Nat) (ls : List (Option zV)) (st : List zV) (hi : zI) (hr : zR) (Q : zP) : Prop := ∀ n av, VP y pc ls st n 0 av hi hr (fun r n' hi' hr' => n' = n ∧ Q r hi' hr')
def WPm (y : zM) (vs : List zV) (hi : zI) (hr : zR) (Q : zP) : Prop := ∀ n, VPm y vs n hi hr (fun r n' hi' hr' => n' = n ∧ Q r hi' hr')
def zQ0i (hi0 : zI) (hr0 : zR) (P : Int → Prop) : zP := fun r hi hr => ∃ x, r = some (.inl x) ∧ zInR x ∧ hi = hi0 ∧ hr = hr0 ∧ P x
def zQ0v (hi0 : zI) (hr0 : zR) (P : Prop) : zP := fun r hi hr => r = none ∧ hi = hi0 ∧ hr = hr0 ∧ P
def zQ0r (hi0 : zI) (hr0 : zR) (P : Option (Nat × Int) → Prop) : zP := fun r hi hr => ∃ o, r = some (.inr o) ∧ hi = hi0 ∧ hr = hr0 ∧ P o
abbrev W0i (y : zM) (vs : List zV) (hi : zI) (hr : zR) (P : Int → Prop) : Prop := WPm y vs hi hr (zQ0i hi hr P)
abbrev W0v (y : zM) (vs : List zV) (hi : zI) (hr : zR) (P : Prop) : Prop := WPm y vs hi hr (zQ0v hi hr P)
abbrev W0r (y : zM) (vs : List zV) (hi : zI) (hr : zR) (P : Option (Nat × Int) → Prop) : Prop := WPm y vs hi hr (zQ0r hi hr P)
def zQ1i (hr0 : zR) (P : Int → zI → Prop) : zP := fun r hi hr => ∃ x, r = some (.inl x) ∧ zInR x ∧ hr = hr0 ∧ P x hi
def zQ1v (hr0 : zR) (P : zI → Prop) : zP := fun r hi hr => r = none ∧ hr = hr0 ∧ P hi
def zQ1r (hr0 : zR) (P : Option (Nat × Int) → zI → Prop) : zP := fun r hi hr => ∃ o, r = some (.inr o) ∧ hr = hr0 ∧ P o hi
abbrev W1i (y : zM) (vs : List zV) (hi : zI) (hr : zR) (P : Int → zI → Prop) : Prop := WPm y vs hi hr (zQ1i hr P)
abbrev W1v (y : zM) (vs : List zV) (hi : zI) (hr : zR) (P : zI → Prop) : Prop := WPm y vs hi hr (zQ1v hr P)
abbrev W1r (y : zM) (vs : List zV) (hi : zI) (hr : zR) (P : Option (Nat × Int) → zI → Prop) : Prop := WPm y vs hi hr (zQ1r hr P)
def zQ2i (P : Int → zI → zR → Prop) : zP := fun r hi hr => ∃ x, r = some (.inl x) ∧ zInR x ∧ True ∧ P x hi hr
def zQ2v (P : zI → zR → Prop) : zP := fun r hi hr => r = none ∧ True ∧ P hi hr
def zQ2r (P : Option (Nat × Int) → zI → zR → Prop) : zP := fun r hi hr => ∃ o, r = some (.inr o) ∧ True ∧ P o hi hr
abbrev W2i (y : zM) (vs : List zV) (hi : zI) (hr : zR) (P : Int → zI → zR → Prop) : Prop := WPm y vs hi hr (zQ2i P)
abbrev W2v (y : zM) (vs : List zV) (hi : zI) (hr : zR) (P : zI → zR → Prop) : Prop := WPm y vs hi hr (zQ2v P)
abbrev W2r (y : zM) (vs : List zV) (hi : zI) (hr : zR) (P : Option (Nat × Int) → zI → zR → Prop) : Prop := WPm y vs hi hr (zQ2r P)
theorem VP.mono {y : zM} {pc : Nat} {ls : List (Option zV)} {st : List zV} {n ac av : Nat} {hi : zI} {hr : zR} {Q Q' : zQ} (h : VP y pc ls st n ac av hi hr Q) (k : ∀ r n' hi' hr', Q r n' hi' hr' → Q' r n' hi' hr') : VP y pc ls st n ac av hi hr Q' := by
  intro p l e s m args below meth c H locs cells slots D cy B lsr C L S G T hT X
  obtain ⟨t, a1, o, b1, b2, ⟨⟨r, n', hi', hr', hv, hq, rest⟩, hF⟩, b4⟩ := h p l e s m args below meth c H locs cells slots D cy B lsr C L S G T hT X
  exact ⟨t, a1, o, b1, b2, ⟨⟨r, n', hi', hr', hv, k _ _ _ _ hq, rest⟩, hF⟩, b4⟩
theorem WP.mono {y : zM} {pc : Nat} {ls : List (Option zV)} {st : List zV} {hi : zI} {hr : zR} {Q Q' : zP} (h : WP y pc ls st hi hr Q) (k : ∀ r hi' hr', Q r hi' hr' → Q' r hi' hr') : WP y pc ls st hi hr Q' := fun n av => (h n av).mono (fun r n' hi' hr' q => ⟨q.1, k _ _ _ q.2⟩)
theorem WPm.mono {y : zM} {vs : List zV} {hi : zI} {hr : zR} {Q Q' : zP} (h : WPm y vs hi hr Q) (k : ∀ r hi' hr', Q r hi' hr' → Q' r hi' hr') : WPm y vs hi hr Q' := fun n => VP.mono (h n) (fun r n' hi' hr' q => ⟨q.1, k _ _ _ q.2⟩)
theorem WPm.of {y : zM} {vs : List zV} {hi : zI} {hr : zR} {Q : zP} (hm : zMc y = 0) (h : WP y 0 (zen y vs) [] hi hr Q) : WPm y vs hi hr Q := by
  intro n
  unfold VPm
  rw [hm]
  exact h n _
/-- every int of a state is in range: locals, stack, memory -/
theorem WP.okL {y : zM} {pc : Nat} {ls : List (Option zV)} {st : List zV} {hi : zI} {hr : zR} {Q : zP} (i : Nat) {x : Int} (hl : ls[i]? = some (some (.inl x))) (k : zInR x → WP y pc ls st hi hr Q) : WP y pc ls st hi hr Q := by
  intro n av p l e s m args below meth c H locs cells slots D cy B lsr C L S G
  exact k (L.2.2 i _ hl) n av p l e s m args below meth c H locs cells slots D cy B lsr C L S G
theorem WP.okH {y : zM} {pc : Nat} {ls : List (Option zV)} {st : List zV} {hi : zI} {hr : zR} {Q : zP} (k : (∀ k j s, zInR (hi k j s)) → WP y pc ls st hi hr Q) : WP y pc ls st hi hr Q := by
  intro n av p l e s m args below meth c H locs cells slots D cy B lsr C L S G
  exact k G.1.1 n av p l e s m args below meth c H locs cells slots D cy B lsr C L S G
section ZR
variable {y y' : zM} {pc : Nat} {ls : List (Option zV)} {st vs : List zV} {hi : zI} {hr : zR} {Q : zP}

theorem WP.iconst {x : Int} (hd : decode (zBy y) pc = .ok (.iconst x, 1)) (hx : zInR x) (k : WP y (pc + 1) ls (.inl x :: st) hi hr Q) : WP y pc ls st hi hr Q := fun n av => VP.iconst hd hx (k n av)
theorem WP.bipush {x : Int} (hd : decode (zBy y) pc = .ok (.bipush x, 2)) (hx : (Int8.ofInt x).toInt32 = Int32.ofInt x ∧ zInR x) (k : WP y (pc + 2) ls (.inl x :: st) hi hr Q) : WP y pc ls st hi hr Q := fun n av => VP.bipush hd hx (k n av)
theorem WP.sipush {x : Int} (hd : decode (zBy y) pc = .ok (.sipush x, 3)) (hx : (Int16.ofInt x).toInt32 = Int32.ofInt x ∧ zInR x) (k : WP y (pc + 3) ls (.inl x :: st) hi hr Q) : WP y pc ls st hi hr Q := fun n av => VP.sipush hd hx (k n av)
theorem WP.ldc {x : Int} {index : Nat} (hc : Cond.constant (zNm y).cls index (Int32.ofInt x) ∈ zTb) (hd : decode (zBy y) pc = .ok (.ldc index, 2)) (hx : zInR x) (k : WP y (pc + 2) ls (.inl x :: st) hi hr Q) : WP y pc ls st hi hr Q := fun n av => VP.ldc hc hd hx (k n av)
theorem WP.null  (hd : decode (zBy y) pc = .ok (.aconst_null, 1)) (k : WP y (pc + 1) ls (.inr none :: st) hi hr Q) : WP y pc ls st hi hr Q := fun n av => VP.null hd (k n av)
theorem WP.iload_n {i : Fin 4} {x : Int} (hd : decode (zBy y) pc = .ok (.iload_n i, 1)) (hl : ls[(i : Nat)]? = some (some (.inl x))) (k : WP y (pc + 1) ls (.inl x :: st) hi hr Q) : WP y pc ls st hi hr Q := fun n av => VP.iload_n hd hl (k n av)
theorem WP.iload {i : Nat} {x : Int} (hd : decode (zBy y) pc = .ok (.iload i, 2)) (hl : ls[i]? = some (some (.inl x))) (k : WP y (pc + 2) ls (.inl x :: st) hi hr Q) : WP y pc ls st hi hr Q := fun n av => VP.iload hd hl (k n av)
theorem WP.aload_n {i : Fin 4} {o : Option (Nat × Int)} (hd : decode (zBy y) pc = .ok (.aload_n i, 1)) (hl : ls[(i : Nat)]? = some (some (.inr o))) (k : WP y (pc + 1) ls (.inr o :: st) hi hr Q) : WP y pc ls st hi hr Q := fun n av => VP.aload_n hd hl (k n av)
theorem WP.aload {i : Nat} {o : Option (Nat × Int)} (hd : decode (zBy y) pc = .ok (.aload i, 2)) (hl : ls[i]? = some (some (.inr o))) (k : WP y (pc + 2) ls (.inr o :: st) hi hr Q) : WP y pc ls st hi hr Q := fun n av => VP.aload hd hl (k n av)
theorem WP.istore_n {i : Fin 4} {x : Int} (hd : decode (zBy y) pc = .ok (.istore_n i, 1)) (hn : (i : Nat) < zMx y) (k : WP y (pc + 1) (ls.set (i : Nat) (some (.inl x))) st hi hr Q) : WP y pc ls (.inl x :: st) hi hr Q := fun n av => VP.istore_n hd hn (k n av)
theorem WP.istore {i : Nat} {x : Int} (hd : decode (zBy y) pc = .ok (.istore i, 2)) (hn : i < zMx y) (k : WP y (pc + 2) (ls.set i (some (.inl x))) st hi hr Q) : WP y pc ls (.inl x :: st) hi hr Q := fun n av => VP.istore hd hn (k n av)
theorem WP.astore_n {i : Fin 4} {o : Option (Nat × Int)} (hd : decode (zBy y) pc = .ok (.astore_n i, 1)) (hn : (i : Nat) < zMx y) (k : WP y (pc + 1) (ls.set (i : Nat) (some (.inr o))) st hi hr Q) : WP y pc ls (.inr o :: st) hi hr Q := fun n av => VP.astore_n hd hn (k n av)
theorem WP.astore {i : Nat} {q : Nat × Int} (hd : decode (zBy y) pc = .ok (.astore i, 2)) (hn : i < zMx y) (k : WP y (pc + 2) (ls.set i (some (.inr (some q)))) st hi hr Q) : WP y pc ls (.inr (some q) :: st) hi hr Q := fun n av => VP.astore hd hn (k n av)
theorem WP.iinc {i : Nat} {d x : Int} (hd : decode (zBy y) pc = .ok (.iinc i d, 3)) (hl : ls[i]? = some (some (.inl x))) (hx : zInR (x + d)) (k : WP y (pc + 3) (ls.set i (some (.inl (x + d)))) st hi hr Q) : WP y pc ls st hi hr Q := fun n av => VP.iinc hd hl hx (k n av)
theorem WP.iadd {a b : Int} (hd : decode (zBy y) pc = .ok (.iadd, 1)) (hx : zInR (a + b)) (k : WP y (pc + 1) ls (.inl (a + b) :: st) hi hr Q) : WP y pc ls (.inl b :: .inl a :: st) hi hr Q := fun n av => VP.iadd hd hx (k n av)
theorem WP.isub {a b : Int} (hd : decode (zBy y) pc = .ok (.isub, 1)) (hx : zInR (a - b)) (k : WP y (pc + 1) ls (.inl (a - b) :: st) hi hr Q) : WP y pc ls (.inl b :: .inl a :: st) hi hr Q := fun n av => VP.isub hd hx (k n av)
theorem WP.imul {a b : Int} (hd : decode (zBy y) pc = .ok (.imul, 1)) (hx : zInR (a * b)) (k : WP y (pc + 1) ls (.inl (a * b) :: st) hi hr Q) : WP y pc ls (.inl b :: .inl a :: st) hi hr Q := fun n av => VP.imul hd hx (k n av)
theorem WP.idiv {a b : Int} (hd : decode (zBy y) pc = .ok (.idiv, 1)) (h0 : 0 ≤ a) (h1 : 0 < b) (k : WP y (pc + 1) ls (.inl (a / b) :: st) hi hr Q) : WP y pc ls (.inl b :: .inl a :: st) hi hr Q := fun n av => VP.idiv hd h0 h1 (k n av)
theorem WP.irem {a b : Int} (hd : decode (zBy y) pc = .ok (.irem, 1)) (h0 : 0 ≤ a) (h1 : 0 < b) (k : WP y (pc + 1) ls (.inl (a % b) :: st) hi hr Q) : WP y pc ls (.inl b :: .inl a :: st) hi hr Q := fun n av => VP.irem hd h0 h1 (k n av)
theorem WP.iand {a b : Int} (hd : decode (zBy y) pc = .ok (.iand, 1)) (k : WP y (pc + 1) ls (.inl (zand a b) :: st) hi hr Q) : WP y pc ls (.inl b :: .inl a :: st) hi hr Q := fun n av => VP.iand hd (k n av)
theorem WP.ior {a b : Int} (hd : decode (zBy y) pc = .ok (.ior, 1)) (k : WP y (pc + 1) ls (.inl (zor a b) :: st) hi hr Q) : WP y pc ls (.inl b :: .inl a :: st) hi hr Q := fun n av => VP.ior hd (k n av)
theorem WP.ixor {a b : Int} (hd : decode (zBy y) pc = .ok (.ixor, 1)) (k : WP y (pc + 1) ls (.inl (zxor a b) :: st) hi hr Q) : WP y pc ls (.inl b :: .inl a :: st) hi hr Q := fun n av => VP.ixor hd (k n av)
theorem WP.ishl {a b : Int} (hd : decode (zBy y) pc = .ok (.ishl, 1)) (k : WP y (pc + 1) ls (.inl (zshl a b) :: st) hi hr Q) : WP y pc ls (.inl b :: .inl a :: st) hi hr Q := fun n av => VP.ishl hd (k n av)
theorem WP.ishr {a b : Int} (hd : decode (zBy y) pc = .ok (.ishr, 1)) (k : WP y (pc + 1) ls (.inl (zshr a b) :: st) hi hr Q) : WP y pc ls (.inl b :: .inl a :: st) hi hr Q := fun n av => VP.ishr hd (k n av)
theorem WP.iushr {a b : Int} (hd : decode (zBy y) pc = .ok (.iushr, 1)) (k : WP y (pc + 1) ls (.inl (zushr a b) :: st) hi hr Q) : WP y pc ls (.inl b :: .inl a :: st) hi hr Q := fun n av => VP.iushr hd (k n av)
theorem WP.i2b {a : Int} (hd : decode (zBy y) pc = .ok (.i2b, 1)) (k : WP y (pc + 1) ls (.inl (zi2b a) :: st) hi hr Q) : WP y pc ls (.inl a :: st) hi hr Q := fun n av => VP.i2b hd (k n av)
theorem WP.dup {v : zV} (hd : decode (zBy y) pc = .ok (.dup, 1)) (k : WP y (pc + 1) ls (v :: v :: st) hi hr Q) : WP y pc ls (v :: st) hi hr Q := fun n av => VP.dup hd (k n av)
theorem WP.dup2 {v u : zV} (hd : decode (zBy y) pc = .ok (.dup2, 1)) (k : WP y (pc + 1) ls (v :: u :: v :: u :: st) hi hr Q) : WP y pc ls (v :: u :: st) hi hr Q := fun n av => VP.dup2 hd (k n av)
theorem WP.pop {v : zV} (hd : decode (zBy y) pc = .ok (.pop, 1)) (k : WP y (pc + 1) ls st hi hr Q) : WP y pc ls (v :: st) hi hr Q := fun n av => VP.pop hd (k n av)
theorem WP.goto {off : Int} {tgt : Nat} (hd : decode (zBy y) pc = .ok (.goto off, 3)) (ht : (pc : Int) + off = (tgt : Int)) (k : WP y tgt ls st hi hr Q) : WP y pc ls st hi hr Q := fun n av => VP.goto hd ht (k n av)
theorem WP.if_eq {a : Int} {off : Int} {tgt : Nat} (hd : decode (zBy y) pc = .ok (.ifCond .eq off, 3)) (ht : (pc : Int) + off = (tgt : Int)) (kt : a = 0 → WP y tgt ls st hi hr Q) (kf : a ≠ 0 → WP y (pc + 3) ls st hi hr Q) : WP y pc ls (.inl a :: st) hi hr Q := fun n av => VP.if_eq hd ht (fun h => kt h n av) (fun h => kf h n av)
theorem WP.if_ne {a : Int} {off : Int} {tgt : Nat} (hd : decode (zBy y) pc = .ok (.ifCond .ne off, 3)) (ht : (pc : Int) + off = (tgt : Int)) (kt : a ≠ 0 → WP y tgt ls st hi hr Q) (kf : a = 0 → WP y (pc + 3) ls st hi hr Q) : WP y pc ls (.inl a :: st) hi hr Q := fun n av => VP.if_ne hd ht (fun h => kt h n av) (fun h => kf h n av)
theorem WP.if_lt {a : Int} {off : Int} {tgt : Nat} (hd : decode (zBy y) pc = .ok (.ifCond .lt off, 3)) (ht : (pc : Int) + off = (tgt : Int)) (kt : a < 0 → WP y tgt ls st hi hr Q) (kf : 0 ≤ a → WP y (pc + 3) ls st hi hr Q) : WP y pc ls (.inl a :: st) hi hr Q := fun n av => VP.if_lt hd ht (fun h => kt h n av) (fun h => kf h n av)
theorem WP.if_ge {a : Int} {off : Int} {tgt : Nat} (hd : decode (zBy y) pc = .ok (.ifCond .ge off, 3)) (ht : (pc : Int) + off = (tgt : Int)) (kt : 0 ≤ a → WP y tgt ls st hi hr Q) (kf : a < 0 → WP y (pc + 3) ls st hi hr Q) : WP y pc ls (.inl a :: st) hi hr Q := fun n av => VP.if_ge hd ht (fun h => kt h n av) (fun h => kf h n av)
theorem WP.if_gt {a : Int} {off : Int} {tgt : Nat} (hd : decode (zBy y) pc = .ok (.ifCond .gt off, 3)) (ht : (pc : Int) + off = (tgt : Int)) (kt : 0 < a → WP y tgt ls st hi hr Q) (kf : a ≤ 0 → WP y (pc + 3) ls st hi hr Q) : WP y pc ls (.inl a :: st) hi hr Q := fun n av => VP.if_gt hd ht (fun h => kt h n av) (fun h => kf h n av)
theorem WP.if_le {a : Int} {off : Int} {tgt : Nat} (hd : decode (zBy y) pc = .ok (.ifCond .le off, 3)) (ht : (pc : Int) + off = (tgt : Int)) (kt : a ≤ 0 → WP y tgt ls st hi hr Q) (kf : 0 < a → WP y (pc + 3) ls st hi hr Q) : WP y pc ls (.inl a :: st) hi hr Q := fun n av => VP.if_le hd ht (fun h => kt h n av) (fun h => kf h n av)
theorem WP.icmp_eq {a b : Int} {off : Int} {tgt : Nat} (hd : decode (zBy y) pc = .ok (.if_icmp .eq off, 3)) (ht : (pc : Int) + off = (tgt : Int)) (kt : a = b → WP y tgt ls st hi hr Q) (kf : a ≠ b → WP y (pc + 3) ls st hi hr Q) : WP y pc ls (.inl b :: .inl a :: st) hi hr Q := fun n av => VP.icmp_eq hd ht (fun h => kt h n av) (fun h => kf h n av)
theorem WP.icmp_ne {a b : Int} {off : Int} {tgt : Nat} (hd : decode (zBy y) pc = .ok (.if_icmp .ne off, 3)) (ht : (pc : Int) + off = (tgt : Int)) (kt : a ≠ b → WP y tgt ls st hi hr Q) (kf : a = b → WP y (pc + 3) ls st hi hr Q) : WP y pc ls (.inl b :: .inl a :: st) hi hr Q := fun n av => VP.icmp_ne hd ht (fun h => kt h n av) (fun h => kf h n av)
theorem WP.icmp_lt {a b : Int} {off : Int} {tgt : Nat} (hd : decode (zBy y) pc = .ok (.if_icmp .lt off, 3)) (ht : (pc : Int) + off = (tgt : Int)) (kt : a < b → WP y tgt ls st hi hr Q) (kf : b ≤ a → WP y (pc + 3) ls st hi hr Q) : WP y pc ls (.inl b :: .inl a :: st) hi hr Q := fun n av => VP.icmp_lt hd ht (fun h => kt h n av) (fun h => kf h n av)
theorem WP.icmp_ge {a b : Int} {off : Int} {tgt : Nat} (hd : decode (zBy y) pc = .ok (.if_icmp .ge off, 3)) (ht : (pc : Int) + off = (tgt : Int)) (kt : b ≤ a → WP y tgt ls st hi hr Q) (kf : a < b → WP y (pc + 3) ls st hi hr Q) : WP y pc ls (.inl b :: .inl a :: st) hi hr Q := fun n av => VP.icmp_ge hd ht (fun h => kt h n av) (fun h => kf h n av)
theorem WP.icmp_gt {a b : Int} {off : Int} {tgt : Nat} (hd : decode (zBy y) pc = .ok (.if_icmp .gt off, 3)) (ht : (pc : Int) + off = (tgt : Int)) (kt : b < a → WP y tgt ls st hi hr Q) (kf : a ≤ b → WP y (pc + 3) ls st hi hr Q) : WP y pc ls (.inl b :: .inl a :: st) hi hr Q := fun n av => VP.icmp_gt hd ht (fun h => kt h n av) (fun h => kf h n av)
theorem WP.icmp_le {a b : Int} {off : Int} {tgt : Nat} (hd : decode (zBy y) pc = .ok (.if_icmp .le off, 3)) (ht : (pc : Int) + off = (tgt : Int)) (kt : a ≤ b → WP y tgt ls st hi hr Q) (kf : b < a → WP y (pc + 3) ls st hi hr Q) : WP y pc ls (.inl b :: .inl a :: st) hi hr Q := fun n av => VP.icmp_le hd ht (fun h => kt h n av) (fun h => kf h n av)
theorem WP.ifnull {o : Option (Nat × Int)} {off : Int} {tgt : Nat} (hd : decode (zBy y) pc = .ok (.ifnull off, 3)) (ht : (pc : Int) + off = (tgt : Int)) (kt : o = none → WP y tgt ls st hi hr Q) (kf : ∀ q, o = some q → WP y (pc + 3) ls st hi hr Q) : WP y pc ls (.inr o :: st) hi hr Q := fun n av => VP.ifnull hd ht (fun h => kt h n av) (fun q h => kf q h n av)
theorem WP.ifnonnull {o : Option (Nat × Int)} {off : Int} {tgt : Nat} (hd : decode (zBy y) pc = .ok (.ifnonnull off, 3)) (ht : (pc : Int) + off = (tgt : Int)) (kt : ∀ q, o = some q → WP y tgt ls st hi hr Q) (kf : o = none → WP y (pc + 3) ls st hi hr Q) : WP y pc ls (.inr o :: st) hi hr Q := fun n av => VP.ifnonnull hd ht (fun q h => kt q h n av) (fun h => kf h n av)
theorem WP.tsw {a dflt lo hi' : Int} {offs : Array Int} {len : Nat} (hd : decode (zBy y) pc = .ok (.tableswitch dflt lo hi' offs, len)) (ko : a < lo ∨ hi' < a → ∃ tgt : Nat, (pc : Int) + dflt = (tgt : Int) ∧ WP y tgt ls st hi hr Q)
    (ki : lo ≤ a → a ≤ hi' → ∃ (off : Int) (tgt : Nat), offs[(a - lo).toNat]? = some off ∧ (pc : Int) + off = (tgt : Int) ∧ WP y tgt ls st hi hr Q) : WP y pc ls (.inl a :: st) hi hr Q := fun n av => VP.tsw hd (fun h => (ko h).imp (fun t q => ⟨q.1, q.2 n av⟩)) (fun h1 h2 => (ki h1 h2).imp (fun o q => q.imp (fun t q => ⟨q.1, q.2.1, q.2.2 n av⟩)))
theorem WP.lsw {a dflt : Int} {ps : Array (Int × Int)} {len tgt : Nat} (hd : decode (zBy y) pc = .ok (.lookupswitch dflt ps, len)) (hp : (ps.toList.zip (ps.toList.drop 1)).all (fun (a, next) => a.1 < next.1) = true) (ht : (pc : Int) + Op.lookupswitch.offset ps.toList dflt a = (tgt : Int)) (k : WP y tgt ls st hi hr Q) : WP y pc ls (.inl a :: st) hi hr Q := fun n av => VP.lsw hd hp ht (k n av)
theorem WP.getI {k c N i : Nat} {j : Int} {C : String} {T : u_T} {ty : Nat → FieldType} {index : Nat} (hd : decode (zBy y) pc = .ok (.getfield index, 3)) (hz : zCl c C T N ty) (hk : zSh k = .inl c) (hs : i < N) (hrf : zRF c i = false)
    (hl : Cond.fieldLink (zNm y).cls index (T i).1 (T i).2.1 (T i).2.2.1 ∈ zTb) {s v : Int} (hsi : (i : Int) = s) (hv : hi k j s = v) (kk : WP y (pc + 3) ls (.inl v :: st) hi hr Q) : WP y pc ls (.inr (some (k, j)) :: st) hi hr Q := fun n av => VP.getI hd hz hk hs hrf hl (by rw [hsi, hv]; exact kk n av)
theorem WP.getR {k c N i : Nat} {j : Int} {C : String} {T : u_T} {ty : Nat → FieldType} {index : Nat} (hd : decode (zBy y) pc = .ok (.getfield index, 3)) (hz : zCl c C T N ty) (hk : zSh k = .inl c) (hs : i < N) (hrf : zRF c i = true)
    (hl : Cond.fieldLink (zNm y).cls index (T i).1 (T i).2.1 (T i).2.2.1 ∈ zTb) {o : Option (Nat × Int)} {s : Int} (hsi : (i : Int) = s) (ho : hr k j s = o) (kk : WP y (pc + 3) ls (.inr o :: st) hi hr Q) : WP y pc ls (.inr (some (k, j)) :: st) hi hr Q := fun n av => VP.getR hd hz hk hs hrf hl (by rw [hsi]; exact ho) (kk n av)
theorem z_int (x : Int) : narrow .int (.int (Int32.ofInt x)) = .int (Int32.ofInt x) ∧ fits .int (.int (Int32.ofInt x)) = true := ⟨rfl, rfl⟩
theorem z_bool {x : Int} (h : x = 0 ∨ x = 1) : narrow .boolean (.int (Int32.ofInt x)) = .int (Int32.ofInt x) ∧ fits .boolean (.int (Int32.ofInt x)) = true := by
  rcases h with rfl | rfl <;> exact ⟨by decide +kernel, by decide +kernel⟩
theorem WP.putI {k c N i : Nat} {j x : Int} {C : String} {T : u_T} {ty : Nat → FieldType} {index : Nat} (hd : decode (zBy y) pc = .ok (.putfield index, 3)) (hz : zCl c C T N ty) (hk : zSh k = .inl c) (hs : i < N) (hrf : zRF c i = false)
    (hl : Cond.fieldLink (zNm y).cls index (T i).1 (T i).2.1 (T i).2.2.1 ∈ zTb) (hf : (T i).2.2.2 = false) (hn : narrow (ty i) (.int (Int32.ofInt x)) = .int (Int32.ofInt x) ∧ fits (ty i) (.int (Int32.ofInt x)) = true)
    {s : Int} (hsi : (i : Int) = s) (kk : WP y (pc + 3) ls st (zup hi k j s x) hr Q) : WP y pc ls (.inl x :: .inr (some (k, j)) :: st) hi hr Q := fun n av => VP.putI hd hz hk hs hrf hl hf hn (by rw [hsi]; exact kk n av)
theorem WP.putR {k c N i : Nat} {j : Int} {o : Option (Nat × Int)} {C : String} {T : u_T} {ty : Nat → FieldType} {index : Nat} (hd : decode (zBy y) pc = .ok (.putfield index, 3)) (hz : zCl c C T N ty) (hk : zSh k = .inl c) (hs : i < N) (hrf : zRF c i = true)
    (hl : Cond.fieldLink (zNm y).cls index (T i).1 (T i).2.1 (T i).2.2.1 ∈ zTb) (hf : (T i).2.2.2 = false) (hn : (∃ C, ty i = .object C) ∨ ∃ u, ty i = .array u)
    {s : Int} (hsi : (i : Int) = s) (kk : WP y (pc + 3) ls st hi (zupR hr k j s o) Q) : WP y pc ls (.inr o :: .inr (some (k, j)) :: st) hi hr Q := fun n av => VP.putR hd hz hk hs hrf hl (Or.inl hf) hn (by rw [hsi]; exact kk n av)
theorem WP.iaload {k len : Nat} {j x : Int} (hd : decode (zBy y) pc = .ok (.iaload, 1)) (hk : zSh k = .inr (0, len)) {Ln : Int} (hL : (len : Int) = Ln) (h : 0 ≤ x ∧ x < Ln) {v : Int} (hv : hi k j x = v) (kk : WP y (pc + 1) ls (.inl v :: st) hi hr Q) : WP y pc ls (.inl x :: .inr (some (k, j)) :: st) hi hr Q := fun n av => VP.iaload hd hk h.1 (by rw [hL]; exact h.2) (by rw [hv]; exact kk n av)
theorem WP.baload {k len t : Nat} {j x : Int} (hd : decode (zBy y) pc = .ok (.baload, 1)) (hk : zSh k = .inr (t, len)) (ht : t = 1 ∨ t = 2) {Ln : Int} (hL : (len : Int) = Ln) (h : 0 ≤ x ∧ x < Ln) {v : Int} (hv : hi k j x = v) (kk : WP y (pc + 1) ls (.inl v :: st) hi hr Q) : WP y pc ls (.inl x :: .inr (some (k, j)) :: st) hi hr Q := fun n av => VP.baload hd hk ht h.1 (by rw [hL]; exact h.2) (by rw [hv]; exact kk n av)
theorem WP.aaload {k len t : Nat} {j x : Int} (hd : decode (zBy y) pc = .ok (.aaload, 1)) (hk : zSh k = .inr (t, len)) (ht : t = 3 ∨ t = 4 ∨ t = 5) {Ln : Int} (hL : (len : Int) = Ln) (h : 0 ≤ x ∧ x < Ln) {o : Option (Nat × Int)} (ho : hr k j x = o) (kk : WP y (pc + 1) ls (.inr o :: st) hi hr Q) : WP y pc ls (.inl x :: .inr (some (k, j)) :: st) hi hr Q := fun n av => VP.aaload hd hk ht h.1 (by rw [hL]; exact h.2) ho (kk n av)
theorem WP.iastore {k len : Nat} {j x v : Int} (hd : decode (zBy y) pc = .ok (.iastore, 1)) (hk : zSh k = .inr (0, len)) {Ln : Int} (hL : (len : Int) = Ln) (h : 0 ≤ x ∧ x < Ln) (kk : WP y (pc + 1) ls st (zup hi k j x v) hr Q) : WP y pc ls (.inl v :: .inl x :: .inr (some (k, j)) :: st) hi hr Q := fun n av => VP.iastore hd hk h.1 (by rw [hL]; exact h.2) (kk n av)
theorem WP.bastore {k len t : Nat} {j x v : Int} (hd : decode (zBy y) pc = .ok (.bastore, 1)) (hk : zSh k = .inr (t, len)) (ht : (t = 1 ∧ -128 ≤ v ∧ v < 128) ∨ (t = 2 ∧ 0 ≤ v ∧ v < 2)) {Ln : Int} (hL : (len : Int) = Ln) (h : 0 ≤ x ∧ x < Ln) (kk : WP y (pc + 1) ls st (zup hi k j x v) hr Q) : WP y pc ls (.inl v :: .inl x :: .inr (some (k, j)) :: st) hi hr Q := fun n av => VP.bastore hd hk ht h.1 (by rw [hL]; exact h.2) (kk n av)
theorem WP.aastore {k len t k2 c : Nat} {j x j2 : Int} {C : String} {T : u_T} {N : Nat} {ty : Nat → FieldType} (hd : decode (zBy y) pc = .ok (.aastore, 1)) (hk : zSh k = .inr (t, len)) (hk2 : zSh k2 = .inl c) (hz : zCl c C T N ty) (ht : (t = 3 ∧ C = RX0) ∨ (t = 4 ∧ C = RX3) ∨ (t = 5 ∧ C = RX9)) {Ln : Int} (hL : (len : Int) = Ln) (h : 0 ≤ x ∧ x < Ln) (kk : WP y (pc + 1) ls st hi (zupR hr k j x (some (k2, j2))) Q) : WP y pc ls (.inr (some (k2, j2)) :: .inl x :: .inr (some (k, j)) :: st) hi hr Q := fun n av => VP.aastore hd hk hk2 hz ht h.1 (by rw [hL]; exact h.2) (kk n av)
theorem WP.alen {k len t : Nat} {j : Int} (hd : decode (zBy y) pc = .ok (.arraylength, 1)) (hk : zSh k = .inr (t, len)) (ht : t < 6) (hn : len < 2147483648) {Ln : Int} (hL : (len : Int) = Ln) (kk : WP y (pc + 1) ls (.inl Ln :: st) hi hr Q) : WP y pc ls (.inr (some (k, j)) :: st) hi hr Q := fun n av => VP.alen hd hk ht hn (by rw [hL]; exact kk n av)
theorem WP.vret (hd : decode (zBy y) pc = .ok (.return_, 1)) (hr0 : zRt y = none) (hq : Q none hi hr) : WP y pc ls [] hi hr Q := fun n av => VP.vret hd hr0 ⟨rfl, hq⟩
theorem VP.okS {n ac av : Nat} {Q : zQ} {x : Int} (k : zInR x → VP y pc ls (.inl x :: st) n ac av hi hr Q) : VP y pc ls (.inl x :: st) n ac av hi hr Q := by
  intro p l e s m args below meth c H locs cells slots D cy B lsr C L S G
  exact k (S _ List.mem_cons_self) p l e s m args below meth c H locs cells slots D cy B lsr C L S G
theorem WP.iret {x : Int} (hd : decode (zBy y) pc = .ok (.ireturn, 1)) (hr0 : zRt y = some .int) (hq : zInR x → Q (some (.inl x)) hi hr) : WP y pc ls [.inl x] hi hr Q := fun n av => VP.okS (fun hx => VP.iret hd hr0 rfl ⟨rfl, hq hx⟩)
theorem WP.zret {x : Int} (hd : decode (zBy y) pc = .ok (.ireturn, 1)) (hr0 : zRt y = some .boolean) (hb : x = 0 ∨ x = 1) (hq : zInR x → Q (some (.inl x)) hi hr) : WP y pc ls [.inl x] hi hr Q := fun n av => VP.okS (fun hx => VP.iret hd hr0 (z_bool hb).1 ⟨rfl, hq hx⟩)
theorem WP.aret {o : Option (Nat × Int)} {C : String} (hd : decode (zBy y) pc = .ok (.areturn, 1)) (hr0 : zRt y = some (.object C)) (hq : Q (some (.inr o)) hi hr) : WP y pc ls [.inr o] hi hr Q := fun n av => VP.aret hd hr0 ⟨rfl, hq⟩
theorem WP.callV {k c N : Nat} {j : Int} {T : u_T} {ty : Nat → FieldType} {index : Nat} (hd : decode (zBy y) pc = .ok (.invokevirtual index, 3)) (hO : zOK y' vs.length (vs.length + 1)) (hR : zRo y y') (hl : Cond.methodLink (zNm y).cls index (zNm y') ∈ zTb ∧ Cond.instanceMethod (zNm y') ∈ zTb ∧ Cond.selects (zNm y').cls (zNm y') (zNm y') ∈ zTb)
    (hk : zSh k = .inl c) (hz : zCl c (zNm y').cls T N ty) (hst : st.length ≤ 8) (hmc : zMc y' = 0 ∧ zMs y' = 0) {st0 : List zV} (hst0 : st0 = vs.reverse ++ .inr (some (k, j)) :: st)
    (kk : WPm y' (.inr (some (k, j)) :: vs) hi hr (fun r hi' hr' => WP y (pc + 3) ls (r.toList ++ st) hi' hr' Q)) : WP y pc ls st0 hi hr Q := by
  intro n av
  refine VP.callV hd hO hR hl.1 hl.2.1 hl.2.2 hk hz hst (by omega) (by omega) hst0 (VP.mono (kk n) (fun r n' hi' hr' q => ?_))
  obtain ⟨rfl, q⟩ := q
  rw [Nat.zero_sub]
  exact q _ _
theorem WP.callS {index : Nat} (hd : decode (zBy y) pc = .ok (.invokestatic index, 3)) (hO : zOK y' vs.length vs.length) (hR : zRo y y') (hl : Cond.methodLink (zNm y).cls index (zNm y') ∈ zTb ∧ Cond.static (zNm y') ∈ zTb)
    (hst : st.length ≤ 8) (hmc : zMc y' = 0 ∧ zMs y' = 0) {st0 : List zV} (hst0 : st0 = vs.reverse ++ st)
    (kk : WPm y' vs hi hr (fun r hi' hr' => WP y (pc + 3) ls (r.toList ++ st) hi' hr' Q)) : WP y pc ls st0 hi hr Q := by
  intro n av
  refine VP.callS hd hO hR hl.1 hl.2 hst (by omega) (by omega) hst0 (VP.mono (kk n) (fun r n' hi' hr' q => ?_))
  obtain ⟨rfl, q⟩ := q
  rw [Nat.zero_sub]
  exact q _ _
theorem WP.c0i {P : Int → Prop} {pc2 : Nat} (f : W0i y' vs hi hr P) (k : ∀ x, zInR x → P x → WP y pc2 ls (.inl x :: st) hi hr Q) : WPm y' vs hi hr (fun r hi2 hr2 => WP y pc2 ls (r.toList ++ st) hi2 hr2 Q) := WPm.mono f (fun r hi2 hr2 q => by
  obtain ⟨x, rfl, hx, rfl, rfl, q⟩ := q
  exact k x hx q)
theorem WP.c0v {P : Prop} {pc2 : Nat} (f : W0v y' vs hi hr P) (k : P → WP y pc2 ls st hi hr Q) : WPm y' vs hi hr (fun r hi2 hr2 => WP y pc2 ls (r.toList ++ st) hi2 hr2 Q) := WPm.mono f (fun r hi2 hr2 q => by
  obtain ⟨rfl, rfl, rfl, q⟩ := q
  exact k q)
theorem WP.c0r {P : Option (Nat × Int) → Prop} {pc2 : Nat} (f : W0r y' vs hi hr P) (k : ∀ o, P o → WP y pc2 ls (.inr o :: st) hi hr Q) : WPm y' vs hi hr (fun r hi2 hr2 => WP y pc2 ls (r.toList ++ st) hi2 hr2 Q) := WPm.mono f (fun r hi2 hr2 q => by
  obtain ⟨o, rfl, rfl, rfl, q⟩ := q
  exact k o q)
theorem WP.c1i {P : Int → zI → Prop} {pc2 : Nat} (f : W1i y' vs hi hr P) (k : ∀ x, ∀ hi1, zInR x → P x hi1 → WP y pc2 ls (.inl x :: st) hi1 hr Q) : WPm y' vs hi hr (fun r hi2 hr2 => WP y pc2 ls (r.toList ++ st) hi2 hr2 Q) := WPm.mono f (fun r hi2 hr2 q => by
  obtain ⟨x, rfl, hx, rfl, q⟩ := q
  exact k x _ hx q)
theorem WP.c1v {P : zI → Prop} {pc2 : Nat} (f : W1v y' vs hi hr P) (k : ∀ hi1, P hi1 → WP y pc2 ls st hi1 hr Q) : WPm y' vs hi hr (fun r hi2 hr2 => WP y pc2 ls (r.toList ++ st) hi2 hr2 Q) := WPm.mono f (fun r hi2 hr2 q => by
  obtain ⟨rfl, rfl, q⟩ := q
  exact k _ q)
theorem WP.c1r {P : Option (Nat × Int) → zI → Prop} {pc2 : Nat} (f : W1r y' vs hi hr P) (k : ∀ o, ∀ hi1, P o hi1 → WP y pc2 ls (.inr o :: st) hi1 hr Q) : WPm y' vs hi hr (fun r hi2 hr2 => WP y pc2 ls (r.toList ++ st) hi2 hr2 Q) := WPm.mono f (fun r hi2 hr2 q => by
  obtain ⟨o, rfl, rfl, q⟩ := q
  exact k o _ q)
theorem WP.c2i {P : Int → zI → zR → Prop} {pc2 : Nat} (f : W2i y' vs hi hr P) (k : ∀ x, ∀ hi1 hr1, zInR x → P x hi1 hr1 → WP y pc2 ls (.inl x :: st) hi1 hr1 Q) : WPm y' vs hi hr (fun r hi2 hr2 => WP y pc2 ls (r.toList ++ st) hi2 hr2 Q) := WPm.mono f (fun r hi2 hr2 q => by
  obtain ⟨x, rfl, hx, -, q⟩ := q
  exact k x _ _ hx q)
theorem WP.c2v {P : zI → zR → Prop} {pc2 : Nat} (f : W2v y' vs hi hr P) (k : ∀ hi1 hr1, P hi1 hr1 → WP y pc2 ls st hi1 hr1 Q) : WPm y' vs hi hr (fun r hi2 hr2 => WP y pc2 ls (r.toList ++ st) hi2 hr2 Q) := WPm.mono f (fun r hi2 hr2 q => by
  obtain ⟨rfl, -, q⟩ := q
  exact k _ _ q)
theorem WP.c2r {P : Option (Nat × Int) → zI → zR → Prop} {pc2 : Nat} (f : W2r y' vs hi hr P) (k : ∀ o, ∀ hi1 hr1, P o hi1 hr1 → WP y pc2 ls (.inr o :: st) hi1 hr1 Q) : WPm y' vs hi hr (fun r hi2 hr2 => WP y pc2 ls (r.toList ++ st) hi2 hr2 Q) := WPm.mono f (fun r hi2 hr2 q => by
  obtain ⟨o, rfl, -, q⟩ := q
  exact k o _ _ q)
end ZR
theorem zup_s (hi : zI) (k : Nat) (j s x : Int) : zup hi k j s x k j s = x := by simp [zup]
theorem zup_k (hi : zI) {k k' : Nat} (j s x j' s' : Int) (h : k' ≠ k) : zup hi k j s x k' j' s' = hi k' j' s' := by simp [zup, h]
theorem zup_f (hi : zI) {k k' : Nat} (j s x j' s' : Int) (h : s' ≠ s) : zup hi k j s x k' j' s' = hi k' j' s' := by simp [zup, h]
theorem zup_j (hi : zI) {k k' : Nat} (j s x j' s' : Int) (h : j' ≠ j) : zup hi k j s x k' j' s' = hi k' j' s' := by simp [zup, h]
theorem zupR_s (hr : zR) (k : Nat) (j s : Int) (x : Option (Nat × Int)) : zupR hr k j s x k j s = x := by simp [zupR]
theorem zupR_k (hr : zR) {k k' : Nat} (j s j' s' : Int) (x : Option (Nat × Int)) (h : k' ≠ k) : zupR hr k j s x k' j' s' = hr k' j' s' := by simp [zupR, h]
theorem zupR_f (hr : zR) {k k' : Nat} (j s j' s' : Int) (x : Option (Nat × Int)) (h : s' ≠ s) : zupR hr k j s x k' j' s' = hr k' j' s' := by simp [zupR, h]
theorem zi2b_rng (a : Int) : -128 ≤ zi2b a ∧ zi2b a < 128 := by
  unfold zi2b
  rw [Int8.toInt_toInt32]
  have h1 := Int8.le_toInt (Int32.ofInt a).toInt8
  have h2 := Int8.toInt_lt (Int32.ofInt a).toInt8
  omega
end
section
theorem z_gd {c : Cond} (h : c ∈ lw_tbl) (hg : goodWord c = true) : c ∈ zTg := List.mem_filter.mpr ⟨h, hg⟩
theorem z_tb {c : Cond} (h : c ∈ lw_tbl) (hg : goodWord c = true) : c ∈ zTb := List.mem_append_left _ (z_gd h hg)
theorem z_s {c : Cond} (i : Nat) (h : (k2_sels lw_privs)[i]? = some c) : c ∈ lw_tbl := List.mem_append_left _ (List.mem_of_getElem? h)
theorem z_t1 {c : Cond} (i : Nat) (h : tables_1_1[i]? = some c) : c ∈ lw_tbl := List.mem_append_right _ (List.mem_append_left _ (List.mem_of_getElem? h))
theorem z_t2 {c : Cond} (i : Nat) (h : tables_1_2[i]? = some c) : c ∈ lw_tbl := List.mem_append_right _ (List.mem_append_right _ (List.mem_append_left _ (List.mem_of_getElem? h)))
theorem z_t3 {c : Cond} (i : Nat) (h : tables_1_3[i]? = some c) : c ∈ lw_tbl := List.mem_append_right _ (List.mem_append_right _ (List.mem_append_right _ (List.mem_append_left _ (List.mem_of_getElem? h))))
theorem z_t4 {c : Cond} (i : Nat) (h : tables_1_4[i]? = some c) : c ∈ lw_tbl := List.mem_append_right _ (List.mem_append_right _ (List.mem_append_right _ (List.mem_append_right _ (List.mem_append_left _ (List.mem_of_getElem? h)))))
theorem z_t5 {c : Cond} (i : Nat) (h : tables_1_5[i]? = some c) : c ∈ lw_tbl := List.mem_append_right _ (List.mem_append_right _ (List.mem_append_right _ (List.mem_append_right _ (List.mem_append_right _ (List.mem_append_left _ (List.mem_of_getElem? h))))))
theorem z_t6 {c : Cond} (i : Nat) (h : tables_1_6[i]? = some c) : c ∈ lw_tbl := List.mem_append_right _ (List.mem_append_right _ (List.mem_append_right _ (List.mem_append_right _ (List.mem_append_right _ (List.mem_append_right _ (List.mem_of_getElem? h))))))
set_option maxRecDepth 20000 in
theorem zc_0 : zCl 0 RX0 TX0 7 tyX0 := ⟨rfl, by decide +kernel, by decide +kernel, tyX0_ok, nmX0, by decide +kernel, z_tb (z_t1 224 (by decide +kernel)) rfl, z_tb (z_t1 9 (by decide +kernel)) rfl⟩
set_option maxRecDepth 20000 in
theorem zc_1 : zCl 1 RX1 TX1 5 tyX1 := ⟨rfl, by decide +kernel, by decide +kernel, tyX1_ok, nmX1, by decide +kernel, z_tb (z_t1 168 (by decide +kernel)) rfl, z_tb (z_t1 7 (by decide +kernel)) rfl⟩
set_option maxRecDepth 20000 in
theorem zc_2 : zCl 2 RX2 TX2 5 tyX2 := ⟨rfl, by decide +kernel, by decide +kernel, tyX2_ok, nmX2, by decide +kernel, z_tb (z_t1 42 (by decide +kernel)) rfl, z_tb (z_t1 3 (by decide +kernel)) rfl⟩
set_option maxRecDepth 20000 in
theorem zc_3 : zCl 3 RX3 TX3 7 tyX3 := ⟨rfl, by decide +kernel, by decide +kernel, tyX3_ok, nmX3, by decide +kernel, z_tb (z_t1 73 (by decide +kernel)) rfl, z_tb (z_t1 5 (by decide +kernel)) rfl⟩
set_option maxRecDepth 20000 in
theorem zc_4 : zCl 4 RX4 TX4 14 tyX4 := ⟨rfl, by decide +kernel, by decide +kernel, tyX4_ok, nmX4, by decide +kernel, z_tb (z_t1 176 (by decide +kernel)) rfl, z_tb (z_t1 8 (by decide +kernel)) rfl⟩
set_option maxRecDepth 20000 in
theorem zc_5 : zCl 5 RX5 TX5 6 tyX5 := ⟨rfl, by decide +kernel, by decide +kernel, tyX5_ok, nmX5, by decide +kernel, z_tb (z_t1 66 (by decide +kernel)) rfl, z_tb (z_t1 4 (by decide +kernel)) rfl⟩
set_option maxRecDepth 20000 in
theorem zc_6 : zCl 6 RX6 TX6 9 tyX6 := ⟨rfl, by decide +kernel, by decide +kernel, tyX6_ok, nmX6, by decide +kernel, z_tb (z_t1 230 (by decide +kernel)) rfl, z_tb (z_t1 10 (by decide +kernel)) rfl⟩
set_option maxRecDepth 20000 in
theorem zc_7 : zCl 7 RX7 TX7 2 tyX7 := ⟨rfl, by decide +kernel, by decide +kernel, tyX7_ok, nmX7, by decide +kernel, z_tb (z_t1 25 (by decide +kernel)) rfl, z_tb (z_t1 2 (by decide +kernel)) rfl⟩
set_option maxRecDepth 20000 in
theorem zc_8 : zCl 8 RX8 TX8 8 tyX8 := ⟨rfl, by decide +kernel, by decide +kernel, tyX8_ok, nmX8, by decide +kernel, z_tb (z_t1 130 (by decide +kernel)) rfl, z_tb (z_t1 6 (by decide +kernel)) rfl⟩
set_option maxRecDepth 20000 in
theorem zc_9 : zCl 9 RX9 TX9 6 tyX9 := ⟨rfl, by decide +kernel, by decide +kernel, tyX9_ok, nmX9, by decide +kernel, z_tb (z_t2 124 (by decide +kernel)) rfl, z_tb (z_t1 12 (by decide +kernel)) rfl⟩
set_option maxRecDepth 20000 in
theorem zc_10 : zCl 10 RX10 TX10 9 tyX10 := ⟨rfl, by decide +kernel, by decide +kernel, tyX10_ok, nmX10, by decide +kernel, z_tb (z_t2 79 (by decide +kernel)) rfl, z_tb (z_t1 11 (by decide +kernel)) rfl⟩
set_option maxRecDepth 20000 in
theorem zc_11 : zCl 11 RX11 TX11 11 tyX11 := ⟨rfl, by decide +kernel, by decide +kernel, tyX11_ok, nmX11, by decide +kernel, z_tb (z_t1 17 (by decide +kernel)) rfl, z_tb (z_t1 1 (by decide +kernel)) rfl⟩
set_option maxRecDepth 20000 in
theorem zc_12 : zCl 12 RX12 TX12 65 tyX12 := ⟨rfl, by decide +kernel, by decide +kernel, tyX12_ok, nmX12, by decide +kernel, z_tb (z_t4 186 (by decide +kernel)) rfl, z_tb (z_t1 15 (by decide +kernel)) rfl⟩
theorem lf_X7_9 : Cond.fieldLink RX7 9 (TX7 0).1 (TX7 0).2.1 (TX7 0).2.2.1 ∈ zTb := z_tb (z_t1 30 (by decide +kernel)) rfl
theorem lf_X2_52 : Cond.fieldLink RX2 52 (TX7 0).1 (TX7 0).2.1 (TX7 0).2.2.1 ∈ zTb := z_tb (z_t1 31 (by decide +kernel)) rfl
theorem lf_X7_13 : Cond.fieldLink RX7 13 (TX7 1).1 (TX7 1).2.1 (TX7 1).2.2.1 ∈ zTb := z_tb (z_t1 32 (by decide +kernel)) rfl
theorem lf_X11_85 : Cond.fieldLink RX11 85 (TX7 1).1 (TX7 1).2.1 (TX7 1).2.2.1 ∈ zTb := z_tb (z_t1 33 (by decide +kernel)) rfl
theorem lf_X2_47 : Cond.fieldLink RX2 47 (TX7 1).1 (TX7 1).2.1 (TX7 1).2.2.1 ∈ zTb := z_tb (z_t1 34 (by decide +kernel)) rfl
theorem lf_X2_9 : Cond.fieldLink RX2 9 (TX2 0).1 (TX2 0).2.1 (TX2 0).2.2.1 ∈ zTb := z_tb (z_t1 47 (by decide +kernel)) rfl
theorem lf_X2_15 : Cond.fieldLink RX2 15 (TX2 1).1 (TX2 1).2.1 (TX2 1).2.2.1 ∈ zTb := z_tb (z_t1 48 (by decide +kernel)) rfl
theorem lf_X2_18 : Cond.fieldLink RX2 18 (TX2 2).1 (TX2 2).2.1 (TX2 2).2.2.1 ∈ zTb := z_tb (z_t1 49 (by decide +kernel)) rfl
theorem lf_X11_92 : Cond.fieldLink RX11 92 (TX2 2).1 (TX2 2).2.1 (TX2 2).2.2.1 ∈ zTb := z_tb (z_t1 50 (by decide +kernel)) rfl
theorem lf_X2_27 : Cond.fieldLink RX2 27 (TX2 3).1 (TX2 3).2.1 (TX2 3).2.2.1 ∈ zTb := z_tb (z_t1 51 (by decide +kernel)) rfl
theorem lf_X2_30 : Cond.fieldLink RX2 30 (TX2 4).1 (TX2 4).2.1 (TX2 4).2.2.1 ∈ zTb := z_tb (z_t1 52 (by decide +kernel)) rfl
theorem lf_X5_47 : Cond.fieldLink RX5 47 (TX3 0).1 (TX3 0).2.1 (TX3 0).2.2.1 ∈ zTb := z_tb (z_t1 78 (by decide +kernel)) rfl
theorem lf_X11_296 : Cond.fieldLink RX11 296 (TX3 0).1 (TX3 0).2.1 (TX3 0).2.2.1 ∈ zTb := z_tb (z_t1 79 (by decide +kernel)) rfl
theorem lf_X5_51 : Cond.fieldLink RX5 51 (TX3 1).1 (TX3 1).2.1 (TX3 1).2.2.1 ∈ zTb := z_tb (z_t1 80 (by decide +kernel)) rfl
theorem lf_X11_291 : Cond.fieldLink RX11 291 (TX3 1).1 (TX3 1).2.1 (TX3 1).2.2.1 ∈ zTb := z_tb (z_t1 81 (by decide +kernel)) rfl
theorem lf_X0_41 : Cond.fieldLink RX0 41 (TX3 2).1 (TX3 2).2.1 (TX3 2).2.2.1 ∈ zTb := z_tb (z_t1 82 (by decide +kernel)) rfl
theorem lf_X9_31 : Cond.fieldLink RX9 31 (TX3 2).1 (TX3 2).2.1 (TX3 2).2.2.1 ∈ zTb := z_tb (z_t1 83 (by decide +kernel)) rfl
theorem lf_X5_54 : Cond.fieldLink RX5 54 (TX3 2).1 (TX3 2).2.1 (TX3 2).2.2.1 ∈ zTb := z_tb (z_t1 84 (by decide +kernel)) rfl
theorem lf_X9_34 : Cond.fieldLink RX9 34 (TX3 3).1 (TX3 3).2.1 (TX3 3).2.2.1 ∈ zTb := z_tb (z_t1 85 (by decide +kernel)) rfl
theorem lf_X0_44 : Cond.fieldLink RX0 44 (TX3 3).1 (TX3 3).2.1 (TX3 3).2.2.1 ∈ zTb := z_tb (z_t1 86 (by decide +kernel)) rfl
theorem lf_X5_57 : Cond.fieldLink RX5 57 (TX3 3).1 (TX3 3).2.1 (TX3 3).2.2.1 ∈ zTb := z_tb (z_t1 87 (by decide +kernel)) rfl
theorem lf_X9_35 : Cond.fieldLink RX9 35 (TX3 4).1 (TX3 4).2.1 (TX3 4).2.2.1 ∈ zTb := z_tb (z_t1 88 (by decide +kernel)) rfl
theorem lf_X5_60 : Cond.fieldLink RX5 60 (TX3 4).1 (TX3 4).2.1 (TX3 4).2.2.1 ∈ zTb := z_tb (z_t1 89 (by decide +kernel)) rfl
theorem lf_X5_63 : Cond.fieldLink RX5 63 (TX3 5).1 (TX3 5).2.1 (TX3 5).2.2.1 ∈ zTb := z_tb (z_t1 90 (by decide +kernel)) rfl
theorem lf_X5_66 : Cond.fieldLink RX5 66 (TX3 6).1 (TX3 6).2.1 (TX3 6).2.2.1 ∈ zTb := z_tb (z_t1 91 (by decide +kernel)) rfl
theorem lf_X5_9 : Cond.fieldLink RX5 9 (TX5 0).1 (TX5 0).2.1 (TX5 0).2.2.1 ∈ zTb := z_tb (z_t1 107 (by decide +kernel)) rfl
theorem lf_X5_15 : Cond.fieldLink RX5 15 (TX5 1).1 (TX5 1).2.1 (TX5 1).2.2.1 ∈ zTb := z_tb (z_t1 108 (by decide +kernel)) rfl
theorem lf_X5_19 : Cond.fieldLink RX5 19 (TX5 2).1 (TX5 2).2.1 (TX5 2).2.2.1 ∈ zTb := z_tb (z_t1 109 (by decide +kernel)) rfl
theorem lf_X5_28 : Cond.fieldLink RX5 28 (TX5 3).1 (TX5 3).2.1 (TX5 3).2.2.1 ∈ zTb := z_tb (z_t1 110 (by decide +kernel)) rfl
theorem lf_X11_277 : Cond.fieldLink RX11 277 (TX5 3).1 (TX5 3).2.1 (TX5 3).2.2.1 ∈ zTb := z_tb (z_t1 111 (by decide +kernel)) rfl
theorem lf_X5_31 : Cond.fieldLink RX5 31 (TX5 4).1 (TX5 4).2.1 (TX5 4).2.2.1 ∈ zTb := z_tb (z_t1 112 (by decide +kernel)) rfl
theorem lf_X11_215 : Cond.fieldLink RX11 215 (TX5 4).1 (TX5 4).2.1 (TX5 4).2.2.1 ∈ zTb := z_tb (z_t1 113 (by decide +kernel)) rfl
theorem lf_X5_34 : Cond.fieldLink RX5 34 (TX5 5).1 (TX5 5).2.1 (TX5 5).2.2.1 ∈ zTb := z_tb (z_t1 114 (by decide +kernel)) rfl
theorem lf_X11_218 : Cond.fieldLink RX11 218 (TX5 5).1 (TX5 5).2.1 (TX5 5).2.2.1 ∈ zTb := z_tb (z_t1 115 (by decide +kernel)) rfl
theorem lf_X8_11 : Cond.fieldLink RX8 11 (TX8 0).1 (TX8 0).2.1 (TX8 0).2.2.1 ∈ zTb := z_tb (z_t1 135 (by decide +kernel)) rfl
theorem lf_X1_103 : Cond.fieldLink RX1 103 (TX8 0).1 (TX8 0).2.1 (TX8 0).2.2.1 ∈ zTb := z_tb (z_t1 136 (by decide +kernel)) rfl
theorem lf_X8_15 : Cond.fieldLink RX8 15 (TX8 1).1 (TX8 1).2.1 (TX8 1).2.2.1 ∈ zTb := z_tb (z_t1 137 (by decide +kernel)) rfl
theorem lf_X1_110 : Cond.fieldLink RX1 110 (TX8 1).1 (TX8 1).2.1 (TX8 1).2.2.1 ∈ zTb := z_tb (z_t1 138 (by decide +kernel)) rfl
theorem lf_X8_18 : Cond.fieldLink RX8 18 (TX8 2).1 (TX8 2).2.1 (TX8 2).2.2.1 ∈ zTb := z_tb (z_t1 139 (by decide +kernel)) rfl
theorem lf_X8_21 : Cond.fieldLink RX8 21 (TX8 3).1 (TX8 3).2.1 (TX8 3).2.2.1 ∈ zTb := z_tb (z_t1 140 (by decide +kernel)) rfl
theorem lf_X8_24 : Cond.fieldLink RX8 24 (TX8 4).1 (TX8 4).2.1 (TX8 4).2.2.1 ∈ zTb := z_tb (z_t1 141 (by decide +kernel)) rfl
theorem lf_X8_27 : Cond.fieldLink RX8 27 (TX8 5).1 (TX8 5).2.1 (TX8 5).2.2.1 ∈ zTb := z_tb (z_t1 142 (by decide +kernel)) rfl
theorem lf_X1_88 : Cond.fieldLink RX1 88 (TX8 5).1 (TX8 5).2.1 (TX8 5).2.2.1 ∈ zTb := z_tb (z_t1 143 (by decide +kernel)) rfl
theorem lf_X11_209 : Cond.fieldLink RX11 209 (TX8 5).1 (TX8 5).2.1 (TX8 5).2.2.1 ∈ zTb := z_tb (z_t1 144 (by decide +kernel)) rfl
theorem lf_X8_31 : Cond.fieldLink RX8 31 (TX8 6).1 (TX8 6).2.1 (TX8 6).2.2.1 ∈ zTb := z_tb (z_t1 145 (by decide +kernel)) rfl
theorem lf_X1_85 : Cond.fieldLink RX1 85 (TX8 6).1 (TX8 6).2.1 (TX8 6).2.2.1 ∈ zTb := z_tb (z_t1 146 (by decide +kernel)) rfl
theorem lf_X11_212 : Cond.fieldLink RX11 212 (TX8 6).1 (TX8 6).2.1 (TX8 6).2.2.1 ∈ zTb := z_tb (z_t1 147 (by decide +kernel)) rfl
theorem lf_X8_34 : Cond.fieldLink RX8 34 (TX8 7).1 (TX8 7).2.1 (TX8 7).2.2.1 ∈ zTb := z_tb (z_t1 148 (by decide +kernel)) rfl
theorem lf_X11_112 : Cond.fieldLink RX11 112 (TX8 7).1 (TX8 7).2.1 (TX8 7).2.2.1 ∈ zTb := z_tb (z_t1 149 (by decide +kernel)) rfl
theorem lf_X4_11 : Cond.fieldLink RX4 11 (TX4 0).1 (TX4 0).2.1 (TX4 0).2.2.1 ∈ zTb := z_tb (z_t1 181 (by decide +kernel)) rfl
theorem lf_X4_15 : Cond.fieldLink RX4 15 (TX4 1).1 (TX4 1).2.1 (TX4 1).2.2.1 ∈ zTb := z_tb (z_t1 182 (by decide +kernel)) rfl
theorem lf_X4_18 : Cond.fieldLink RX4 18 (TX4 2).1 (TX4 2).2.1 (TX4 2).2.2.1 ∈ zTb := z_tb (z_t1 183 (by decide +kernel)) rfl
theorem lf_X4_21 : Cond.fieldLink RX4 21 (TX4 3).1 (TX4 3).2.1 (TX4 3).2.2.1 ∈ zTb := z_tb (z_t1 184 (by decide +kernel)) rfl
theorem lf_X4_24 : Cond.fieldLink RX4 24 (TX4 4).1 (TX4 4).2.1 (TX4 4).2.2.1 ∈ zTb := z_tb (z_t1 185 (by decide +kernel)) rfl
theorem lf_X4_34 : Cond.fieldLink RX4 34 (TX4 5).1 (TX4 5).2.1 (TX4 5).2.2.1 ∈ zTb := z_tb (z_t1 186 (by decide +kernel)) rfl
theorem lf_X4_38 : Cond.fieldLink RX4 38 (TX4 6).1 (TX4 6).2.1 (TX4 6).2.2.1 ∈ zTb := z_tb (z_t1 187 (by decide +kernel)) rfl
theorem lf_X4_27 : Cond.fieldLink RX4 27 (TX4 7).1 (TX4 7).2.1 (TX4 7).2.2.1 ∈ zTb := z_tb (z_t1 188 (by decide +kernel)) rfl
theorem lf_X4_51 : Cond.fieldLink RX4 51 (TX4 8).1 (TX4 8).2.1 (TX4 8).2.2.1 ∈ zTb := z_tb (z_t1 189 (by decide +kernel)) rfl
theorem lf_X4_54 : Cond.fieldLink RX4 54 (TX4 9).1 (TX4 9).2.1 (TX4 9).2.2.1 ∈ zTb := z_tb (z_t1 190 (by decide +kernel)) rfl
theorem lf_X4_57 : Cond.fieldLink RX4 57 (TX4 10).1 (TX4 10).2.1 (TX4 10).2.2.1 ∈ zTb := z_tb (z_t1 191 (by decide +kernel)) rfl
theorem lf_X4_60 : Cond.fieldLink RX4 60 (TX4 11).1 (TX4 11).2.1 (TX4 11).2.2.1 ∈ zTb := z_tb (z_t1 192 (by decide +kernel)) rfl
theorem lf_X4_63 : Cond.fieldLink RX4 63 (TX4 12).1 (TX4 12).2.1 (TX4 12).2.2.1 ∈ zTb := z_tb (z_t1 193 (by decide +kernel)) rfl
theorem lf_X4_70 : Cond.fieldLink RX4 70 (TX4 13).1 (TX4 13).2.1 (TX4 13).2.2.1 ∈ zTb := z_tb (z_t1 194 (by decide +kernel)) rfl
theorem lf_X6_9 : Cond.fieldLink RX6 9 (TX6 0).1 (TX6 0).2.1 (TX6 0).2.2.1 ∈ zTb := z_tb (z_t1 235 (by decide +kernel)) rfl
theorem lf_X6_15 : Cond.fieldLink RX6 15 (TX6 1).1 (TX6 1).2.1 (TX6 1).2.2.1 ∈ zTb := z_tb (z_t1 236 (by decide +kernel)) rfl
theorem lf_X6_18 : Cond.fieldLink RX6 18 (TX6 2).1 (TX6 2).2.1 (TX6 2).2.2.1 ∈ zTb := z_tb (z_t1 237 (by decide +kernel)) rfl
theorem lf_X6_21 : Cond.fieldLink RX6 21 (TX6 3).1 (TX6 3).2.1 (TX6 3).2.2.1 ∈ zTb := z_tb (z_t1 238 (by decide +kernel)) rfl
theorem lf_X6_25 : Cond.fieldLink RX6 25 (TX6 4).1 (TX6 4).2.1 (TX6 4).2.2.1 ∈ zTb := z_tb (z_t1 239 (by decide +kernel)) rfl
theorem lf_X11_184 : Cond.fieldLink RX11 184 (TX6 4).1 (TX6 4).2.1 (TX6 4).2.2.1 ∈ zTb := z_tb (z_t2 0 (by decide +kernel)) rfl
theorem lf_X6_28 : Cond.fieldLink RX6 28 (TX6 5).1 (TX6 5).2.1 (TX6 5).2.2.1 ∈ zTb := z_tb (z_t2 1 (by decide +kernel)) rfl
theorem lf_X6_31 : Cond.fieldLink RX6 31 (TX6 6).1 (TX6 6).2.1 (TX6 6).2.2.1 ∈ zTb := z_tb (z_t2 2 (by decide +kernel)) rfl
theorem lf_X0_51 : Cond.fieldLink RX0 51 (TX6 6).1 (TX6 6).2.1 (TX6 6).2.2.1 ∈ zTb := z_tb (z_t2 3 (by decide +kernel)) rfl
theorem lf_X11_271 : Cond.fieldLink RX11 271 (TX6 6).1 (TX6 6).2.1 (TX6 6).2.2.1 ∈ zTb := z_tb (z_t2 4 (by decide +kernel)) rfl
theorem lf_X6_34 : Cond.fieldLink RX6 34 (TX6 7).1 (TX6 7).2.1 (TX6 7).2.2.1 ∈ zTb := z_tb (z_t2 5 (by decide +kernel)) rfl
theorem lf_X6_37 : Cond.fieldLink RX6 37 (TX6 8).1 (TX6 8).2.1 (TX6 8).2.2.1 ∈ zTb := z_tb (z_t2 6 (by decide +kernel)) rfl
theorem lf_X0_12 : Cond.fieldLink RX0 12 (TX0 0).1 (TX0 0).2.1 (TX0 0).2.2.1 ∈ zTb := z_tb (z_t2 26 (by decide +kernel)) rfl
theorem lf_X4_84 : Cond.fieldLink RX4 84 (TX0 0).1 (TX0 0).2.1 (TX0 0).2.2.1 ∈ zTb := z_tb (z_t2 27 (by decide +kernel)) rfl
theorem lf_X1_60 : Cond.fieldLink RX1 60 (TX0 0).1 (TX0 0).2.1 (TX0 0).2.2.1 ∈ zTb := z_tb (z_t2 28 (by decide +kernel)) rfl
theorem lf_X11_170 : Cond.fieldLink RX11 170 (TX0 0).1 (TX0 0).2.1 (TX0 0).2.2.1 ∈ zTb := z_tb (z_t2 29 (by decide +kernel)) rfl
theorem lf_X0_22 : Cond.fieldLink RX0 22 (TX0 1).1 (TX0 1).2.1 (TX0 1).2.2.1 ∈ zTb := z_tb (z_t2 30 (by decide +kernel)) rfl
theorem lf_X1_146 : Cond.fieldLink RX1 146 (TX0 1).1 (TX0 1).2.1 (TX0 1).2.2.1 ∈ zTb := z_tb (z_t2 31 (by decide +kernel)) rfl
theorem lf_X11_181 : Cond.fieldLink RX11 181 (TX0 1).1 (TX0 1).2.1 (TX0 1).2.2.1 ∈ zTb := z_tb (z_t2 32 (by decide +kernel)) rfl
theorem lf_X0_26 : Cond.fieldLink RX0 26 (TX0 2).1 (TX0 2).2.1 (TX0 2).2.2.1 ∈ zTb := z_tb (z_t2 33 (by decide +kernel)) rfl
theorem lf_X1_76 : Cond.fieldLink RX1 76 (TX0 2).1 (TX0 2).2.1 (TX0 2).2.2.1 ∈ zTb := z_tb (z_t2 34 (by decide +kernel)) rfl
theorem lf_X11_268 : Cond.fieldLink RX11 268 (TX0 2).1 (TX0 2).2.1 (TX0 2).2.2.1 ∈ zTb := z_tb (z_t2 35 (by decide +kernel)) rfl
theorem lf_X0_29 : Cond.fieldLink RX0 29 (TX0 3).1 (TX0 3).2.1 (TX0 3).2.2.1 ∈ zTb := z_tb (z_t2 36 (by decide +kernel)) rfl
theorem lf_X11_262 : Cond.fieldLink RX11 262 (TX0 3).1 (TX0 3).2.1 (TX0 3).2.2.1 ∈ zTb := z_tb (z_t2 37 (by decide +kernel)) rfl
theorem lf_X0_32 : Cond.fieldLink RX0 32 (TX0 4).1 (TX0 4).2.1 (TX0 4).2.2.1 ∈ zTb := z_tb (z_t2 38 (by decide +kernel)) rfl
theorem lf_X11_265 : Cond.fieldLink RX11 265 (TX0 4).1 (TX0 4).2.1 (TX0 4).2.2.1 ∈ zTb := z_tb (z_t2 39 (by decide +kernel)) rfl
theorem lf_X0_35 : Cond.fieldLink RX0 35 (TX0 5).1 (TX0 5).2.1 (TX0 5).2.2.1 ∈ zTb := z_tb (z_t2 40 (by decide +kernel)) rfl
theorem lf_X1_140 : Cond.fieldLink RX1 140 (TX0 5).1 (TX0 5).2.1 (TX0 5).2.2.1 ∈ zTb := z_tb (z_t2 41 (by decide +kernel)) rfl
theorem lf_X11_274 : Cond.fieldLink RX11 274 (TX0 5).1 (TX0 5).2.1 (TX0 5).2.2.1 ∈ zTb := z_tb (z_t2 42 (by decide +kernel)) rfl
theorem lf_X0_38 : Cond.fieldLink RX0 38 (TX0 6).1 (TX0 6).2.1 (TX0 6).2.2.1 ∈ zTb := z_tb (z_t2 43 (by decide +kernel)) rfl
theorem lf_X1_143 : Cond.fieldLink RX1 143 (TX0 6).1 (TX0 6).2.1 (TX0 6).2.2.1 ∈ zTb := z_tb (z_t2 44 (by decide +kernel)) rfl
theorem lf_X1_11 : Cond.fieldLink RX1 11 (TX1 0).1 (TX1 0).2.1 (TX1 0).2.2.1 ∈ zTb := z_tb (z_t2 60 (by decide +kernel)) rfl
theorem lf_X1_20 : Cond.fieldLink RX1 20 (TX1 1).1 (TX1 1).2.1 (TX1 1).2.2.1 ∈ zTb := z_tb (z_t2 61 (by decide +kernel)) rfl
theorem lf_X1_43 : Cond.fieldLink RX1 43 (TX1 2).1 (TX1 2).2.1 (TX1 2).2.2.1 ∈ zTb := z_tb (z_t2 62 (by decide +kernel)) rfl
theorem lf_X1_24 : Cond.fieldLink RX1 24 (TX1 3).1 (TX1 3).2.1 (TX1 3).2.2.1 ∈ zTb := z_tb (z_t2 63 (by decide +kernel)) rfl
theorem lf_X1_28 : Cond.fieldLink RX1 28 (TX1 4).1 (TX1 4).2.1 (TX1 4).2.2.1 ∈ zTb := z_tb (z_t2 64 (by decide +kernel)) rfl
theorem lf_X10_9 : Cond.fieldLink RX10 9 (TX10 0).1 (TX10 0).2.1 (TX10 0).2.2.1 ∈ zTb := z_tb (z_t2 84 (by decide +kernel)) rfl
theorem lf_X10_15 : Cond.fieldLink RX10 15 (TX10 1).1 (TX10 1).2.1 (TX10 1).2.2.1 ∈ zTb := z_tb (z_t2 85 (by decide +kernel)) rfl
theorem lf_X10_18 : Cond.fieldLink RX10 18 (TX10 2).1 (TX10 2).2.1 (TX10 2).2.2.1 ∈ zTb := z_tb (z_t2 86 (by decide +kernel)) rfl
theorem lf_X10_21 : Cond.fieldLink RX10 21 (TX10 3).1 (TX10 3).2.1 (TX10 3).2.2.1 ∈ zTb := z_tb (z_t2 87 (by decide +kernel)) rfl
theorem lf_X10_24 : Cond.fieldLink RX10 24 (TX10 4).1 (TX10 4).2.1 (TX10 4).2.2.1 ∈ zTb := z_tb (z_t2 88 (by decide +kernel)) rfl
theorem lf_X10_27 : Cond.fieldLink RX10 27 (TX10 5).1 (TX10 5).2.1 (TX10 5).2.2.1 ∈ zTb := z_tb (z_t2 89 (by decide +kernel)) rfl
theorem lf_X4_42 : Cond.fieldLink RX4 42 (TX10 5).1 (TX10 5).2.1 (TX10 5).2.2.1 ∈ zTb := z_tb (z_t2 90 (by decide +kernel)) rfl
theorem lf_X2_80 : Cond.fieldLink RX2 80 (TX10 5).1 (TX10 5).2.1 (TX10 5).2.2.1 ∈ zTb := z_tb (z_t2 91 (by decide +kernel)) rfl
theorem lf_X11_200 : Cond.fieldLink RX11 200 (TX10 5).1 (TX10 5).2.1 (TX10 5).2.2.1 ∈ zTb := z_tb (z_t2 92 (by decide +kernel)) rfl
theorem lf_X11_69 : Cond.fieldLink RX11 69 (TX10 6).1 (TX10 6).2.1 (TX10 6).2.2.1 ∈ zTb := z_tb (z_t2 93 (by decide +kernel)) rfl
theorem lf_X4_31 : Cond.fieldLink RX4 31 (TX10 6).1 (TX10 6).2.1 (TX10 6).2.2.1 ∈ zTb := z_tb (z_t2 94 (by decide +kernel)) rfl
theorem lf_X10_31 : Cond.fieldLink RX10 31 (TX10 6).1 (TX10 6).2.1 (TX10 6).2.2.1 ∈ zTb := z_tb (z_t2 95 (by decide +kernel)) rfl
theorem lf_X2_67 : Cond.fieldLink RX2 67 (TX10 6).1 (TX10 6).2.1 (TX10 6).2.2.1 ∈ zTb := z_tb (z_t2 96 (by decide +kernel)) rfl
theorem lf_X10_34 : Cond.fieldLink RX10 34 (TX10 7).1 (TX10 7).2.1 (TX10 7).2.2.1 ∈ zTb := z_tb (z_t2 97 (by decide +kernel)) rfl
theorem lf_X2_77 : Cond.fieldLink RX2 77 (TX10 7).1 (TX10 7).2.1 (TX10 7).2.2.1 ∈ zTb := z_tb (z_t2 98 (by decide +kernel)) rfl
theorem lf_X11_206 : Cond.fieldLink RX11 206 (TX10 7).1 (TX10 7).2.1 (TX10 7).2.2.1 ∈ zTb := z_tb (z_t2 99 (by decide +kernel)) rfl
theorem lf_X1_32 : Cond.fieldLink RX1 32 (TX10 8).1 (TX10 8).2.1 (TX10 8).2.2.1 ∈ zTb := z_tb (z_t2 100 (by decide +kernel)) rfl
theorem lf_X10_37 : Cond.fieldLink RX10 37 (TX10 8).1 (TX10 8).2.1 (TX10 8).2.2.1 ∈ zTb := z_tb (z_t2 101 (by decide +kernel)) rfl
theorem lf_X4_127 : Cond.fieldLink RX4 127 (TX10 8).1 (TX10 8).2.1 (TX10 8).2.2.1 ∈ zTb := z_tb (z_t2 102 (by decide +kernel)) rfl
theorem lf_X2_74 : Cond.fieldLink RX2 74 (TX10 8).1 (TX10 8).2.1 (TX10 8).2.2.1 ∈ zTb := z_tb (z_t2 103 (by decide +kernel)) rfl
theorem lf_X11_203 : Cond.fieldLink RX11 203 (TX10 8).1 (TX10 8).2.1 (TX10 8).2.2.1 ∈ zTb := z_tb (z_t2 104 (by decide +kernel)) rfl
theorem lf_X9_9 : Cond.fieldLink RX9 9 (TX9 0).1 (TX9 0).2.1 (TX9 0).2.2.1 ∈ zTb := z_tb (z_t2 129 (by decide +kernel)) rfl
theorem lf_X11_239 : Cond.fieldLink RX11 239 (TX9 0).1 (TX9 0).2.1 (TX9 0).2.2.1 ∈ zTb := z_tb (z_t2 130 (by decide +kernel)) rfl
theorem lf_X9_15 : Cond.fieldLink RX9 15 (TX9 1).1 (TX9 1).2.1 (TX9 1).2.2.1 ∈ zTb := z_tb (z_t2 131 (by decide +kernel)) rfl
theorem lf_X11_242 : Cond.fieldLink RX11 242 (TX9 1).1 (TX9 1).2.1 (TX9 1).2.2.1 ∈ zTb := z_tb (z_t2 132 (by decide +kernel)) rfl
theorem lf_X9_18 : Cond.fieldLink RX9 18 (TX9 2).1 (TX9 2).2.1 (TX9 2).2.2.1 ∈ zTb := z_tb (z_t2 133 (by decide +kernel)) rfl
theorem lf_X11_243 : Cond.fieldLink RX11 243 (TX9 2).1 (TX9 2).2.1 (TX9 2).2.2.1 ∈ zTb := z_tb (z_t2 134 (by decide +kernel)) rfl
theorem lf_X9_21 : Cond.fieldLink RX9 21 (TX9 3).1 (TX9 3).2.1 (TX9 3).2.2.1 ∈ zTb := z_tb (z_t2 135 (by decide +kernel)) rfl
theorem lf_X11_249 : Cond.fieldLink RX11 249 (TX9 3).1 (TX9 3).2.1 (TX9 3).2.2.1 ∈ zTb := z_tb (z_t2 136 (by decide +kernel)) rfl
theorem lf_X9_25 : Cond.fieldLink RX9 25 (TX9 4).1 (TX9 4).2.1 (TX9 4).2.2.1 ∈ zTb := z_tb (z_t2 137 (by decide +kernel)) rfl
theorem lf_X9_28 : Cond.fieldLink RX9 28 (TX9 5).1 (TX9 5).2.1 (TX9 5).2.2.1 ∈ zTb := z_tb (z_t2 138 (by decide +kernel)) rfl
theorem lf_X11_256 : Cond.fieldLink RX11 256 (TX9 5).1 (TX9 5).2.1 (TX9 5).2.2.1 ∈ zTb := z_tb (z_t2 139 (by decide +kernel)) rfl
theorem lf_X11_12 : Cond.fieldLink RX11 12 (TX11 0).1 (TX11 0).2.1 (TX11 0).2.2.1 ∈ zTb := z_tb (z_t2 224 (by decide +kernel)) rfl
theorem lf_X11_19 : Cond.fieldLink RX11 19 (TX11 1).1 (TX11 1).2.1 (TX11 1).2.2.1 ∈ zTb := z_tb (z_t2 225 (by decide +kernel)) rfl
theorem lf_X11_26 : Cond.fieldLink RX11 26 (TX11 2).1 (TX11 2).2.1 (TX11 2).2.2.1 ∈ zTb := z_tb (z_t2 226 (by decide +kernel)) rfl
theorem lf_X11_33 : Cond.fieldLink RX11 33 (TX11 3).1 (TX11 3).2.1 (TX11 3).2.2.1 ∈ zTb := z_tb (z_t2 227 (by decide +kernel)) rfl
theorem lf_X11_40 : Cond.fieldLink RX11 40 (TX11 4).1 (TX11 4).2.1 (TX11 4).2.2.1 ∈ zTb := z_tb (z_t2 228 (by decide +kernel)) rfl
theorem lf_X11_46 : Cond.fieldLink RX11 46 (TX11 5).1 (TX11 5).2.1 (TX11 5).2.2.1 ∈ zTb := z_tb (z_t2 229 (by decide +kernel)) rfl
theorem lf_X11_53 : Cond.fieldLink RX11 53 (TX11 6).1 (TX11 6).2.1 (TX11 6).2.2.1 ∈ zTb := z_tb (z_t2 230 (by decide +kernel)) rfl
theorem lf_X11_57 : Cond.fieldLink RX11 57 (TX11 7).1 (TX11 7).2.1 (TX11 7).2.2.1 ∈ zTb := z_tb (z_t2 231 (by decide +kernel)) rfl
theorem lf_X11_60 : Cond.fieldLink RX11 60 (TX11 8).1 (TX11 8).2.1 (TX11 8).2.2.1 ∈ zTb := z_tb (z_t2 232 (by decide +kernel)) rfl
theorem lf_X11_109 : Cond.fieldLink RX11 109 (TX11 9).1 (TX11 9).2.1 (TX11 9).2.2.1 ∈ zTb := z_tb (z_t2 233 (by decide +kernel)) rfl
theorem lf_X11_224 : Cond.fieldLink RX11 224 (TX11 10).1 (TX11 10).2.1 (TX11 10).2.2.1 ∈ zTb := z_tb (z_t2 234 (by decide +kernel)) rfl
theorem lf_X12_13 : Cond.fieldLink RX12 13 (TX12 1).1 (TX12 1).2.1 (TX12 1).2.2.1 ∈ zTb := z_tb (z_t4 196 (by decide +kernel)) rfl
theorem lf_X12_161 : Cond.fieldLink RX12 161 (TX12 2).1 (TX12 2).2.1 (TX12 2).2.2.1 ∈ zTb := z_tb (z_t4 197 (by decide +kernel)) rfl
theorem lf_X12_168 : Cond.fieldLink RX12 168 (TX12 3).1 (TX12 3).2.1 (TX12 3).2.2.1 ∈ zTb := z_tb (z_t4 198 (by decide +kernel)) rfl
theorem lf_X12_17 : Cond.fieldLink RX12 17 (TX12 4).1 (TX12 4).2.1 (TX12 4).2.2.1 ∈ zTb := z_tb (z_t4 199 (by decide +kernel)) rfl
theorem lf_X12_149 : Cond.fieldLink RX12 149 (TX12 5).1 (TX12 5).2.1 (TX12 5).2.2.1 ∈ zTb := z_tb (z_t4 200 (by decide +kernel)) rfl
theorem lf_X12_152 : Cond.fieldLink RX12 152 (TX12 6).1 (TX12 6).2.1 (TX12 6).2.2.1 ∈ zTb := z_tb (z_t4 201 (by decide +kernel)) rfl
theorem lf_X12_20 : Cond.fieldLink RX12 20 (TX12 7).1 (TX12 7).2.1 (TX12 7).2.2.1 ∈ zTb := z_tb (z_t4 202 (by decide +kernel)) rfl
theorem lf_X12_24 : Cond.fieldLink RX12 24 (TX12 8).1 (TX12 8).2.1 (TX12 8).2.2.1 ∈ zTb := z_tb (z_t4 203 (by decide +kernel)) rfl
theorem lf_X12_192 : Cond.fieldLink RX12 192 (TX12 9).1 (TX12 9).2.1 (TX12 9).2.2.1 ∈ zTb := z_tb (z_t4 204 (by decide +kernel)) rfl
theorem lf_X12_195 : Cond.fieldLink RX12 195 (TX12 10).1 (TX12 10).2.1 (TX12 10).2.2.1 ∈ zTb := z_tb (z_t4 205 (by decide +kernel)) rfl
theorem lf_X12_27 : Cond.fieldLink RX12 27 (TX12 11).1 (TX12 11).2.1 (TX12 11).2.2.1 ∈ zTb := z_tb (z_t4 206 (by decide +kernel)) rfl
theorem lf_X12_30 : Cond.fieldLink RX12 30 (TX12 12).1 (TX12 12).2.1 (TX12 12).2.2.1 ∈ zTb := z_tb (z_t4 207 (by decide +kernel)) rfl
theorem lf_X12_171 : Cond.fieldLink RX12 171 (TX12 13).1 (TX12 13).2.1 (TX12 13).2.2.1 ∈ zTb := z_tb (z_t4 208 (by decide +kernel)) rfl
theorem lf_X12_174 : Cond.fieldLink RX12 174 (TX12 14).1 (TX12 14).2.1 (TX12 14).2.2.1 ∈ zTb := z_tb (z_t4 209 (by decide +kernel)) rfl
theorem lf_X12_33 : Cond.fieldLink RX12 33 (TX12 15).1 (TX12 15).2.1 (TX12 15).2.2.1 ∈ zTb := z_tb (z_t4 210 (by decide +kernel)) rfl
theorem lf_X12_37 : Cond.fieldLink RX12 37 (TX12 16).1 (TX12 16).2.1 (TX12 16).2.2.1 ∈ zTb := z_tb (z_t4 211 (by decide +kernel)) rfl
theorem lf_X12_155 : Cond.fieldLink RX12 155 (TX12 17).1 (TX12 17).2.1 (TX12 17).2.2.1 ∈ zTb := z_tb (z_t4 212 (by decide +kernel)) rfl
theorem lf_X12_40 : Cond.fieldLink RX12 40 (TX12 18).1 (TX12 18).2.1 (TX12 18).2.2.1 ∈ zTb := z_tb (z_t4 213 (by decide +kernel)) rfl
theorem lf_X12_198 : Cond.fieldLink RX12 198 (TX12 19).1 (TX12 19).2.1 (TX12 19).2.2.1 ∈ zTb := z_tb (z_t4 214 (by decide +kernel)) rfl
theorem lf_X12_201 : Cond.fieldLink RX12 201 (TX12 20).1 (TX12 20).2.1 (TX12 20).2.2.1 ∈ zTb := z_tb (z_t4 215 (by decide +kernel)) rfl
theorem lf_X12_204 : Cond.fieldLink RX12 204 (TX12 21).1 (TX12 21).2.1 (TX12 21).2.2.1 ∈ zTb := z_tb (z_t4 216 (by decide +kernel)) rfl
theorem lf_X12_43 : Cond.fieldLink RX12 43 (TX12 22).1 (TX12 22).2.1 (TX12 22).2.2.1 ∈ zTb := z_tb (z_t4 217 (by decide +kernel)) rfl
theorem lf_X12_46 : Cond.fieldLink RX12 46 (TX12 23).1 (TX12 23).2.1 (TX12 23).2.2.1 ∈ zTb := z_tb (z_t4 218 (by decide +kernel)) rfl
theorem lf_X12_49 : Cond.fieldLink RX12 49 (TX12 24).1 (TX12 24).2.1 (TX12 24).2.2.1 ∈ zTb := z_tb (z_t4 219 (by decide +kernel)) rfl
theorem lf_X12_52 : Cond.fieldLink RX12 52 (TX12 25).1 (TX12 25).2.1 (TX12 25).2.2.1 ∈ zTb := z_tb (z_t4 220 (by decide +kernel)) rfl
theorem lf_X12_55 : Cond.fieldLink RX12 55 (TX12 26).1 (TX12 26).2.1 (TX12 26).2.2.1 ∈ zTb := z_tb (z_t4 221 (by decide +kernel)) rfl
theorem lf_X12_58 : Cond.fieldLink RX12 58 (TX12 27).1 (TX12 27).2.1 (TX12 27).2.2.1 ∈ zTb := z_tb (z_t4 222 (by decide +kernel)) rfl
theorem lf_X12_61 : Cond.fieldLink RX12 61 (TX12 28).1 (TX12 28).2.1 (TX12 28).2.2.1 ∈ zTb := z_tb (z_t4 223 (by decide +kernel)) rfl
theorem lf_X12_64 : Cond.fieldLink RX12 64 (TX12 29).1 (TX12 29).2.1 (TX12 29).2.2.1 ∈ zTb := z_tb (z_t4 224 (by decide +kernel)) rfl
theorem lf_X12_67 : Cond.fieldLink RX12 67 (TX12 30).1 (TX12 30).2.1 (TX12 30).2.2.1 ∈ zTb := z_tb (z_t4 225 (by decide +kernel)) rfl
theorem lf_X12_70 : Cond.fieldLink RX12 70 (TX12 31).1 (TX12 31).2.1 (TX12 31).2.2.1 ∈ zTb := z_tb (z_t4 226 (by decide +kernel)) rfl
theorem lf_X12_73 : Cond.fieldLink RX12 73 (TX12 32).1 (TX12 32).2.1 (TX12 32).2.2.1 ∈ zTb := z_tb (z_t4 227 (by decide +kernel)) rfl
theorem lf_X12_77 : Cond.fieldLink RX12 77 (TX12 33).1 (TX12 33).2.1 (TX12 33).2.2.1 ∈ zTb := z_tb (z_t4 228 (by decide +kernel)) rfl
theorem lf_X12_80 : Cond.fieldLink RX12 80 (TX12 34).1 (TX12 34).2.1 (TX12 34).2.2.1 ∈ zTb := z_tb (z_t4 229 (by decide +kernel)) rfl
theorem lf_X12_210 : Cond.fieldLink RX12 210 (TX12 35).1 (TX12 35).2.1 (TX12 35).2.2.1 ∈ zTb := z_tb (z_t4 230 (by decide +kernel)) rfl
theorem lf_X12_213 : Cond.fieldLink RX12 213 (TX12 36).1 (TX12 36).2.1 (TX12 36).2.2.1 ∈ zTb := z_tb (z_t4 231 (by decide +kernel)) rfl
theorem lf_X12_216 : Cond.fieldLink RX12 216 (TX12 37).1 (TX12 37).2.1 (TX12 37).2.2.1 ∈ zTb := z_tb (z_t4 232 (by decide +kernel)) rfl
theorem lf_X12_83 : Cond.fieldLink RX12 83 (TX12 38).1 (TX12 38).2.1 (TX12 38).2.2.1 ∈ zTb := z_tb (z_t4 233 (by decide +kernel)) rfl
theorem lf_X12_86 : Cond.fieldLink RX12 86 (TX12 39).1 (TX12 39).2.1 (TX12 39).2.2.1 ∈ zTb := z_tb (z_t4 234 (by decide +kernel)) rfl
theorem lf_X12_89 : Cond.fieldLink RX12 89 (TX12 40).1 (TX12 40).2.1 (TX12 40).2.2.1 ∈ zTb := z_tb (z_t4 235 (by decide +kernel)) rfl
theorem lf_X12_92 : Cond.fieldLink RX12 92 (TX12 41).1 (TX12 41).2.1 (TX12 41).2.2.1 ∈ zTb := z_tb (z_t4 236 (by decide +kernel)) rfl
theorem lf_X12_95 : Cond.fieldLink RX12 95 (TX12 42).1 (TX12 42).2.1 (TX12 42).2.2.1 ∈ zTb := z_tb (z_t4 237 (by decide +kernel)) rfl
theorem lf_X12_98 : Cond.fieldLink RX12 98 (TX12 43).1 (TX12 43).2.1 (TX12 43).2.2.1 ∈ zTb := z_tb (z_t4 238 (by decide +kernel)) rfl
theorem lf_X12_101 : Cond.fieldLink RX12 101 (TX12 44).1 (TX12 44).2.1 (TX12 44).2.2.1 ∈ zTb := z_tb (z_t4 239 (by decide +kernel)) rfl
theorem lf_X12_104 : Cond.fieldLink RX12 104 (TX12 45).1 (TX12 45).2.1 (TX12 45).2.2.1 ∈ zTb := z_tb (z_t5 0 (by decide +kernel)) rfl
theorem lf_X12_107 : Cond.fieldLink RX12 107 (TX12 46).1 (TX12 46).2.1 (TX12 46).2.2.1 ∈ zTb := z_tb (z_t5 1 (by decide +kernel)) rfl
theorem lf_X12_110 : Cond.fieldLink RX12 110 (TX12 47).1 (TX12 47).2.1 (TX12 47).2.2.1 ∈ zTb := z_tb (z_t5 2 (by decide +kernel)) rfl
theorem lf_X12_113 : Cond.fieldLink RX12 113 (TX12 48).1 (TX12 48).2.1 (TX12 48).2.2.1 ∈ zTb := z_tb (z_t5 3 (by decide +kernel)) rfl
theorem lf_X12_116 : Cond.fieldLink RX12 116 (TX12 49).1 (TX12 49).2.1 (TX12 49).2.2.1 ∈ zTb := z_tb (z_t5 4 (by decide +kernel)) rfl
theorem lf_X12_119 : Cond.fieldLink RX12 119 (TX12 50).1 (TX12 50).2.1 (TX12 50).2.2.1 ∈ zTb := z_tb (z_t5 5 (by decide +kernel)) rfl
theorem lf_X12_122 : Cond.fieldLink RX12 122 (TX12 51).1 (TX12 51).2.1 (TX12 51).2.2.1 ∈ zTb := z_tb (z_t5 6 (by decide +kernel)) rfl
theorem lf_X12_125 : Cond.fieldLink RX12 125 (TX12 52).1 (TX12 52).2.1 (TX12 52).2.2.1 ∈ zTb := z_tb (z_t5 7 (by decide +kernel)) rfl
theorem lf_X12_219 : Cond.fieldLink RX12 219 (TX12 53).1 (TX12 53).2.1 (TX12 53).2.2.1 ∈ zTb := z_tb (z_t5 8 (by decide +kernel)) rfl
theorem lf_X12_128 : Cond.fieldLink RX12 128 (TX12 54).1 (TX12 54).2.1 (TX12 54).2.2.1 ∈ zTb := z_tb (z_t5 9 (by decide +kernel)) rfl
theorem lf_X12_131 : Cond.fieldLink RX12 131 (TX12 55).1 (TX12 55).2.1 (TX12 55).2.2.1 ∈ zTb := z_tb (z_t5 10 (by decide +kernel)) rfl
theorem lf_X12_134 : Cond.fieldLink RX12 134 (TX12 56).1 (TX12 56).2.1 (TX12 56).2.2.1 ∈ zTb := z_tb (z_t5 11 (by decide +kernel)) rfl
theorem lf_X12_137 : Cond.fieldLink RX12 137 (TX12 57).1 (TX12 57).2.1 (TX12 57).2.2.1 ∈ zTb := z_tb (z_t5 12 (by decide +kernel)) rfl
theorem lf_X12_140 : Cond.fieldLink RX12 140 (TX12 58).1 (TX12 58).2.1 (TX12 58).2.2.1 ∈ zTb := z_tb (z_t5 13 (by decide +kernel)) rfl
theorem lf_X12_143 : Cond.fieldLink RX12 143 (TX12 59).1 (TX12 59).2.1 (TX12 59).2.2.1 ∈ zTb := z_tb (z_t5 14 (by decide +kernel)) rfl
theorem lf_X12_146 : Cond.fieldLink RX12 146 (TX12 60).1 (TX12 60).2.1 (TX12 60).2.2.1 ∈ zTb := z_tb (z_t5 15 (by decide +kernel)) rfl
theorem lf_X12_207 : Cond.fieldLink RX12 207 (TX12 61).1 (TX12 61).2.1 (TX12 61).2.2.1 ∈ zTb := z_tb (z_t5 16 (by decide +kernel)) rfl
theorem lf_X12_254 : Cond.fieldLink RX12 254 (TX12 62).1 (TX12 62).2.1 (TX12 62).2.2.1 ∈ zTb := z_tb (z_t5 17 (by decide +kernel)) rfl
theorem lf_X12_257 : Cond.fieldLink RX12 257 (TX12 63).1 (TX12 63).2.1 (TX12 63).2.2.1 ∈ zTb := z_tb (z_t5 18 (by decide +kernel)) rfl
theorem lf_X12_260 : Cond.fieldLink RX12 260 (TX12 64).1 (TX12 64).2.1 (TX12 64).2.2.1 ∈ zTb := z_tb (z_t5 19 (by decide +kernel)) rfl
theorem lm_L_9 : Cond.methodLink RL 9 yX11_init ∈ zTb := z_tb (z_t1 18 (by decide +kernel)) rfl
theorem lm_X11_3 : Cond.methodLink RX11 3 objectInit ∈ zTb := z_tb (z_t1 21 (by decide +kernel)) rfl
theorem lm_X7_1 : Cond.methodLink RX7 1 objectInit ∈ zTb := z_tb (z_t1 29 (by decide +kernel)) rfl
theorem lm_X2_3 : Cond.methodLink RX2 3 objectInit ∈ zTb := z_tb (z_t1 46 (by decide +kernel)) rfl
theorem lm_X11_25 : Cond.methodLink RX11 25 yX5_init ∈ zTb := z_tb (z_t1 67 (by decide +kernel)) rfl
theorem lm_X5_1 : Cond.methodLink RX5 1 objectInit ∈ zTb := z_tb (z_t1 70 (by decide +kernel)) rfl
theorem lm_X3_1 : Cond.methodLink RX3 1 objectInit ∈ zTb := z_tb (z_t1 77 (by decide +kernel)) rfl
theorem lm_X8_3 : Cond.methodLink RX8 3 objectInit ∈ zTb := z_tb (z_t1 134 (by decide +kernel)) rfl
theorem lm_X11_39 : Cond.methodLink RX11 39 yX1_init ∈ zTb := z_tb (z_t1 169 (by decide +kernel)) rfl
theorem lm_X1_3 : Cond.methodLink RX1 3 objectInit ∈ zTb := z_tb (z_t1 172 (by decide +kernel)) rfl
theorem lm_X4_3 : Cond.methodLink RX4 3 objectInit ∈ zTb := z_tb (z_t1 180 (by decide +kernel)) rfl
theorem lm_X0_3 : Cond.methodLink RX0 3 objectInit ∈ zTb := z_tb (z_t1 228 (by decide +kernel)) rfl
theorem lm_X6_3 : Cond.methodLink RX6 3 objectInit ∈ zTb := z_tb (z_t1 234 (by decide +kernel)) rfl
theorem lm_X10_3 : Cond.methodLink RX10 3 objectInit ∈ zTb := z_tb (z_t2 83 (by decide +kernel)) rfl
theorem lm_X9_3 : Cond.methodLink RX9 3 objectInit ∈ zTb := z_tb (z_t2 128 (by decide +kernel)) rfl
theorem lm_X11_65 : Cond.methodLink RX11 65 yX10_addCell ∈ zTb := z_tb (z_t2 153 (by decide +kernel)) rfl
theorem lm_X10_40 : Cond.methodLink RX10 40 yX10_addStation ∈ zTb := z_tb (z_t2 157 (by decide +kernel)) rfl
theorem lm_X10_43 : Cond.methodLink RX10 43 yX10_addParking ∈ zTb := z_tb (z_t2 161 (by decide +kernel)) rfl
theorem lm_X11_72 : Cond.methodLink RX11 72 yX10_joinCells ∈ zTb := z_tb (z_t2 165 (by decide +kernel)) rfl
theorem lm_X10_54 : Cond.methodLink RX10 54 yX10_cellBeside ∈ zTb := z_tb (z_t2 169 (by decide +kernel)) rfl
theorem lm_X10_50 : Cond.methodLink RX10 50 yX10_kindOf ∈ zTb := z_tb (z_t2 173 (by decide +kernel)) rfl
theorem lm_X10_46 : Cond.methodLink RX10 46 yX10_hasCell ∈ zTb := z_tb (z_t2 177 (by decide +kernel)) rfl
theorem lm_X11_75 : Cond.methodLink RX11 75 yX11_beginAnew ∈ zTb := z_tb (z_t2 181 (by decide +kernel)) rfl
theorem lm_X11_227 : Cond.methodLink RX11 227 yX8_clear ∈ zTb := z_tb (z_t2 185 (by decide +kernel)) rfl
theorem lm_X11_230 : Cond.methodLink RX11 230 yX5_clear ∈ zTb := z_tb (z_t2 189 (by decide +kernel)) rfl
theorem lm_X5_24 : Cond.methodLink RX5 24 yX5_clearFates ∈ zTb := z_tb (z_t2 193 (by decide +kernel)) rfl
theorem lm_X5_37 : Cond.methodLink RX5 37 yJ7_fill_53178 ∈ zTb := z_tb (z_t2 197 (by decide +kernel)) rfl
theorem lm_X11_231 : Cond.methodLink RX11 231 yX1_beginAnew ∈ zTb := z_tb (z_t2 200 (by decide +kernel)) rfl
theorem lm_X1_37 : Cond.methodLink RX1 37 yJ9_min_7cf53 ∈ zTb := z_tb (z_t2 204 (by decide +kernel)) rfl
theorem lm_X1_46 : Cond.methodLink RX1 46 yX10_parkingCell ∈ zTb := z_tb (z_t2 207 (by decide +kernel)) rfl
theorem lm_X1_50 : Cond.methodLink RX1 50 yX0_beginAnew ∈ zTb := z_tb (z_t2 211 (by decide +kernel)) rfl
theorem lm_X0_18 : Cond.methodLink RX0 18 yX6_begin ∈ zTb := z_tb (z_t2 215 (by decide +kernel)) rfl
theorem lm_X11_234 : Cond.methodLink RX11 234 yX10_parkingCell ∈ zTb := z_tb (z_t2 219 (by decide +kernel)) rfl
theorem lm_X11_237 : Cond.methodLink RX11 237 yX9_beginAnew ∈ zTb := z_tb (z_t2 220 (by decide +kernel)) rfl
theorem lm_L_13 : Cond.methodLink RL 13 yX11_feed ∈ zTb := z_tb (z_t3 18 (by decide +kernel)) rfl
theorem lm_X11_78 : Cond.methodLink RX11 78 yX7_hasRoomForFive ∈ zTb := z_tb (z_t3 22 (by decide +kernel)) rfl
theorem lm_X11_82 : Cond.methodLink RX11 82 yX7_addWord ∈ zTb := z_tb (z_t3 26 (by decide +kernel)) rfl
theorem lm_L_18 : Cond.methodLink RL 18 yX11_back ∈ zTb := z_tb (z_t3 30 (by decide +kernel)) rfl
theorem lm_L_23 : Cond.methodLink RL 23 yX11_read ∈ zTb := z_tb (z_t3 34 (by decide +kernel)) rfl
theorem lm_X11_88 : Cond.methodLink RX11 88 yX2_faultOf ∈ zTb := z_tb (z_t3 38 (by decide +kernel)) rfl
theorem lm_X2_22 : Cond.methodLink RX2 22 yX10_clear ∈ zTb := z_tb (z_t3 42 (by decide +kernel)) rfl
theorem lm_X2_33 : Cond.methodLink RX2 33 yX2_faultOfSigns ∈ zTb := z_tb (z_t3 46 (by decide +kernel)) rfl
theorem lm_X2_56 : Cond.methodLink RX2 56 yX2_takeByte ∈ zTb := z_tb (z_t3 50 (by decide +kernel)) rfl
theorem lm_X2_60 : Cond.methodLink RX2 60 yX2_endLine ∈ zTb := z_tb (z_t3 54 (by decide +kernel)) rfl
theorem lm_X2_63 : Cond.methodLink RX2 63 yX2_kindOfSign ∈ zTb := z_tb (z_t3 58 (by decide +kernel)) rfl
theorem lm_X2_70 : Cond.methodLink RX2 70 yX10_addCell ∈ zTb := z_tb (z_t3 61 (by decide +kernel)) rfl
theorem lm_X2_37 : Cond.methodLink RX2 37 yX10_joinCells ∈ zTb := z_tb (z_t3 62 (by decide +kernel)) rfl
theorem lm_X2_40 : Cond.methodLink RX2 40 yX2_faultOfNumbers ∈ zTb := z_tb (z_t3 63 (by decide +kernel)) rfl
theorem lm_X2_44 : Cond.methodLink RX2 44 yX2_faultOfWays ∈ zTb := z_tb (z_t3 66 (by decide +kernel)) rfl
theorem lm_X2_83 : Cond.methodLink RX2 83 yX10_isEndpoint ∈ zTb := z_tb (z_t3 70 (by decide +kernel)) rfl
theorem lm_X2_87 : Cond.methodLink RX2 87 yX2_reachesLaterEndpoints ∈ zTb := z_tb (z_t3 74 (by decide +kernel)) rfl
theorem lm_X2_91 : Cond.methodLink RX2 91 yX2_flood ∈ zTb := z_tb (z_t3 78 (by decide +kernel)) rfl
theorem lm_X2_95 : Cond.methodLink RX2 95 yJ7_fill_53178 ∈ zTb := z_tb (z_t3 82 (by decide +kernel)) rfl
theorem lm_X2_101 : Cond.methodLink RX2 101 yX2_visit ∈ zTb := z_tb (z_t3 83 (by decide +kernel)) rfl
theorem lm_X2_105 : Cond.methodLink RX2 105 yX10_neighbour ∈ zTb := z_tb (z_t3 87 (by decide +kernel)) rfl
theorem lm_L_28 : Cond.methodLink RL 28 yX11_place ∈ zTb := z_tb (z_t3 91 (by decide +kernel)) rfl
theorem lm_L_32 : Cond.methodLink RL 32 yX11_fates ∈ zTb := z_tb (z_t3 95 (by decide +kernel)) rfl
theorem lm_X11_93 : Cond.methodLink RX11 93 yX5_clearFates ∈ zTb := z_tb (z_t3 99 (by decide +kernel)) rfl
theorem lm_L_37 : Cond.methodLink RL 37 yX11_fate ∈ zTb := z_tb (z_t3 100 (by decide +kernel)) rfl
theorem lm_X11_97 : Cond.methodLink RX11 97 yX5_setFate ∈ zTb := z_tb (z_t3 104 (by decide +kernel)) rfl
theorem lm_L_42 : Cond.methodLink RL 42 yX11_task ∈ zTb := z_tb (z_t3 108 (by decide +kernel)) rfl
theorem lm_X11_101 : Cond.methodLink RX11 101 yX10_stationCell ∈ zTb := z_tb (z_t3 112 (by decide +kernel)) rfl
theorem lm_X11_105 : Cond.methodLink RX11 105 yX8_add ∈ zTb := z_tb (z_t3 116 (by decide +kernel)) rfl
theorem lm_L_47 : Cond.methodLink RL 47 yX11_run ∈ zTb := z_tb (z_t3 120 (by decide +kernel)) rfl
theorem lm_X11_115 : Cond.methodLink RX11 115 yX11_takeMessages ∈ zTb := z_tb (z_t3 124 (by decide +kernel)) rfl
theorem lm_X11_280 : Cond.methodLink RX11 280 yX5_comingAt ∈ zTb := z_tb (z_t3 128 (by decide +kernel)) rfl
theorem lm_X11_284 : Cond.methodLink RX11 284 yX11_deliver ∈ zTb := z_tb (z_t3 132 (by decide +kernel)) rfl
theorem lm_X11_154 : Cond.methodLink RX11 154 yX11_vehicleAt ∈ zTb := z_tb (z_t3 136 (by decide +kernel)) rfl
theorem lm_X11_158 : Cond.methodLink RX11 158 yX1_accountAt ∈ zTb := z_tb (z_t3 140 (by decide +kernel)) rfl
theorem lm_X11_299 : Cond.methodLink RX11 299 yX9_hear ∈ zTb := z_tb (z_t3 144 (by decide +kernel)) rfl
theorem lm_X11_302 : Cond.methodLink RX11 302 yX0_learn ∈ zTb := z_tb (z_t3 148 (by decide +kernel)) rfl
theorem lm_X11_288 : Cond.methodLink RX11 288 yX5_forgetCome ∈ zTb := z_tb (z_t3 152 (by decide +kernel)) rfl
theorem lm_X11_118 : Cond.methodLink RX11 118 yX11_driveVehicles ∈ zTb := z_tb (z_t3 156 (by decide +kernel)) rfl
theorem lm_X11_305 : Cond.methodLink RX11 305 yX9_obey ∈ zTb := z_tb (z_t3 160 (by decide +kernel)) rfl
theorem lm_X9_36 : Cond.methodLink RX9 36 yX9_halts ∈ zTb := z_tb (z_t3 164 (by decide +kernel)) rfl
theorem lm_X11_308 : Cond.methodLink RX11 308 yX5_send ∈ zTb := z_tb (z_t3 168 (by decide +kernel)) rfl
theorem lm_X5_43 : Cond.methodLink RX5 43 yX5_fateOfNext ∈ zTb := z_tb (z_t3 172 (by decide +kernel)) rfl
theorem lm_X11_121 : Cond.methodLink RX11 121 yX1_noteFinished ∈ zTb := z_tb (z_t3 176 (by decide +kernel)) rfl
theorem lm_X1_69 : Cond.methodLink RX1 69 yX0_isIdle ∈ zTb := z_tb (z_t3 180 (by decide +kernel)) rfl
theorem lm_X1_73 : Cond.methodLink RX1 73 yX0_isDoneWhole ∈ zTb := z_tb (z_t3 184 (by decide +kernel)) rfl
theorem lm_X0_47 : Cond.methodLink RX0 47 yX0_actsKnown ∈ zTb := z_tb (z_t3 188 (by decide +kernel)) rfl
theorem lm_X1_79 : Cond.methodLink RX1 79 yX8_finish ∈ zTb := z_tb (z_t3 192 (by decide +kernel)) rfl
theorem lm_X8_37 : Cond.methodLink RX8 37 yX8_has ∈ zTb := z_tb (z_t3 196 (by decide +kernel)) rfl
theorem lm_X11_125 : Cond.methodLink RX11 125 yX1_handOut ∈ zTb := z_tb (z_t3 200 (by decide +kernel)) rfl
theorem lm_X1_91 : Cond.methodLink RX1 91 yX1_leastIdle ∈ zTb := z_tb (z_t3 204 (by decide +kernel)) rfl
theorem lm_X1_95 : Cond.methodLink RX1 95 yX1_givePlan ∈ zTb := z_tb (z_t3 208 (by decide +kernel)) rfl
theorem lm_X1_99 : Cond.methodLink RX1 99 yX8_has ∈ zTb := z_tb (z_t3 212 (by decide +kernel)) rfl
theorem lm_X1_107 : Cond.methodLink RX1 107 yX10_stationCell ∈ zTb := z_tb (z_t3 213 (by decide +kernel)) rfl
theorem lm_X1_113 : Cond.methodLink RX1 113 yX4_findTrip ∈ zTb := z_tb (z_t3 214 (by decide +kernel)) rfl
theorem lm_X4_45 : Cond.methodLink RX4 45 yJ9_min_7cf53 ∈ zTb := z_tb (z_t3 218 (by decide +kernel)) rfl
theorem lm_X4_66 : Cond.methodLink RX4 66 yX10_parkingCell ∈ zTb := z_tb (z_t3 219 (by decide +kernel)) rfl
theorem lm_X4_73 : Cond.methodLink RX4 73 yX4_markGround ∈ zTb := z_tb (z_t3 220 (by decide +kernel)) rfl
theorem lm_X4_94 : Cond.methodLink RX4 94 yJ7_fill_53178 ∈ zTb := z_tb (z_t3 224 (by decide +kernel)) rfl
theorem lm_X4_100 : Cond.methodLink RX4 100 yX10_kindOf ∈ zTb := z_tb (z_t3 225 (by decide +kernel)) rfl
theorem lm_X4_103 : Cond.methodLink RX4 103 yX4_mark ∈ zTb := z_tb (z_t3 226 (by decide +kernel)) rfl
theorem lm_X4_107 : Cond.methodLink RX4 107 yX4_rowOf ∈ zTb := z_tb (z_t3 230 (by decide +kernel)) rfl
theorem lm_X4_76 : Cond.methodLink RX4 76 yX4_spread ∈ zTb := z_tb (z_t3 233 (by decide +kernel)) rfl
theorem lm_X4_110 : Cond.methodLink RX4 110 yX4_clearLayer ∈ zTb := z_tb (z_t3 237 (by decide +kernel)) rfl
theorem lm_X4_113 : Cond.methodLink RX4 113 yX4_markHeld ∈ zTb := z_tb (z_t4 1 (by decide +kernel)) rfl
theorem lm_X4_130 : Cond.methodLink RX4 130 yX6_cellAt ∈ zTb := z_tb (z_t4 5 (by decide +kernel)) rfl
theorem lm_X4_116 : Cond.methodLink RX4 116 yX4_dropEntered ∈ zTb := z_tb (z_t4 9 (by decide +kernel)) rfl
theorem lm_X4_119 : Cond.methodLink RX4 119 yX4_spreadStage ∈ zTb := z_tb (z_t4 13 (by decide +kernel)) rfl
theorem lm_X4_135 : Cond.methodLink RX4 135 yX4_beside ∈ zTb := z_tb (z_t4 17 (by decide +kernel)) rfl
theorem lm_X4_123 : Cond.methodLink RX4 123 yX4_isReached ∈ zTb := z_tb (z_t4 21 (by decide +kernel)) rfl
theorem lm_X4_80 : Cond.methodLink RX4 80 yX4_keepWhatLeadsHome ∈ zTb := z_tb (z_t4 25 (by decide +kernel)) rfl
theorem lm_X4_138 : Cond.methodLink RX4 138 yX4_keepStage ∈ zTb := z_tb (z_t4 29 (by decide +kernel)) rfl
theorem lm_X4_90 : Cond.methodLink RX4 90 yX4_followFirst ∈ zTb := z_tb (z_t4 33 (by decide +kernel)) rfl
theorem lm_X4_141 : Cond.methodLink RX4 141 yX6_begin ∈ zTb := z_tb (z_t4 37 (by decide +kernel)) rfl
theorem lm_X4_144 : Cond.methodLink RX4 144 yX4_firstWayOn ∈ zTb := z_tb (z_t4 38 (by decide +kernel)) rfl
theorem lm_X4_156 : Cond.methodLink RX4 156 yX10_neighbour ∈ zTb := z_tb (z_t4 42 (by decide +kernel)) rfl
theorem lm_X4_147 : Cond.methodLink RX4 147 yX6_addMove ∈ zTb := z_tb (z_t4 43 (by decide +kernel)) rfl
theorem lm_X6_40 : Cond.methodLink RX6 40 yX6_addStep ∈ zTb := z_tb (z_t4 47 (by decide +kernel)) rfl
theorem lm_X6_44 : Cond.methodLink RX6 44 yX6_addAct ∈ zTb := z_tb (z_t4 51 (by decide +kernel)) rfl
theorem lm_X4_150 : Cond.methodLink RX4 150 yX6_addTurn ∈ zTb := z_tb (z_t4 55 (by decide +kernel)) rfl
theorem lm_X4_153 : Cond.methodLink RX4 153 yX6_addWait ∈ zTb := z_tb (z_t4 59 (by decide +kernel)) rfl
theorem lm_X1_117 : Cond.methodLink RX1 117 yX1_noteHopeless ∈ zTb := z_tb (z_t4 63 (by decide +kernel)) rfl
theorem lm_X1_127 : Cond.methodLink RX1 127 yX6_lastMoment ∈ zTb := z_tb (z_t4 67 (by decide +kernel)) rfl
theorem lm_X1_121 : Cond.methodLink RX1 121 yX0_take ∈ zTb := z_tb (z_t4 71 (by decide +kernel)) rfl
theorem lm_X1_124 : Cond.methodLink RX1 124 yX8_give ∈ zTb := z_tb (z_t4 75 (by decide +kernel)) rfl
theorem lm_X11_129 : Cond.methodLink RX11 129 yX1_sendGrants ∈ zTb := z_tb (z_t4 79 (by decide +kernel)) rfl
theorem lm_X1_130 : Cond.methodLink RX1 130 yX0_actsKnown ∈ zTb := z_tb (z_t4 83 (by decide +kernel)) rfl
theorem lm_X1_133 : Cond.methodLink RX1 133 yX6_hasAct ∈ zTb := z_tb (z_t4 84 (by decide +kernel)) rfl
theorem lm_X1_136 : Cond.methodLink RX1 136 yX1_isGrantDue ∈ zTb := z_tb (z_t4 88 (by decide +kernel)) rfl
theorem lm_X1_158 : Cond.methodLink RX1 158 yX1_accountAt ∈ zTb := z_tb (z_t4 92 (by decide +kernel)) rfl
theorem lm_X1_64 : Cond.methodLink RX1 64 yX6_momentOfAct ∈ zTb := z_tb (z_t4 93 (by decide +kernel)) rfl
theorem lm_X6_48 : Cond.methodLink RX6 48 yX6_hasAct ∈ zTb := z_tb (z_t4 97 (by decide +kernel)) rfl
theorem lm_X1_149 : Cond.methodLink RX1 149 yX6_cellOfAct ∈ zTb := z_tb (z_t4 98 (by decide +kernel)) rfl
theorem lm_X1_162 : Cond.methodLink RX1 162 yX1_firstWaitingAt ∈ zTb := z_tb (z_t4 102 (by decide +kernel)) rfl
theorem lm_X1_57 : Cond.methodLink RX1 57 yX0_nextActTo ∈ zTb := z_tb (z_t4 106 (by decide +kernel)) rfl
theorem lm_X0_54 : Cond.methodLink RX0 54 yX0_firstActNotOver ∈ zTb := z_tb (z_t4 110 (by decide +kernel)) rfl
theorem lm_X0_61 : Cond.methodLink RX0 61 yX0_isDoneWhole ∈ zTb := z_tb (z_t4 114 (by decide +kernel)) rfl
theorem lm_X0_57 : Cond.methodLink RX0 57 yX6_cellOfAct ∈ zTb := z_tb (z_t4 115 (by decide +kernel)) rfl
theorem lm_X1_152 : Cond.methodLink RX1 152 yX5_send ∈ zTb := z_tb (z_t4 116 (by decide +kernel)) rfl
theorem lm_L_51 : Cond.methodLink RL 51 yX11_cell ∈ zTb := z_tb (z_t4 117 (by decide +kernel)) rfl
theorem lm_X11_133 : Cond.methodLink RX11 133 yX10_hasCell ∈ zTb := z_tb (z_t4 121 (by decide +kernel)) rfl
theorem lm_X11_136 : Cond.methodLink RX11 136 yX10_kindOf ∈ zTb := z_tb (z_t4 122 (by decide +kernel)) rfl
theorem lm_X11_139 : Cond.methodLink RX11 139 yX10_ordinalOf ∈ zTb := z_tb (z_t4 123 (by decide +kernel)) rfl
theorem lm_X11_142 : Cond.methodLink RX11 142 yX11_vehicleIn ∈ zTb := z_tb (z_t4 127 (by decide +kernel)) rfl
theorem lm_X11_145 : Cond.methodLink RX11 145 yX10_neighbour ∈ zTb := z_tb (z_t4 131 (by decide +kernel)) rfl
theorem lm_X11_148 : Cond.methodLink RX11 148 yX1_waitingAt ∈ zTb := z_tb (z_t4 132 (by decide +kernel)) rfl
theorem lm_X1_54 : Cond.methodLink RX1 54 yX0_openActsTo ∈ zTb := z_tb (z_t4 136 (by decide +kernel)) rfl
theorem lm_X11_151 : Cond.methodLink RX11 151 yX1_firstWaitingAt ∈ zTb := z_tb (z_t4 140 (by decide +kernel)) rfl
theorem lm_L_55 : Cond.methodLink RL 55 yX11_vehicle ∈ zTb := z_tb (z_t4 141 (by decide +kernel)) rfl
theorem lm_X11_162 : Cond.methodLink RX11 162 yX11_ofVehicle ∈ zTb := z_tb (z_t4 145 (by decide +kernel)) rfl
theorem lm_X11_246 : Cond.methodLink RX11 246 yX6_stageAfter ∈ zTb := z_tb (z_t4 148 (by decide +kernel)) rfl
theorem lm_X11_253 : Cond.methodLink RX11 253 yX9_halts ∈ zTb := z_tb (z_t4 152 (by decide +kernel)) rfl
theorem lm_X11_166 : Cond.methodLink RX11 166 yX11_ofAccount ∈ zTb := z_tb (z_t4 153 (by decide +kernel)) rfl
theorem lm_X11_259 : Cond.methodLink RX11 259 yX0_isIdle ∈ zTb := z_tb (z_t4 156 (by decide +kernel)) rfl
theorem lm_L_59 : Cond.methodLink RL 59 yX11_trip ∈ zTb := z_tb (z_t4 157 (by decide +kernel)) rfl
theorem lm_X11_176 : Cond.methodLink RX11 176 yX6_cellAt ∈ zTb := z_tb (z_t4 161 (by decide +kernel)) rfl
theorem lm_L_63 : Cond.methodLink RL 63 yX11_plan ∈ zTb := z_tb (z_t4 162 (by decide +kernel)) rfl
theorem lm_X11_187 : Cond.methodLink RX11 187 yX6_lastMoment ∈ zTb := z_tb (z_t4 166 (by decide +kernel)) rfl
theorem lm_X11_191 : Cond.methodLink RX11 191 yX6_cellOfAct ∈ zTb := z_tb (z_t4 167 (by decide +kernel)) rfl
theorem lm_X11_194 : Cond.methodLink RX11 194 yX6_momentOfAct ∈ zTb := z_tb (z_t4 168 (by decide +kernel)) rfl
theorem lm_L_68 : Cond.methodLink RL 68 yX11_told ∈ zTb := z_tb (z_t4 169 (by decide +kernel)) rfl
theorem lm_X11_197 : Cond.methodLink RX11 197 yX8_answer ∈ zTb := z_tb (z_t4 173 (by decide +kernel)) rfl
theorem lm_L_72 : Cond.methodLink RL 72 yX11_count ∈ zTb := z_tb (z_t4 177 (by decide +kernel)) rfl
theorem lm_X11_221 : Cond.methodLink RX11 221 yX5_comingsOnTheWay ∈ zTb := z_tb (z_t4 181 (by decide +kernel)) rfl
theorem lm_L_12 : Cond.methodLink RL 12 yX12_init ∈ zTb := z_tb (z_t4 187 (by decide +kernel)) rfl
theorem lm_X12_7 : Cond.methodLink RX12 7 objectInit ∈ zTb := z_tb (z_t4 190 (by decide +kernel)) rfl
theorem lm_X12_158 : Cond.methodLink RX12 158 yX12_begins ∈ zTb := z_tb (z_t4 192 (by decide +kernel)) rfl
theorem lm_L_17 : Cond.methodLink RL 17 yX12_feed ∈ zTb := z_tb (z_t5 152 (by decide +kernel)) rfl
theorem lm_X12_164 : Cond.methodLink RX12 164 yX12_put ∈ zTb := z_tb (z_t5 156 (by decide +kernel)) rfl
theorem lm_L_22 : Cond.methodLink RL 22 yX12_back ∈ zTb := z_tb (z_t5 160 (by decide +kernel)) rfl
theorem lm_L_27 : Cond.methodLink RL 27 yX12_read ∈ zTb := z_tb (z_t5 164 (by decide +kernel)) rfl
theorem lm_X12_181 : Cond.methodLink RX12 181 yX12_cuts ∈ zTb := z_tb (z_t5 168 (by decide +kernel)) rfl
theorem lm_X12_177 : Cond.methodLink RX12 177 yX12_sort ∈ zTb := z_tb (z_t5 172 (by decide +kernel)) rfl
theorem lm_X12_184 : Cond.methodLink RX12 184 yX12_apart ∈ zTb := z_tb (z_t5 175 (by decide +kernel)) rfl
theorem lm_X12_188 : Cond.methodLink RX12 188 yX12_readAt ∈ zTb := z_tb (z_t5 179 (by decide +kernel)) rfl
theorem lm_L_31 : Cond.methodLink RL 31 yX12_place ∈ zTb := z_tb (z_t5 183 (by decide +kernel)) rfl
theorem lm_L_36 : Cond.methodLink RL 36 yX12_fates ∈ zTb := z_tb (z_t5 187 (by decide +kernel)) rfl
theorem lm_L_41 : Cond.methodLink RL 41 yX12_fate ∈ zTb := z_tb (z_t5 191 (by decide +kernel)) rfl
theorem lm_L_46 : Cond.methodLink RL 46 yX12_task ∈ zTb := z_tb (z_t5 195 (by decide +kernel)) rfl
theorem lm_L_50 : Cond.methodLink RL 50 yX12_run ∈ zTb := z_tb (z_t5 199 (by decide +kernel)) rfl
theorem lm_X12_276 : Cond.methodLink RX12 276 yX12_messagesCome ∈ zTb := z_tb (z_t5 203 (by decide +kernel)) rfl
theorem lm_X12_236 : Cond.methodLink RX12 236 yX12_nextComing ∈ zTb := z_tb (z_t5 207 (by decide +kernel)) rfl
theorem lm_X12_239 : Cond.methodLink RX12 239 yX12_granting ∈ zTb := z_tb (z_t5 211 (by decide +kernel)) rfl
theorem lm_X12_243 : Cond.methodLink RX12 243 yX12_reporting ∈ zTb := z_tb (z_t5 215 (by decide +kernel)) rfl
theorem lm_X12_279 : Cond.methodLink RX12 279 yX12_vehicleActs ∈ zTb := z_tb (z_t5 219 (by decide +kernel)) rfl
theorem lm_X12_247 : Cond.methodLink RX12 247 yX12_sends ∈ zTb := z_tb (z_t5 223 (by decide +kernel)) rfl
theorem lm_X12_282 : Cond.methodLink RX12 282 yX12_baseActs ∈ zTb := z_tb (z_t5 227 (by decide +kernel)) rfl
theorem lm_X12_251 : Cond.methodLink RX12 251 yX12_known ∈ zTb := z_tb (z_t5 231 (by decide +kernel)) rfl
theorem lm_X12_267 : Cond.methodLink RX12 267 yX12_finds ∈ zTb := z_tb (z_t5 235 (by decide +kernel)) rfl
theorem lm_X12_228 : Cond.methodLink RX12 228 yX12_leadsTo ∈ zTb := z_tb (z_t5 239 (by decide +kernel)) rfl
theorem lm_X12_225 : Cond.methodLink RX12 225 yX12_neighbour ∈ zTb := z_tb (z_t6 3 (by decide +kernel)) rfl
theorem lm_X12_232 : Cond.methodLink RX12 232 yX12_isClear ∈ zTb := z_tb (z_t6 7 (by decide +kernel)) rfl
theorem lm_X12_222 : Cond.methodLink RX12 222 yX12_tripAt ∈ zTb := z_tb (z_t6 11 (by decide +kernel)) rfl
theorem lm_X12_270 : Cond.methodLink RX12 270 yX12_grants ∈ zTb := z_tb (z_t6 15 (by decide +kernel)) rfl
theorem lm_X12_273 : Cond.methodLink RX12 273 yX12_waitFor ∈ zTb := z_tb (z_t6 19 (by decide +kernel)) rfl
theorem lm_X12_263 : Cond.methodLink RX12 263 yX12_isOver ∈ zTb := z_tb (z_t6 23 (by decide +kernel)) rfl
theorem lm_L_54 : Cond.methodLink RL 54 yX12_cell ∈ zTb := z_tb (z_t6 27 (by decide +kernel)) rfl
theorem lm_L_58 : Cond.methodLink RL 58 yX12_vehicle ∈ zTb := z_tb (z_t6 31 (by decide +kernel)) rfl
theorem lm_L_62 : Cond.methodLink RL 62 yX12_trip ∈ zTb := z_tb (z_t6 35 (by decide +kernel)) rfl
theorem lm_L_67 : Cond.methodLink RL 67 yX12_plan ∈ zTb := z_tb (z_t6 39 (by decide +kernel)) rfl
theorem lm_L_71 : Cond.methodLink RL 71 yX12_told ∈ zTb := z_tb (z_t6 43 (by decide +kernel)) rfl
theorem lm_L_75 : Cond.methodLink RL 75 yX12_count ∈ zTb := z_tb (z_t6 47 (by decide +kernel)) rfl
theorem lc_L_7 : Cond.classLink RL 7 RX11 ∈ zTb := z_tb (z_t1 16 (by decide +kernel)) rfl
theorem lc_X11_9 : Cond.classLink RX11 9 RX7 ∈ zTb := z_tb (z_t1 24 (by decide +kernel)) rfl
theorem lc_X11_16 : Cond.classLink RX11 16 RX2 ∈ zTb := z_tb (z_t1 41 (by decide +kernel)) rfl
theorem lc_X11_23 : Cond.classLink RX11 23 RX5 ∈ zTb := z_tb (z_t1 65 (by decide +kernel)) rfl
theorem lc_X5_13 : Cond.classLink RX5 13 RX3 ∈ zTb := z_tb (z_t1 71 (by decide +kernel)) rfl
theorem lc_X11_30 : Cond.classLink RX11 30 RX8 ∈ zTb := z_tb (z_t1 129 (by decide +kernel)) rfl
theorem lc_X11_37 : Cond.classLink RX11 37 RX1 ∈ zTb := z_tb (z_t1 167 (by decide +kernel)) rfl
theorem lc_X1_9 : Cond.classLink RX1 9 RX0 ∈ zTb := z_tb (z_t1 173 (by decide +kernel)) rfl
theorem lc_X1_17 : Cond.classLink RX1 17 RX4 ∈ zTb := z_tb (z_t1 175 (by decide +kernel)) rfl
theorem lc_X0_9 : Cond.classLink RX0 9 RX6 ∈ zTb := z_tb (z_t1 229 (by decide +kernel)) rfl
theorem lc_X11_44 : Cond.classLink RX11 44 RX9 ∈ zTb := z_tb (z_t2 76 (by decide +kernel)) rfl
theorem lc_X11_50 : Cond.classLink RX11 50 RX10 ∈ zTb := z_tb (z_t2 78 (by decide +kernel)) rfl
theorem lc_L_10 : Cond.classLink RL 10 RX12 ∈ zTb := z_tb (z_t4 185 (by decide +kernel)) rfl
theorem lq_X12_76 : Cond.constant RX12 76 (Int32.ofInt 231168) ∈ zTb := z_tb (z_t4 191 (by decide +kernel)) rfl
theorem l_oi : Cond.instanceMethod objectInit ∈ zTb := z_tb (z_t1 22 (by decide +kernel)) rfl
theorem l_oc : Cond.code objectInit ⟨#[0xb1]⟩ 1 none ∈ zTb := z_tb (z_t1 23 (by decide +kernel)) rfl
theorem l_acI : Cond.arrayClass .int ∈ zTb := z_tb (z_t1 64 (by decide +kernel)) rfl
theorem l_acB : Cond.arrayClass .byte ∈ zTb := z_tb (z_t1 40 (by decide +kernel)) rfl
theorem l_acZ : Cond.arrayClass .boolean ∈ zTb := z_tb (z_t5 151 (by decide +kernel)) rfl
end
section
def mX11_init : zM := (yX11_init, cX11_init, 2, none, 4, 86, 135, 25056)
theorem okX11_init : zOK mX11_init 0 1 := ⟨by decide +kernel, by decide +kernel, by decide +kernel, by decide +kernel, by decide +kernel, z_gd (z_t1 20 (by rfl)) rfl, z_tb (z_t1 1 (by decide +kernel)) rfl⟩
theorem ivX11_init : Cond.instanceMethod (zNm mX11_init) ∈ zTb := z_tb (z_t1 19 (by decide +kernel)) rfl
def mX11_feed : zM := (yX11_feed, cX11_feed, 6, (some .int), 1, 22, 0, 0)
theorem okX11_feed : zOK mX11_feed 5 6 := ⟨by decide +kernel, by decide +kernel, by decide +kernel, by decide +kernel, by decide +kernel, z_gd (z_t3 21 (by rfl)) rfl, z_tb (z_t1 1 (by decide +kernel)) rfl⟩
theorem ivX11_feed : Cond.instanceMethod (zNm mX11_feed) ∈ zTb ∧ Cond.selects (zNm mX11_feed).cls (zNm mX11_feed) (zNm mX11_feed) ∈ zTb := ⟨z_tb (z_t3 19 (by decide +kernel)) rfl, z_tb (z_t3 20 (by decide +kernel)) rfl⟩
def mX11_back : zM := (yX11_back, cX11_back, 2, (some .int), 0, 0, 0, 0)
theorem okX11_back : zOK mX11_back 1 2 := ⟨by decide +kernel, by decide +kernel, by decide +kernel, by decide +kernel, by decide +kernel, z_gd (z_t3 33 (by rfl)) rfl, z_tb (z_t1 1 (by decide +kernel)) rfl⟩
theorem ivX11_back : Cond.instanceMethod (zNm mX11_back) ∈ zTb ∧ Cond.selects (zNm mX11_back).cls (zNm mX11_back) (zNm mX11_back) ∈ zTb := ⟨z_tb (z_t3 31 (by decide +kernel)) rfl, z_tb (z_t3 32 (by decide +kernel)) rfl⟩
def mX11_read : zM := (yX11_read, cX11_read, 3, (some .int), 7, 158, 0, 0)
theorem okX11_read : zOK mX11_read 0 1 := ⟨by decide +kernel, by decide +kernel, by decide +kernel, by decide +kernel, by decide +kernel, z_gd (z_t3 37 (by rfl)) rfl, z_tb (z_t1 1 (by decide +kernel)) rfl⟩
theorem ivX11_read : Cond.instanceMethod (zNm mX11_read) ∈ zTb ∧ Cond.selects (zNm mX11_read).cls (zNm mX11_read) (zNm mX11_read) ∈ zTb := ⟨z_tb (z_t3 35 (by decide +kernel)) rfl, z_tb (z_t3 36 (by decide +kernel)) rfl⟩
def mX11_place : zM := (yX11_place, cX11_place, 1, (some .int), 0, 0, 0, 0)
theorem okX11_place : zOK mX11_place 0 1 := ⟨by decide +kernel, by decide +kernel, by decide +kernel, by decide +kernel, by decide +kernel, z_gd (z_t3 94 (by rfl)) rfl, z_tb (z_t1 1 (by decide +kernel)) rfl⟩
theorem ivX11_place : Cond.instanceMethod (zNm mX11_place) ∈ zTb ∧ Cond.selects (zNm mX11_place).cls (zNm mX11_place) (zNm mX11_place) ∈ zTb := ⟨z_tb (z_t3 92 (by decide +kernel)) rfl, z_tb (z_t3 93 (by decide +kernel)) rfl⟩
def mX11_fates : zM := (yX11_fates, cX11_fates, 2, (some .boolean), 2, 44, 0, 0)
theorem okX11_fates : zOK mX11_fates 1 2 := ⟨by decide +kernel, by decide +kernel, by decide +kernel, by decide +kernel, by decide +kernel, z_gd (z_t3 98 (by rfl)) rfl, z_tb (z_t1 1 (by decide +kernel)) rfl⟩
theorem ivX11_fates : Cond.instanceMethod (zNm mX11_fates) ∈ zTb ∧ Cond.selects (zNm mX11_fates).cls (zNm mX11_fates) (zNm mX11_fates) ∈ zTb := ⟨z_tb (z_t3 96 (by decide +kernel)) rfl, z_tb (z_t3 97 (by decide +kernel)) rfl⟩
def mX11_fate : zM := (yX11_fate, cX11_fate, 3, (some .boolean), 1, 22, 0, 0)
theorem okX11_fate : zOK mX11_fate 2 3 := ⟨by decide +kernel, by decide +kernel, by decide +kernel, by decide +kernel, by decide +kernel, z_gd (z_t3 103 (by rfl)) rfl, z_tb (z_t1 1 (by decide +kernel)) rfl⟩
theorem ivX11_fate : Cond.instanceMethod (zNm mX11_fate) ∈ zTb ∧ Cond.selects (zNm mX11_fate).cls (zNm mX11_fate) (zNm mX11_fate) ∈ zTb := ⟨z_tb (z_t3 101 (by decide +kernel)) rfl, z_tb (z_t3 102 (by decide +kernel)) rfl⟩
def mX11_task : zM := (yX11_task, cX11_task, 3, (some .int), 1, 22, 0, 0)
theorem okX11_task : zOK mX11_task 2 3 := ⟨by decide +kernel, by decide +kernel, by decide +kernel, by decide +kernel, by decide +kernel, z_gd (z_t3 111 (by rfl)) rfl, z_tb (z_t1 1 (by decide +kernel)) rfl⟩
theorem ivX11_task : Cond.instanceMethod (zNm mX11_task) ∈ zTb ∧ Cond.selects (zNm mX11_task).cls (zNm mX11_task) (zNm mX11_task) ∈ zTb := ⟨z_tb (z_t3 109 (by decide +kernel)) rfl, z_tb (z_t3 110 (by decide +kernel)) rfl⟩
def mX11_run : zM := (yX11_run, cX11_run, 4, (some .int), 7, 174, 0, 0)
theorem okX11_run : zOK mX11_run 1 2 := ⟨by decide +kernel, by decide +kernel, by decide +kernel, by decide +kernel, by decide +kernel, z_gd (z_t3 123 (by rfl)) rfl, z_tb (z_t1 1 (by decide +kernel)) rfl⟩
theorem ivX11_run : Cond.instanceMethod (zNm mX11_run) ∈ zTb ∧ Cond.selects (zNm mX11_run).cls (zNm mX11_run) (zNm mX11_run) ∈ zTb := ⟨z_tb (z_t3 121 (by decide +kernel)) rfl, z_tb (z_t3 122 (by decide +kernel)) rfl⟩
def mX11_cell : zM := (yX11_cell, cX11_cell, 3, (some .int), 5, 111, 0, 0)
theorem okX11_cell : zOK mX11_cell 2 3 := ⟨by decide +kernel, by decide +kernel, by decide +kernel, by decide +kernel, by decide +kernel, z_gd (z_t4 120 (by rfl)) rfl, z_tb (z_t1 1 (by decide +kernel)) rfl⟩
theorem ivX11_cell : Cond.instanceMethod (zNm mX11_cell) ∈ zTb ∧ Cond.selects (zNm mX11_cell).cls (zNm mX11_cell) (zNm mX11_cell) ∈ zTb := ⟨z_tb (z_t4 118 (by decide +kernel)) rfl, z_tb (z_t4 119 (by decide +kernel)) rfl⟩
def mX11_vehicle : zM := (yX11_vehicle, cX11_vehicle, 5, (some .int), 2, 43, 0, 0)
theorem okX11_vehicle : zOK mX11_vehicle 2 3 := ⟨by decide +kernel, by decide +kernel, by decide +kernel, by decide +kernel, by decide +kernel, z_gd (z_t4 144 (by rfl)) rfl, z_tb (z_t1 1 (by decide +kernel)) rfl⟩
theorem ivX11_vehicle : Cond.instanceMethod (zNm mX11_vehicle) ∈ zTb ∧ Cond.selects (zNm mX11_vehicle).cls (zNm mX11_vehicle) (zNm mX11_vehicle) ∈ zTb := ⟨z_tb (z_t4 142 (by decide +kernel)) rfl, z_tb (z_t4 143 (by decide +kernel)) rfl⟩
def mX11_trip : zM := (yX11_trip, cX11_trip, 4, (some .int), 1, 22, 0, 0)
theorem okX11_trip : zOK mX11_trip 2 3 := ⟨by decide +kernel, by decide +kernel, by decide +kernel, by decide +kernel, by decide +kernel, z_gd (z_t4 160 (by rfl)) rfl, z_tb (z_t1 1 (by decide +kernel)) rfl⟩
theorem ivX11_trip : Cond.instanceMethod (zNm mX11_trip) ∈ zTb ∧ Cond.selects (zNm mX11_trip).cls (zNm mX11_trip) (zNm mX11_trip) ∈ zTb := ⟨z_tb (z_t4 158 (by decide +kernel)) rfl, z_tb (z_t4 159 (by decide +kernel)) rfl⟩
def mX11_plan : zM := (yX11_plan, cX11_plan, 5, (some .int), 2, 42, 0, 0)
theorem okX11_plan : zOK mX11_plan 3 4 := ⟨by decide +kernel, by decide +kernel, by decide +kernel, by decide +kernel, by decide +kernel, z_gd (z_t4 165 (by rfl)) rfl, z_tb (z_t1 1 (by decide +kernel)) rfl⟩
theorem ivX11_plan : Cond.instanceMethod (zNm mX11_plan) ∈ zTb ∧ Cond.selects (zNm mX11_plan).cls (zNm mX11_plan) (zNm mX11_plan) ∈ zTb := ⟨z_tb (z_t4 163 (by decide +kernel)) rfl, z_tb (z_t4 164 (by decide +kernel)) rfl⟩
def mX11_told : zM := (yX11_told, cX11_told, 3, (some .int), 2, 43, 0, 0)
theorem okX11_told : zOK mX11_told 2 3 := ⟨by decide +kernel, by decide +kernel, by decide +kernel, by decide +kernel, by decide +kernel, z_gd (z_t4 172 (by rfl)) rfl, z_tb (z_t1 1 (by decide +kernel)) rfl⟩
theorem ivX11_told : Cond.instanceMethod (zNm mX11_told) ∈ zTb ∧ Cond.selects (zNm mX11_told).cls (zNm mX11_told) (zNm mX11_told) ∈ zTb := ⟨z_tb (z_t4 170 (by decide +kernel)) rfl, z_tb (z_t4 171 (by decide +kernel)) rfl⟩
def mX11_count : zM := (yX11_count, cX11_count, 2, (some .int), 1, 22, 0, 0)
theorem okX11_count : zOK mX11_count 1 2 := ⟨by decide +kernel, by decide +kernel, by decide +kernel, by decide +kernel, by decide +kernel, z_gd (z_t4 180 (by rfl)) rfl, z_tb (z_t1 1 (by decide +kernel)) rfl⟩
theorem ivX11_count : Cond.instanceMethod (zNm mX11_count) ∈ zTb ∧ Cond.selects (zNm mX11_count).cls (zNm mX11_count) (zNm mX11_count) ∈ zTb := ⟨z_tb (z_t4 178 (by decide +kernel)) rfl, z_tb (z_t4 179 (by decide +kernel)) rfl⟩
def mX11_beginAnew : zM := (yX11_beginAnew, cX11_beginAnew, 2, none, 3, 65, 0, 0)
theorem okX11_beginAnew : zOK mX11_beginAnew 0 1 := ⟨by decide +kernel, by decide +kernel, by decide +kernel, by decide +kernel, by decide +kernel, z_gd (z_t2 184 (by rfl)) rfl, z_tb (z_t1 1 (by decide +kernel)) rfl⟩
theorem ivX11_beginAnew : Cond.instanceMethod (zNm mX11_beginAnew) ∈ zTb ∧ Cond.selects (zNm mX11_beginAnew).cls (zNm mX11_beginAnew) (zNm mX11_beginAnew) ∈ zTb := ⟨z_tb (z_t2 183 (by decide +kernel)) rfl, z_tb (z_s 3 (by decide +kernel)) rfl⟩
def mX11_vehicleAt : zM := (yX11_vehicleAt, cX11_vehicleAt, 2, (some (.object "FleetYard$Vehicle")), 0, 0, 0, 0)
theorem okX11_vehicleAt : zOK mX11_vehicleAt 1 2 := ⟨by decide +kernel, by decide +kernel, by decide +kernel, by decide +kernel, by decide +kernel, z_gd (z_t3 139 (by rfl)) rfl, z_tb (z_t1 1 (by decide +kernel)) rfl⟩
theorem ivX11_vehicleAt : Cond.instanceMethod (zNm mX11_vehicleAt) ∈ zTb ∧ Cond.selects (zNm mX11_vehicleAt).cls (zNm mX11_vehicleAt) (zNm mX11_vehicleAt) ∈ zTb := ⟨z_tb (z_t3 138 (by decide +kernel)) rfl, z_tb (z_s 13 (by decide +kernel)) rfl⟩
def mX11_vehicleIn : zM := (yX11_vehicleIn, cX11_vehicleIn, 4, (some .int), 1, 21, 0, 0)
theorem okX11_vehicleIn : zOK mX11_vehicleIn 1 2 := ⟨by decide +kernel, by decide +kernel, by decide +kernel, by decide +kernel, by decide +kernel, z_gd (z_t4 130 (by rfl)) rfl, z_tb (z_t1 1 (by decide +kernel)) rfl⟩
theorem ivX11_vehicleIn : Cond.instanceMethod (zNm mX11_vehicleIn) ∈ zTb ∧ Cond.selects (zNm mX11_vehicleIn).cls (zNm mX11_vehicleIn) (zNm mX11_vehicleIn) ∈ zTb := ⟨z_tb (z_t4 129 (by decide +kernel)) rfl, z_tb (z_s 36 (by decide +kernel)) rfl⟩
def mX11_ofVehicle : zM := (yX11_ofVehicle, cX11_ofVehicle, 3, (some .int), 1, 21, 0, 0)
theorem okX11_ofVehicle : zOK mX11_ofVehicle 3 3 := ⟨by decide +kernel, by decide +kernel, by decide +kernel, by decide +kernel, by decide +kernel, z_gd (z_t4 147 (by rfl)) rfl, z_tb (z_t1 1 (by decide +kernel)) rfl⟩
theorem ivX11_ofVehicle : Cond.static (zNm mX11_ofVehicle) ∈ zTb := z_tb (z_t4 146 (by decide +kernel)) rfl
def mX11_ofAccount : zM := (yX11_ofAccount, cX11_ofAccount, 2, (some .int), 1, 20, 0, 0)
theorem okX11_ofAccount : zOK mX11_ofAccount 2 2 := ⟨by decide +kernel, by decide +kernel, by decide +kernel, by decide +kernel, by decide +kernel, z_gd (z_t4 155 (by rfl)) rfl, z_tb (z_t1 1 (by decide +kernel)) rfl⟩
theorem ivX11_ofAccount : Cond.static (zNm mX11_ofAccount) ∈ zTb := z_tb (z_t4 154 (by decide +kernel)) rfl
def mX11_takeMessages : zM := (yX11_takeMessages, cX11_takeMessages, 3, none, 2, 46, 0, 0)
theorem okX11_takeMessages : zOK mX11_takeMessages 0 1 := ⟨by decide +kernel, by decide +kernel, by decide +kernel, by decide +kernel, by decide +kernel, z_gd (z_t3 127 (by rfl)) rfl, z_tb (z_t1 1 (by decide +kernel)) rfl⟩
theorem ivX11_takeMessages : Cond.instanceMethod (zNm mX11_takeMessages) ∈ zTb ∧ Cond.selects (zNm mX11_takeMessages).cls (zNm mX11_takeMessages) (zNm mX11_takeMessages) ∈ zTb := ⟨z_tb (z_t3 126 (by decide +kernel)) rfl, z_tb (z_s 11 (by decide +kernel)) rfl⟩
def mX11_deliver : zM := (yX11_deliver, cX11_deliver, 4, none, 1, 23, 0, 0)
theorem okX11_deliver : zOK mX11_deliver 1 2 := ⟨by decide +kernel, by decide +kernel, by decide +kernel, by decide +kernel, by decide +kernel, z_gd (z_t3 135 (by rfl)) rfl, z_tb (z_t1 1 (by decide +kernel)) rfl⟩
theorem ivX11_deliver : Cond.instanceMethod (zNm mX11_deliver) ∈ zTb ∧ Cond.selects (zNm mX11_deliver).cls (zNm mX11_deliver) (zNm mX11_deliver) ∈ zTb := ⟨z_tb (z_t3 134 (by decide +kernel)) rfl, z_tb (z_s 12 (by decide +kernel)) rfl⟩
def mX11_driveVehicles : zM := (yX11_driveVehicles, cX11_driveVehicles, 4, none, 2, 49, 0, 0)
theorem okX11_driveVehicles : zOK mX11_driveVehicles 0 1 := ⟨by decide +kernel, by decide +kernel, by decide +kernel, by decide +kernel, by decide +kernel, z_gd (z_t3 159 (by rfl)) rfl, z_tb (z_t1 1 (by decide +kernel)) rfl⟩
theorem ivX11_driveVehicles : Cond.instanceMethod (zNm mX11_driveVehicles) ∈ zTb ∧ Cond.selects (zNm mX11_driveVehicles).cls (zNm mX11_driveVehicles) (zNm mX11_driveVehicles) ∈ zTb := ⟨z_tb (z_t3 158 (by decide +kernel)) rfl, z_tb (z_s 14 (by decide +kernel)) rfl⟩
def mX12_init : zM := (yX12_init, cX12_init, 1, none, 1, 21, 43, 473218)
theorem okX12_init : zOK mX12_init 0 1 := ⟨by decide +kernel, by decide +kernel, by decide +kernel, by decide +kernel, by decide +kernel, z_gd (z_t4 189 (by rfl)) rfl, z_tb (z_t1 15 (by decide +kernel)) rfl⟩
theorem ivX12_init : Cond.instanceMethod (zNm mX12_init) ∈ zTb := z_tb (z_t4 188 (by decide +kernel)) rfl
def mX12_feed : zM := (yX12_feed, cX12_feed, 6, (some .int), 1, 22, 0, 0)
theorem okX12_feed : zOK mX12_feed 5 6 := ⟨by decide +kernel, by decide +kernel, by decide +kernel, by decide +kernel, by decide +kernel, z_gd (z_t5 155 (by rfl)) rfl, z_tb (z_t1 15 (by decide +kernel)) rfl⟩
theorem ivX12_feed : Cond.instanceMethod (zNm mX12_feed) ∈ zTb ∧ Cond.selects (zNm mX12_feed).cls (zNm mX12_feed) (zNm mX12_feed) ∈ zTb := ⟨z_tb (z_t5 153 (by decide +kernel)) rfl, z_tb (z_t5 154 (by decide +kernel)) rfl⟩
def mX12_put : zM := (yX12_put, cX12_put, 3, none, 0, 0, 0, 0)
theorem okX12_put : zOK mX12_put 1 2 := ⟨by decide +kernel, by decide +kernel, by decide +kernel, by decide +kernel, by decide +kernel, z_gd (z_t5 159 (by rfl)) rfl, z_tb (z_t1 15 (by decide +kernel)) rfl⟩
theorem ivX12_put : Cond.instanceMethod (zNm mX12_put) ∈ zTb ∧ Cond.selects (zNm mX12_put).cls (zNm mX12_put) (zNm mX12_put) ∈ zTb := ⟨z_tb (z_t5 158 (by decide +kernel)) rfl, z_tb (z_s 38 (by decide +kernel)) rfl⟩
def mX12_back : zM := (yX12_back, cX12_back, 2, (some .int), 0, 0, 0, 0)
theorem okX12_back : zOK mX12_back 1 2 := ⟨by decide +kernel, by decide +kernel, by decide +kernel, by decide +kernel, by decide +kernel, z_gd (z_t5 163 (by rfl)) rfl, z_tb (z_t1 15 (by decide +kernel)) rfl⟩
theorem ivX12_back : Cond.instanceMethod (zNm mX12_back) ∈ zTb ∧ Cond.selects (zNm mX12_back).cls (zNm mX12_back) (zNm mX12_back) ∈ zTb := ⟨z_tb (z_t5 161 (by decide +kernel)) rfl, z_tb (z_t5 162 (by decide +kernel)) rfl⟩
def mX12_sort : zM := (yX12_sort, cX12_sort, 1, (some .int), 0, 0, 0, 0)
theorem okX12_sort : zOK mX12_sort 1 1 := ⟨by decide +kernel, by decide +kernel, by decide +kernel, by decide +kernel, by decide +kernel, z_gd (z_t5 174 (by rfl)) rfl, z_tb (z_t1 15 (by decide +kernel)) rfl⟩
theorem ivX12_sort : Cond.static (zNm mX12_sort) ∈ zTb := z_tb (z_t5 173 (by decide +kernel)) rfl
def mX12_cuts : zM := (yX12_cuts, cX12_cuts, 7, none, 1, 20, 0, 0)
theorem okX12_cuts : zOK mX12_cuts 1 2 := ⟨by decide +kernel, by decide +kernel, by decide +kernel, by decide +kernel, by decide +kernel, z_gd (z_t5 171 (by rfl)) rfl, z_tb (z_t1 15 (by decide +kernel)) rfl⟩
theorem ivX12_cuts : Cond.instanceMethod (zNm mX12_cuts) ∈ zTb ∧ Cond.selects (zNm mX12_cuts).cls (zNm mX12_cuts) (zNm mX12_cuts) ∈ zTb := ⟨z_tb (z_t5 170 (by decide +kernel)) rfl, z_tb (z_s 39 (by decide +kernel)) rfl⟩
def mX12_read : zM := (yX12_read, cX12_read, 7, (some .int), 2, 51, 0, 0)
theorem okX12_read : zOK mX12_read 0 1 := ⟨by decide +kernel, by decide +kernel, by decide +kernel, by decide +kernel, by decide +kernel, z_gd (z_t5 167 (by rfl)) rfl, z_tb (z_t1 15 (by decide +kernel)) rfl⟩
theorem ivX12_read : Cond.instanceMethod (zNm mX12_read) ∈ zTb ∧ Cond.selects (zNm mX12_read).cls (zNm mX12_read) (zNm mX12_read) ∈ zTb := ⟨z_tb (z_t5 165 (by decide +kernel)) rfl, z_tb (z_t5 166 (by decide +kernel)) rfl⟩
def mX12_place : zM := (yX12_place, cX12_place, 1, (some .int), 0, 0, 0, 0)
theorem okX12_place : zOK mX12_place 0 1 := ⟨by decide +kernel, by decide +kernel, by decide +kernel, by decide +kernel, by decide +kernel, z_gd (z_t5 186 (by rfl)) rfl, z_tb (z_t1 15 (by decide +kernel)) rfl⟩
theorem ivX12_place : Cond.instanceMethod (zNm mX12_place) ∈ zTb ∧ Cond.selects (zNm mX12_place).cls (zNm mX12_place) (zNm mX12_place) ∈ zTb := ⟨z_tb (z_t5 184 (by decide +kernel)) rfl, z_tb (z_t5 185 (by decide +kernel)) rfl⟩
def mX12_readAt : zM := (yX12_readAt, cX12_readAt, 3, (some .int), 0, 0, 0, 0)
theorem okX12_readAt : zOK mX12_readAt 2 3 := ⟨by decide +kernel, by decide +kernel, by decide +kernel, by decide +kernel, by decide +kernel, z_gd (z_t5 182 (by rfl)) rfl, z_tb (z_t1 15 (by decide +kernel)) rfl⟩
theorem ivX12_readAt : Cond.instanceMethod (zNm mX12_readAt) ∈ zTb ∧ Cond.selects (zNm mX12_readAt).cls (zNm mX12_readAt) (zNm mX12_readAt) ∈ zTb := ⟨z_tb (z_t5 181 (by decide +kernel)) rfl, z_tb (z_s 41 (by decide +kernel)) rfl⟩
def mX12_apart : zM := (yX12_apart, cX12_apart, 10, (some .int), 1, 22, 0, 0)
theorem okX12_apart : zOK mX12_apart 0 1 := ⟨by decide +kernel, by decide +kernel, by decide +kernel, by decide +kernel, by decide +kernel, z_gd (z_t5 178 (by rfl)) rfl, z_tb (z_t1 15 (by decide +kernel)) rfl⟩
theorem ivX12_apart : Cond.instanceMethod (zNm mX12_apart) ∈ zTb ∧ Cond.selects (zNm mX12_apart).cls (zNm mX12_apart) (zNm mX12_apart) ∈ zTb := ⟨z_tb (z_t5 177 (by decide +kernel)) rfl, z_tb (z_s 40 (by decide +kernel)) rfl⟩
def mX12_neighbour : zM := (yX12_neighbour, cX12_neighbour, 5, (some .int), 0, 0, 0, 0)
theorem okX12_neighbour : zOK mX12_neighbour 2 3 := ⟨by decide +kernel, by decide +kernel, by decide +kernel, by decide +kernel, by decide +kernel, z_gd (z_t6 6 (by rfl)) rfl, z_tb (z_t1 15 (by decide +kernel)) rfl⟩
theorem ivX12_neighbour : Cond.instanceMethod (zNm mX12_neighbour) ∈ zTb ∧ Cond.selects (zNm mX12_neighbour).cls (zNm mX12_neighbour) (zNm mX12_neighbour) ∈ zTb := ⟨z_tb (z_t6 5 (by decide +kernel)) rfl, z_tb (z_s 52 (by decide +kernel)) rfl⟩
def mX12_begins : zM := (yX12_begins, cX12_begins, 2, none, 0, 0, 0, 0)
theorem okX12_begins : zOK mX12_begins 0 1 := ⟨by decide +kernel, by decide +kernel, by decide +kernel, by decide +kernel, by decide +kernel, z_gd (z_t4 195 (by rfl)) rfl, z_tb (z_t1 15 (by decide +kernel)) rfl⟩
theorem ivX12_begins : Cond.instanceMethod (zNm mX12_begins) ∈ zTb ∧ Cond.selects (zNm mX12_begins).cls (zNm mX12_begins) (zNm mX12_begins) ∈ zTb := ⟨z_tb (z_t4 194 (by decide +kernel)) rfl, z_tb (z_s 37 (by decide +kernel)) rfl⟩
def mX12_fates : zM := (yX12_fates, cX12_fates, 3, (some .boolean), 0, 0, 0, 0)
theorem okX12_fates : zOK mX12_fates 1 2 := ⟨by decide +kernel, by decide +kernel, by decide +kernel, by decide +kernel, by decide +kernel, z_gd (z_t5 190 (by rfl)) rfl, z_tb (z_t1 15 (by decide +kernel)) rfl⟩
theorem ivX12_fates : Cond.instanceMethod (zNm mX12_fates) ∈ zTb ∧ Cond.selects (zNm mX12_fates).cls (zNm mX12_fates) (zNm mX12_fates) ∈ zTb := ⟨z_tb (z_t5 188 (by decide +kernel)) rfl, z_tb (z_t5 189 (by decide +kernel)) rfl⟩
def mX12_fate : zM := (yX12_fate, cX12_fate, 3, (some .boolean), 0, 0, 0, 0)
theorem okX12_fate : zOK mX12_fate 2 3 := ⟨by decide +kernel, by decide +kernel, by decide +kernel, by decide +kernel, by decide +kernel, z_gd (z_t5 194 (by rfl)) rfl, z_tb (z_t1 15 (by decide +kernel)) rfl⟩
theorem ivX12_fate : Cond.instanceMethod (zNm mX12_fate) ∈ zTb ∧ Cond.selects (zNm mX12_fate).cls (zNm mX12_fate) (zNm mX12_fate) ∈ zTb := ⟨z_tb (z_t5 192 (by decide +kernel)) rfl, z_tb (z_t5 193 (by decide +kernel)) rfl⟩
def mX12_task : zM := (yX12_task, cX12_task, 3, (some .int), 0, 0, 0, 0)
theorem okX12_task : zOK mX12_task 2 3 := ⟨by decide +kernel, by decide +kernel, by decide +kernel, by decide +kernel, by decide +kernel, z_gd (z_t5 198 (by rfl)) rfl, z_tb (z_t1 15 (by decide +kernel)) rfl⟩
theorem ivX12_task : Cond.instanceMethod (zNm mX12_task) ∈ zTb ∧ Cond.selects (zNm mX12_task).cls (zNm mX12_task) (zNm mX12_task) ∈ zTb := ⟨z_tb (z_t5 196 (by decide +kernel)) rfl, z_tb (z_t5 197 (by decide +kernel)) rfl⟩
def mX12_tripAt : zM := (yX12_tripAt, cX12_tripAt, 3, (some .int), 0, 0, 0, 0)
theorem okX12_tripAt : zOK mX12_tripAt 2 3 := ⟨by decide +kernel, by decide +kernel, by decide +kernel, by decide +kernel, by decide +kernel, z_gd (z_t6 14 (by rfl)) rfl, z_tb (z_t1 15 (by decide +kernel)) rfl⟩
theorem ivX12_tripAt : Cond.instanceMethod (zNm mX12_tripAt) ∈ zTb ∧ Cond.selects (zNm mX12_tripAt).cls (zNm mX12_tripAt) (zNm mX12_tripAt) ∈ zTb := ⟨z_tb (z_t6 13 (by decide +kernel)) rfl, z_tb (z_s 54 (by decide +kernel)) rfl⟩
def mX12_isClear : zM := (yX12_isClear, cX12_isClear, 8, (some .boolean), 1, 22, 0, 0)
theorem okX12_isClear : zOK mX12_isClear 4 5 := ⟨by decide +kernel, by decide +kernel, by decide +kernel, by decide +kernel, by decide +kernel, z_gd (z_t6 10 (by rfl)) rfl, z_tb (z_t1 15 (by decide +kernel)) rfl⟩
theorem ivX12_isClear : Cond.instanceMethod (zNm mX12_isClear) ∈ zTb ∧ Cond.selects (zNm mX12_isClear).cls (zNm mX12_isClear) (zNm mX12_isClear) ∈ zTb := ⟨z_tb (z_t6 9 (by decide +kernel)) rfl, z_tb (z_s 53 (by decide +kernel)) rfl⟩
def mX12_leadsTo : zM := (yX12_leadsTo, cX12_leadsTo, 9, (some .int), 1, 24, 0, 0)
theorem okX12_leadsTo : zOK mX12_leadsTo 5 6 := ⟨by decide +kernel, by decide +kernel, by decide +kernel, by decide +kernel, by decide +kernel, z_gd (z_t6 2 (by rfl)) rfl, z_tb (z_t1 15 (by decide +kernel)) rfl⟩
theorem ivX12_leadsTo : Cond.instanceMethod (zNm mX12_leadsTo) ∈ zTb ∧ Cond.selects (zNm mX12_leadsTo).cls (zNm mX12_leadsTo) (zNm mX12_leadsTo) ∈ zTb := ⟨z_tb (z_t6 1 (by decide +kernel)) rfl, z_tb (z_s 51 (by decide +kernel)) rfl⟩
def mX12_finds : zM := (yX12_finds, cX12_finds, 12, (some .boolean), 2, 52, 0, 0)
theorem okX12_finds : zOK mX12_finds 4 5 := ⟨by decide +kernel, by decide +kernel, by decide +kernel, by decide +kernel, by decide +kernel, z_gd (z_t5 238 (by rfl)) rfl, z_tb (z_t1 15 (by decide +kernel)) rfl⟩
theorem ivX12_finds : Cond.instanceMethod (zNm mX12_finds) ∈ zTb ∧ Cond.selects (zNm mX12_finds).cls (zNm mX12_finds) (zNm mX12_finds) ∈ zTb := ⟨z_tb (z_t5 237 (by decide +kernel)) rfl, z_tb (z_s 50 (by decide +kernel)) rfl⟩
def mX12_sends : zM := (yX12_sends, cX12_sends, 10, none, 0, 0, 0, 0)
theorem okX12_sends : zOK mX12_sends 5 6 := ⟨by decide +kernel, by decide +kernel, by decide +kernel, by decide +kernel, by decide +kernel, z_gd (z_t5 226 (by rfl)) rfl, z_tb (z_t1 15 (by decide +kernel)) rfl⟩
theorem ivX12_sends : Cond.instanceMethod (zNm mX12_sends) ∈ zTb ∧ Cond.selects (zNm mX12_sends).cls (zNm mX12_sends) (zNm mX12_sends) ∈ zTb := ⟨z_tb (z_t5 225 (by decide +kernel)) rfl, z_tb (z_s 47 (by decide +kernel)) rfl⟩
def mX12_nextComing : zM := (yX12_nextComing, cX12_nextComing, 3, (some .int), 0, 0, 0, 0)
theorem okX12_nextComing : zOK mX12_nextComing 0 1 := ⟨by decide +kernel, by decide +kernel, by decide +kernel, by decide +kernel, by decide +kernel, z_gd (z_t5 210 (by rfl)) rfl, z_tb (z_t1 15 (by decide +kernel)) rfl⟩
theorem ivX12_nextComing : Cond.instanceMethod (zNm mX12_nextComing) ∈ zTb ∧ Cond.selects (zNm mX12_nextComing).cls (zNm mX12_nextComing) (zNm mX12_nextComing) ∈ zTb := ⟨z_tb (z_t5 209 (by decide +kernel)) rfl, z_tb (z_s 43 (by decide +kernel)) rfl⟩
def mX12_messagesCome : zM := (yX12_messagesCome, cX12_messagesCome, 3, none, 1, 24, 0, 0)
theorem okX12_messagesCome : zOK mX12_messagesCome 0 1 := ⟨by decide +kernel, by decide +kernel, by decide +kernel, by decide +kernel, by decide +kernel, z_gd (z_t5 206 (by rfl)) rfl, z_tb (z_t1 15 (by decide +kernel)) rfl⟩
theorem ivX12_messagesCome : Cond.instanceMethod (zNm mX12_messagesCome) ∈ zTb ∧ Cond.selects (zNm mX12_messagesCome).cls (zNm mX12_messagesCome) (zNm mX12_messagesCome) ∈ zTb := ⟨z_tb (z_t5 205 (by decide +kernel)) rfl, z_tb (z_s 42 (by decide +kernel)) rfl⟩
def mX12_granting : zM := (yX12_granting, cX12_granting, 5, none, 0, 0, 0, 0)
theorem okX12_granting : zOK mX12_granting 4 5 := ⟨by decide +kernel, by decide +kernel, by decide +kernel, by decide +kernel, by decide +kernel, z_gd (z_t5 214 (by rfl)) rfl, z_tb (z_t1 15 (by decide +kernel)) rfl⟩
theorem ivX12_granting : Cond.instanceMethod (zNm mX12_granting) ∈ zTb ∧ Cond.selects (zNm mX12_granting).cls (zNm mX12_granting) (zNm mX12_granting) ∈ zTb := ⟨z_tb (z_t5 213 (by decide +kernel)) rfl, z_tb (z_s 44 (by decide +kernel)) rfl⟩
def mX12_vehicleActs : zM := (yX12_vehicleActs, cX12_vehicleActs, 3, none, 1, 29, 0, 0)
theorem okX12_vehicleActs : zOK mX12_vehicleActs 1 2 := ⟨by decide +kernel, by decide +kernel, by decide +kernel, by decide +kernel, by decide +kernel, z_gd (z_t5 222 (by rfl)) rfl, z_tb (z_t1 15 (by decide +kernel)) rfl⟩
theorem ivX12_vehicleActs : Cond.instanceMethod (zNm mX12_vehicleActs) ∈ zTb ∧ Cond.selects (zNm mX12_vehicleActs).cls (zNm mX12_vehicleActs) (zNm mX12_vehicleActs) ∈ zTb := ⟨z_tb (z_t5 221 (by decide +kernel)) rfl, z_tb (z_s 46 (by decide +kernel)) rfl⟩
def mX12_reporting : zM := (yX12_reporting, cX12_reporting, 4, none, 0, 0, 0, 0)
theorem okX12_reporting : zOK mX12_reporting 3 4 := ⟨by decide +kernel, by decide +kernel, by decide +kernel, by decide +kernel, by decide +kernel, z_gd (z_t5 218 (by rfl)) rfl, z_tb (z_t1 15 (by decide +kernel)) rfl⟩
theorem ivX12_reporting : Cond.instanceMethod (zNm mX12_reporting) ∈ zTb ∧ Cond.selects (zNm mX12_reporting).cls (zNm mX12_reporting) (zNm mX12_reporting) ∈ zTb := ⟨z_tb (z_t5 217 (by decide +kernel)) rfl, z_tb (z_s 45 (by decide +kernel)) rfl⟩
def mX12_known : zM := (yX12_known, cX12_known, 2, (some .int), 0, 0, 0, 0)
theorem okX12_known : zOK mX12_known 1 2 := ⟨by decide +kernel, by decide +kernel, by decide +kernel, by decide +kernel, by decide +kernel, z_gd (z_t5 234 (by rfl)) rfl, z_tb (z_t1 15 (by decide +kernel)) rfl⟩
theorem ivX12_known : Cond.instanceMethod (zNm mX12_known) ∈ zTb ∧ Cond.selects (zNm mX12_known).cls (zNm mX12_known) (zNm mX12_known) ∈ zTb := ⟨z_tb (z_t5 233 (by decide +kernel)) rfl, z_tb (z_s 49 (by decide +kernel)) rfl⟩
def mX12_isOver : zM := (yX12_isOver, cX12_isOver, 5, (some .boolean), 1, 21, 0, 0)
theorem okX12_isOver : zOK mX12_isOver 2 3 := ⟨by decide +kernel, by decide +kernel, by decide +kernel, by decide +kernel, by decide +kernel, z_gd (z_t6 26 (by rfl)) rfl, z_tb (z_t1 15 (by decide +kernel)) rfl⟩
theorem ivX12_isOver : Cond.instanceMethod (zNm mX12_isOver) ∈ zTb ∧ Cond.selects (zNm mX12_isOver).cls (zNm mX12_isOver) (zNm mX12_isOver) ∈ zTb := ⟨z_tb (z_t6 25 (by decide +kernel)) rfl, z_tb (z_s 57 (by decide +kernel)) rfl⟩
def mX12_waitFor : zM := (yX12_waitFor, cX12_waitFor, 4, none, 2, 45, 0, 0)
theorem okX12_waitFor : zOK mX12_waitFor 1 2 := ⟨by decide +kernel, by decide +kernel, by decide +kernel, by decide +kernel, by decide +kernel, z_gd (z_t6 22 (by rfl)) rfl, z_tb (z_t1 15 (by decide +kernel)) rfl⟩
theorem ivX12_waitFor : Cond.instanceMethod (zNm mX12_waitFor) ∈ zTb ∧ Cond.selects (zNm mX12_waitFor).cls (zNm mX12_waitFor) (zNm mX12_waitFor) ∈ zTb := ⟨z_tb (z_t6 21 (by decide +kernel)) rfl, z_tb (z_s 56 (by decide +kernel)) rfl⟩
def mX12_baseActs : zM := (yX12_baseActs, cX12_baseActs, 4, (some .int), 4, 91, 0, 0)
theorem okX12_baseActs : zOK mX12_baseActs 0 1 := ⟨by decide +kernel, by decide +kernel, by decide +kernel, by decide +kernel, by decide +kernel, z_gd (z_t5 230 (by rfl)) rfl, z_tb (z_t1 15 (by decide +kernel)) rfl⟩
theorem ivX12_baseActs : Cond.instanceMethod (zNm mX12_baseActs) ∈ zTb ∧ Cond.selects (zNm mX12_baseActs).cls (zNm mX12_baseActs) (zNm mX12_baseActs) ∈ zTb := ⟨z_tb (z_t5 229 (by decide +kernel)) rfl, z_tb (z_s 48 (by decide +kernel)) rfl⟩
def mX12_grants : zM := (yX12_grants, cX12_grants, 4, none, 3, 68, 0, 0)
theorem okX12_grants : zOK mX12_grants 1 2 := ⟨by decide +kernel, by decide +kernel, by decide +kernel, by decide +kernel, by decide +kernel, z_gd (z_t6 18 (by rfl)) rfl, z_tb (z_t1 15 (by decide +kernel)) rfl⟩
theorem ivX12_grants : Cond.instanceMethod (zNm mX12_grants) ∈ zTb ∧ Cond.selects (zNm mX12_grants).cls (zNm mX12_grants) (zNm mX12_grants) ∈ zTb := ⟨z_tb (z_t6 17 (by decide +kernel)) rfl, z_tb (z_s 55 (by decide +kernel)) rfl⟩
def mX12_run : zM := (yX12_run, cX12_run, 5, (some .int), 5, 114, 0, 0)
theorem okX12_run : zOK mX12_run 1 2 := ⟨by decide +kernel, by decide +kernel, by decide +kernel, by decide +kernel, by decide +kernel, z_gd (z_t5 202 (by rfl)) rfl, z_tb (z_t1 15 (by decide +kernel)) rfl⟩
theorem ivX12_run : Cond.instanceMethod (zNm mX12_run) ∈ zTb ∧ Cond.selects (zNm mX12_run).cls (zNm mX12_run) (zNm mX12_run) ∈ zTb := ⟨z_tb (z_t5 200 (by decide +kernel)) rfl, z_tb (z_t5 201 (by decide +kernel)) rfl⟩
def mX12_cell : zM := (yX12_cell, cX12_cell, 4, (some .int), 3, 68, 0, 0)
theorem okX12_cell : zOK mX12_cell 2 3 := ⟨by decide +kernel, by decide +kernel, by decide +kernel, by decide +kernel, by decide +kernel, z_gd (z_t6 30 (by rfl)) rfl, z_tb (z_t1 15 (by decide +kernel)) rfl⟩
theorem ivX12_cell : Cond.instanceMethod (zNm mX12_cell) ∈ zTb ∧ Cond.selects (zNm mX12_cell).cls (zNm mX12_cell) (zNm mX12_cell) ∈ zTb := ⟨z_tb (z_t6 28 (by decide +kernel)) rfl, z_tb (z_t6 29 (by decide +kernel)) rfl⟩
def mX12_vehicle : zM := (yX12_vehicle, cX12_vehicle, 3, (some .int), 0, 0, 0, 0)
theorem okX12_vehicle : zOK mX12_vehicle 2 3 := ⟨by decide +kernel, by decide +kernel, by decide +kernel, by decide +kernel, by decide +kernel, z_gd (z_t6 34 (by rfl)) rfl, z_tb (z_t1 15 (by decide +kernel)) rfl⟩
theorem ivX12_vehicle : Cond.instanceMethod (zNm mX12_vehicle) ∈ zTb ∧ Cond.selects (zNm mX12_vehicle).cls (zNm mX12_vehicle) (zNm mX12_vehicle) ∈ zTb := ⟨z_tb (z_t6 32 (by decide +kernel)) rfl, z_tb (z_t6 33 (by decide +kernel)) rfl⟩
def mX12_trip : zM := (yX12_trip, cX12_trip, 3, (some .int), 1, 22, 0, 0)
theorem okX12_trip : zOK mX12_trip 2 3 := ⟨by decide +kernel, by decide +kernel, by decide +kernel, by decide +kernel, by decide +kernel, z_gd (z_t6 38 (by rfl)) rfl, z_tb (z_t1 15 (by decide +kernel)) rfl⟩
theorem ivX12_trip : Cond.instanceMethod (zNm mX12_trip) ∈ zTb ∧ Cond.selects (zNm mX12_trip).cls (zNm mX12_trip) (zNm mX12_trip) ∈ zTb := ⟨z_tb (z_t6 36 (by decide +kernel)) rfl, z_tb (z_t6 37 (by decide +kernel)) rfl⟩
def mX12_plan : zM := (yX12_plan, cX12_plan, 5, (some .int), 0, 0, 0, 0)
theorem okX12_plan : zOK mX12_plan 3 4 := ⟨by decide +kernel, by decide +kernel, by decide +kernel, by decide +kernel, by decide +kernel, z_gd (z_t6 42 (by rfl)) rfl, z_tb (z_t1 15 (by decide +kernel)) rfl⟩
theorem ivX12_plan : Cond.instanceMethod (zNm mX12_plan) ∈ zTb ∧ Cond.selects (zNm mX12_plan).cls (zNm mX12_plan) (zNm mX12_plan) ∈ zTb := ⟨z_tb (z_t6 40 (by decide +kernel)) rfl, z_tb (z_t6 41 (by decide +kernel)) rfl⟩
def mX12_told : zM := (yX12_told, cX12_told, 3, (some .int), 0, 0, 0, 0)
theorem okX12_told : zOK mX12_told 2 3 := ⟨by decide +kernel, by decide +kernel, by decide +kernel, by decide +kernel, by decide +kernel, z_gd (z_t6 46 (by rfl)) rfl, z_tb (z_t1 15 (by decide +kernel)) rfl⟩
theorem ivX12_told : Cond.instanceMethod (zNm mX12_told) ∈ zTb ∧ Cond.selects (zNm mX12_told).cls (zNm mX12_told) (zNm mX12_told) ∈ zTb := ⟨z_tb (z_t6 44 (by decide +kernel)) rfl, z_tb (z_t6 45 (by decide +kernel)) rfl⟩
def mX12_count : zM := (yX12_count, cX12_count, 2, (some .int), 0, 0, 0, 0)
theorem okX12_count : zOK mX12_count 1 2 := ⟨by decide +kernel, by decide +kernel, by decide +kernel, by decide +kernel, by decide +kernel, z_gd (z_t6 50 (by rfl)) rfl, z_tb (z_t1 15 (by decide +kernel)) rfl⟩
theorem ivX12_count : Cond.instanceMethod (zNm mX12_count) ∈ zTb ∧ Cond.selects (zNm mX12_count).cls (zNm mX12_count) (zNm mX12_count) ∈ zTb := ⟨z_tb (z_t6 48 (by decide +kernel)) rfl, z_tb (z_t6 49 (by decide +kernel)) rfl⟩
def mX0_init : zM := (yX0_init, cX0_init, 1, none, 2, 40, 4, 912)
theorem okX0_init : zOK mX0_init 0 1 := ⟨by decide +kernel, by decide +kernel, by decide +kernel, by decide +kernel, by decide +kernel, z_gd (z_t1 227 (by rfl)) rfl, z_tb (z_t1 9 (by decide +kernel)) rfl⟩
theorem ivX0_init : Cond.instanceMethod (zNm mX0_init) ∈ zTb := z_tb (z_t1 226 (by decide +kernel)) rfl
def mX0_beginAnew : zM := (yX0_beginAnew, cX0_beginAnew, 2, none, 1, 22, 0, 0)
theorem okX0_beginAnew : zOK mX0_beginAnew 1 2 := ⟨by decide +kernel, by decide +kernel, by decide +kernel, by decide +kernel, by decide +kernel, z_gd (z_t2 214 (by rfl)) rfl, z_tb (z_t1 9 (by decide +kernel)) rfl⟩
theorem ivX0_beginAnew : Cond.instanceMethod (zNm mX0_beginAnew) ∈ zTb ∧ Cond.selects (zNm mX0_beginAnew).cls (zNm mX0_beginAnew) (zNm mX0_beginAnew) ∈ zTb := ⟨z_tb (z_t2 212 (by decide +kernel)) rfl, z_tb (z_t2 213 (by decide +kernel)) rfl⟩
def mX0_take : zM := (yX0_take, cX0_take, 2, none, 0, 0, 0, 0)
theorem okX0_take : zOK mX0_take 1 2 := ⟨by decide +kernel, by decide +kernel, by decide +kernel, by decide +kernel, by decide +kernel, z_gd (z_t4 74 (by rfl)) rfl, z_tb (z_t1 9 (by decide +kernel)) rfl⟩
theorem ivX0_take : Cond.instanceMethod (zNm mX0_take) ∈ zTb ∧ Cond.selects (zNm mX0_take).cls (zNm mX0_take) (zNm mX0_take) ∈ zTb := ⟨z_tb (z_t4 72 (by decide +kernel)) rfl, z_tb (z_t4 73 (by decide +kernel)) rfl⟩
def mX0_learn : zM := (yX0_learn, cX0_learn, 3, none, 0, 0, 0, 0)
theorem okX0_learn : zOK mX0_learn 1 2 := ⟨by decide +kernel, by decide +kernel, by decide +kernel, by decide +kernel, by decide +kernel, z_gd (z_t3 151 (by rfl)) rfl, z_tb (z_t1 9 (by decide +kernel)) rfl⟩
theorem ivX0_learn : Cond.instanceMethod (zNm mX0_learn) ∈ zTb ∧ Cond.selects (zNm mX0_learn).cls (zNm mX0_learn) (zNm mX0_learn) ∈ zTb := ⟨z_tb (z_t3 149 (by decide +kernel)) rfl, z_tb (z_t3 150 (by decide +kernel)) rfl⟩
def mX0_isIdle : zM := (yX0_isIdle, cX0_isIdle, 1, (some .boolean), 0, 0, 0, 0)
theorem okX0_isIdle : zOK mX0_isIdle 0 1 := ⟨by decide +kernel, by decide +kernel, by decide +kernel, by decide +kernel, by decide +kernel, z_gd (z_t3 183 (by rfl)) rfl, z_tb (z_t1 9 (by decide +kernel)) rfl⟩
theorem ivX0_isIdle : Cond.instanceMethod (zNm mX0_isIdle) ∈ zTb ∧ Cond.selects (zNm mX0_isIdle).cls (zNm mX0_isIdle) (zNm mX0_isIdle) ∈ zTb := ⟨z_tb (z_t3 181 (by decide +kernel)) rfl, z_tb (z_t3 182 (by decide +kernel)) rfl⟩
def mX0_actsKnown : zM := (yX0_actsKnown, cX0_actsKnown, 1, (some .int), 0, 0, 0, 0)
theorem okX0_actsKnown : zOK mX0_actsKnown 0 1 := ⟨by decide +kernel, by decide +kernel, by decide +kernel, by decide +kernel, by decide +kernel, z_gd (z_t3 191 (by rfl)) rfl, z_tb (z_t1 9 (by decide +kernel)) rfl⟩
theorem ivX0_actsKnown : Cond.instanceMethod (zNm mX0_actsKnown) ∈ zTb ∧ Cond.selects (zNm mX0_actsKnown).cls (zNm mX0_actsKnown) (zNm mX0_actsKnown) ∈ zTb := ⟨z_tb (z_t3 189 (by decide +kernel)) rfl, z_tb (z_t3 190 (by decide +kernel)) rfl⟩
def mX0_isDoneWhole : zM := (yX0_isDoneWhole, cX0_isDoneWhole, 1, (some .boolean), 1, 20, 0, 0)
theorem okX0_isDoneWhole : zOK mX0_isDoneWhole 0 1 := ⟨by decide +kernel, by decide +kernel, by decide +kernel, by decide +kernel, by decide +kernel, z_gd (z_t3 187 (by rfl)) rfl, z_tb (z_t1 9 (by decide +kernel)) rfl⟩
theorem ivX0_isDoneWhole : Cond.instanceMethod (zNm mX0_isDoneWhole) ∈ zTb ∧ Cond.selects (zNm mX0_isDoneWhole).cls (zNm mX0_isDoneWhole) (zNm mX0_isDoneWhole) ∈ zTb := ⟨z_tb (z_t3 185 (by decide +kernel)) rfl, z_tb (z_t3 186 (by decide +kernel)) rfl⟩
def mX0_nextActTo : zM := (yX0_nextActTo, cX0_nextActTo, 3, (some .int), 3, 63, 0, 0)
theorem okX0_nextActTo : zOK mX0_nextActTo 1 2 := ⟨by decide +kernel, by decide +kernel, by decide +kernel, by decide +kernel, by decide +kernel, z_gd (z_t4 109 (by rfl)) rfl, z_tb (z_t1 9 (by decide +kernel)) rfl⟩
theorem ivX0_nextActTo : Cond.instanceMethod (zNm mX0_nextActTo) ∈ zTb ∧ Cond.selects (zNm mX0_nextActTo).cls (zNm mX0_nextActTo) (zNm mX0_nextActTo) ∈ zTb := ⟨z_tb (z_t4 107 (by decide +kernel)) rfl, z_tb (z_t4 108 (by decide +kernel)) rfl⟩
def mX0_openActsTo : zM := (yX0_openActsTo, cX0_openActsTo, 4, (some .int), 3, 63, 0, 0)
theorem okX0_openActsTo : zOK mX0_openActsTo 1 2 := ⟨by decide +kernel, by decide +kernel, by decide +kernel, by decide +kernel, by decide +kernel, z_gd (z_t4 139 (by rfl)) rfl, z_tb (z_t1 9 (by decide +kernel)) rfl⟩
theorem ivX0_openActsTo : Cond.instanceMethod (zNm mX0_openActsTo) ∈ zTb ∧ Cond.selects (zNm mX0_openActsTo).cls (zNm mX0_openActsTo) (zNm mX0_openActsTo) ∈ zTb := ⟨z_tb (z_t4 137 (by decide +kernel)) rfl, z_tb (z_t4 138 (by decide +kernel)) rfl⟩
def mX0_firstActNotOver : zM := (yX0_firstActNotOver, cX0_firstActNotOver, 2, (some .int), 2, 42, 0, 0)
theorem okX0_firstActNotOver : zOK mX0_firstActNotOver 0 1 := ⟨by decide +kernel, by decide +kernel, by decide +kernel, by decide +kernel, by decide +kernel, z_gd (z_t4 113 (by rfl)) rfl, z_tb (z_t1 9 (by decide +kernel)) rfl⟩
theorem ivX0_firstActNotOver : Cond.instanceMethod (zNm mX0_firstActNotOver) ∈ zTb ∧ Cond.selects (zNm mX0_firstActNotOver).cls (zNm mX0_firstActNotOver) (zNm mX0_firstActNotOver) ∈ zTb := ⟨z_tb (z_t4 112 (by decide +kernel)) rfl, z_tb (z_s 35 (by decide +kernel)) rfl⟩
def mX1_init : zM := (yX1_init, cX1_init, 2, none, 3, 60, 37, 20078)
theorem okX1_init : zOK mX1_init 0 1 := ⟨by decide +kernel, by decide +kernel, by decide +kernel, by decide +kernel, by decide +kernel, z_gd (z_t1 171 (by rfl)) rfl, z_tb (z_t1 7 (by decide +kernel)) rfl⟩
theorem ivX1_init : Cond.instanceMethod (zNm mX1_init) ∈ zTb := z_tb (z_t1 170 (by decide +kernel)) rfl
def mX1_beginAnew : zM := (yX1_beginAnew, cX1_beginAnew, 3, none, 2, 43, 0, 0)
theorem okX1_beginAnew : zOK mX1_beginAnew 1 2 := ⟨by decide +kernel, by decide +kernel, by decide +kernel, by decide +kernel, by decide +kernel, z_gd (z_t2 203 (by rfl)) rfl, z_tb (z_t1 7 (by decide +kernel)) rfl⟩
theorem ivX1_beginAnew : Cond.instanceMethod (zNm mX1_beginAnew) ∈ zTb ∧ Cond.selects (zNm mX1_beginAnew).cls (zNm mX1_beginAnew) (zNm mX1_beginAnew) ∈ zTb := ⟨z_tb (z_t2 201 (by decide +kernel)) rfl, z_tb (z_t2 202 (by decide +kernel)) rfl⟩
def mX1_accountAt : zM := (yX1_accountAt, cX1_accountAt, 2, (some (.object "FleetYard$Account")), 0, 0, 0, 0)
theorem okX1_accountAt : zOK mX1_accountAt 1 2 := ⟨by decide +kernel, by decide +kernel, by decide +kernel, by decide +kernel, by decide +kernel, z_gd (z_t3 143 (by rfl)) rfl, z_tb (z_t1 7 (by decide +kernel)) rfl⟩
theorem ivX1_accountAt : Cond.instanceMethod (zNm mX1_accountAt) ∈ zTb ∧ Cond.selects (zNm mX1_accountAt).cls (zNm mX1_accountAt) (zNm mX1_accountAt) ∈ zTb := ⟨z_tb (z_t3 141 (by decide +kernel)) rfl, z_tb (z_t3 142 (by decide +kernel)) rfl⟩
def mX1_waitingAt : zM := (yX1_waitingAt, cX1_waitingAt, 4, (some .int), 4, 86, 0, 0)
theorem okX1_waitingAt : zOK mX1_waitingAt 1 2 := ⟨by decide +kernel, by decide +kernel, by decide +kernel, by decide +kernel, by decide +kernel, z_gd (z_t4 135 (by rfl)) rfl, z_tb (z_t1 7 (by decide +kernel)) rfl⟩
theorem ivX1_waitingAt : Cond.instanceMethod (zNm mX1_waitingAt) ∈ zTb ∧ Cond.selects (zNm mX1_waitingAt).cls (zNm mX1_waitingAt) (zNm mX1_waitingAt) ∈ zTb := ⟨z_tb (z_t4 133 (by decide +kernel)) rfl, z_tb (z_t4 134 (by decide +kernel)) rfl⟩
def mX1_firstWaitingAt : zM := (yX1_firstWaitingAt, cX1_firstWaitingAt, 7, (some .int), 4, 85, 0, 0)
theorem okX1_firstWaitingAt : zOK mX1_firstWaitingAt 1 2 := ⟨by decide +kernel, by decide +kernel, by decide +kernel, by decide +kernel, by decide +kernel, z_gd (z_t4 105 (by rfl)) rfl, z_tb (z_t1 7 (by decide +kernel)) rfl⟩
theorem ivX1_firstWaitingAt : Cond.instanceMethod (zNm mX1_firstWaitingAt) ∈ zTb ∧ Cond.selects (zNm mX1_firstWaitingAt).cls (zNm mX1_firstWaitingAt) (zNm mX1_firstWaitingAt) ∈ zTb := ⟨z_tb (z_t4 103 (by decide +kernel)) rfl, z_tb (z_t4 104 (by decide +kernel)) rfl⟩
def mX1_noteFinished : zM := (yX1_noteFinished, cX1_noteFinished, 5, none, 2, 43, 0, 0)
theorem okX1_noteFinished : zOK mX1_noteFinished 2 3 := ⟨by decide +kernel, by decide +kernel, by decide +kernel, by decide +kernel, by decide +kernel, z_gd (z_t3 179 (by rfl)) rfl, z_tb (z_t1 7 (by decide +kernel)) rfl⟩
theorem ivX1_noteFinished : Cond.instanceMethod (zNm mX1_noteFinished) ∈ zTb ∧ Cond.selects (zNm mX1_noteFinished).cls (zNm mX1_noteFinished) (zNm mX1_noteFinished) ∈ zTb := ⟨z_tb (z_t3 177 (by decide +kernel)) rfl, z_tb (z_t3 178 (by decide +kernel)) rfl⟩
def mX1_handOut : zM := (yX1_handOut, cX1_handOut, 6, none, 6, 149, 0, 0)
theorem okX1_handOut : zOK mX1_handOut 3 4 := ⟨by decide +kernel, by decide +kernel, by decide +kernel, by decide +kernel, by decide +kernel, z_gd (z_t3 203 (by rfl)) rfl, z_tb (z_t1 7 (by decide +kernel)) rfl⟩
theorem ivX1_handOut : Cond.instanceMethod (zNm mX1_handOut) ∈ zTb ∧ Cond.selects (zNm mX1_handOut).cls (zNm mX1_handOut) (zNm mX1_handOut) ∈ zTb := ⟨z_tb (z_t3 201 (by decide +kernel)) rfl, z_tb (z_t3 202 (by decide +kernel)) rfl⟩
def mX1_leastIdle : zM := (yX1_leastIdle, cX1_leastIdle, 2, (some .int), 1, 20, 0, 0)
theorem okX1_leastIdle : zOK mX1_leastIdle 0 1 := ⟨by decide +kernel, by decide +kernel, by decide +kernel, by decide +kernel, by decide +kernel, z_gd (z_t3 207 (by rfl)) rfl, z_tb (z_t1 7 (by decide +kernel)) rfl⟩
theorem ivX1_leastIdle : Cond.instanceMethod (zNm mX1_leastIdle) ∈ zTb ∧ Cond.selects (zNm mX1_leastIdle).cls (zNm mX1_leastIdle) (zNm mX1_leastIdle) ∈ zTb := ⟨z_tb (z_t3 206 (by decide +kernel)) rfl, z_tb (z_s 16 (by decide +kernel)) rfl⟩
def mX1_givePlan : zM := (yX1_givePlan, cX1_givePlan, 8, (some .boolean), 5, 122, 0, 0)
theorem okX1_givePlan : zOK mX1_givePlan 5 6 := ⟨by decide +kernel, by decide +kernel, by decide +kernel, by decide +kernel, by decide +kernel, z_gd (z_t3 211 (by rfl)) rfl, z_tb (z_t1 7 (by decide +kernel)) rfl⟩
theorem ivX1_givePlan : Cond.instanceMethod (zNm mX1_givePlan) ∈ zTb ∧ Cond.selects (zNm mX1_givePlan).cls (zNm mX1_givePlan) (zNm mX1_givePlan) ∈ zTb := ⟨z_tb (z_t3 210 (by decide +kernel)) rfl, z_tb (z_s 17 (by decide +kernel)) rfl⟩
def mX1_noteHopeless : zM := (yX1_noteHopeless, cX1_noteHopeless, 5, none, 1, 20, 0, 0)
theorem okX1_noteHopeless : zOK mX1_noteHopeless 3 4 := ⟨by decide +kernel, by decide +kernel, by decide +kernel, by decide +kernel, by decide +kernel, z_gd (z_t4 66 (by rfl)) rfl, z_tb (z_t1 7 (by decide +kernel)) rfl⟩
theorem ivX1_noteHopeless : Cond.instanceMethod (zNm mX1_noteHopeless) ∈ zTb ∧ Cond.selects (zNm mX1_noteHopeless).cls (zNm mX1_noteHopeless) (zNm mX1_noteHopeless) ∈ zTb := ⟨z_tb (z_t4 65 (by decide +kernel)) rfl, z_tb (z_s 33 (by decide +kernel)) rfl⟩
def mX1_sendGrants : zM := (yX1_sendGrants, cX1_sendGrants, 6, none, 6, 136, 0, 0)
theorem okX1_sendGrants : zOK mX1_sendGrants 2 3 := ⟨by decide +kernel, by decide +kernel, by decide +kernel, by decide +kernel, by decide +kernel, z_gd (z_t4 82 (by rfl)) rfl, z_tb (z_t1 7 (by decide +kernel)) rfl⟩
theorem ivX1_sendGrants : Cond.instanceMethod (zNm mX1_sendGrants) ∈ zTb ∧ Cond.selects (zNm mX1_sendGrants).cls (zNm mX1_sendGrants) (zNm mX1_sendGrants) ∈ zTb := ⟨z_tb (z_t4 80 (by decide +kernel)) rfl, z_tb (z_t4 81 (by decide +kernel)) rfl⟩
def mX1_isGrantDue : zM := (yX1_isGrantDue, cX1_isGrantDue, 6, (some .boolean), 5, 111, 0, 0)
theorem okX1_isGrantDue : zOK mX1_isGrantDue 3 4 := ⟨by decide +kernel, by decide +kernel, by decide +kernel, by decide +kernel, by decide +kernel, z_gd (z_t4 91 (by rfl)) rfl, z_tb (z_t1 7 (by decide +kernel)) rfl⟩
theorem ivX1_isGrantDue : Cond.instanceMethod (zNm mX1_isGrantDue) ∈ zTb ∧ Cond.selects (zNm mX1_isGrantDue).cls (zNm mX1_isGrantDue) (zNm mX1_isGrantDue) ∈ zTb := ⟨z_tb (z_t4 90 (by decide +kernel)) rfl, z_tb (z_s 34 (by decide +kernel)) rfl⟩
def mX2_init : zM := (yX2_init, cX2_init, 1, none, 1, 20, 2, 512)
theorem okX2_init : zOK mX2_init 0 1 := ⟨by decide +kernel, by decide +kernel, by decide +kernel, by decide +kernel, by decide +kernel, z_gd (z_t1 45 (by rfl)) rfl, z_tb (z_t1 3 (by decide +kernel)) rfl⟩
theorem ivX2_init : Cond.instanceMethod (zNm mX2_init) ∈ zTb := z_tb (z_t1 44 (by decide +kernel)) rfl
def mX2_faultOf : zM := (yX2_faultOf, cX2_faultOf, 4, (some .int), 6, 135, 0, 0)
theorem okX2_faultOf : zOK mX2_faultOf 2 3 := ⟨by decide +kernel, by decide +kernel, by decide +kernel, by decide +kernel, by decide +kernel, z_gd (z_t3 41 (by rfl)) rfl, z_tb (z_t1 3 (by decide +kernel)) rfl⟩
theorem ivX2_faultOf : Cond.instanceMethod (zNm mX2_faultOf) ∈ zTb ∧ Cond.selects (zNm mX2_faultOf).cls (zNm mX2_faultOf) (zNm mX2_faultOf) ∈ zTb := ⟨z_tb (z_t3 39 (by decide +kernel)) rfl, z_tb (z_t3 40 (by decide +kernel)) rfl⟩
def mX2_faultOfSigns : zM := (yX2_faultOfSigns, cX2_faultOfSigns, 5, (some .int), 3, 64, 0, 0)
theorem okX2_faultOfSigns : zOK mX2_faultOfSigns 2 3 := ⟨by decide +kernel, by decide +kernel, by decide +kernel, by decide +kernel, by decide +kernel, z_gd (z_t3 49 (by rfl)) rfl, z_tb (z_t1 3 (by decide +kernel)) rfl⟩
theorem ivX2_faultOfSigns : Cond.instanceMethod (zNm mX2_faultOfSigns) ∈ zTb ∧ Cond.selects (zNm mX2_faultOfSigns).cls (zNm mX2_faultOfSigns) (zNm mX2_faultOfSigns) ∈ zTb := ⟨z_tb (z_t3 48 (by decide +kernel)) rfl, z_tb (z_s 4 (by decide +kernel)) rfl⟩
def mX2_takeByte : zM := (yX2_takeByte, cX2_takeByte, 4, (some .int), 2, 41, 0, 0)
theorem okX2_takeByte : zOK mX2_takeByte 2 3 := ⟨by decide +kernel, by decide +kernel, by decide +kernel, by decide +kernel, by decide +kernel, z_gd (z_t3 53 (by rfl)) rfl, z_tb (z_t1 3 (by decide +kernel)) rfl⟩
theorem ivX2_takeByte : Cond.instanceMethod (zNm mX2_takeByte) ∈ zTb ∧ Cond.selects (zNm mX2_takeByte).cls (zNm mX2_takeByte) (zNm mX2_takeByte) ∈ zTb := ⟨z_tb (z_t3 52 (by decide +kernel)) rfl, z_tb (z_s 5 (by decide +kernel)) rfl⟩
def mX2_endLine : zM := (yX2_endLine, cX2_endLine, 2, (some .int), 0, 0, 0, 0)
theorem okX2_endLine : zOK mX2_endLine 1 2 := ⟨by decide +kernel, by decide +kernel, by decide +kernel, by decide +kernel, by decide +kernel, z_gd (z_t3 57 (by rfl)) rfl, z_tb (z_t1 3 (by decide +kernel)) rfl⟩
theorem ivX2_endLine : Cond.instanceMethod (zNm mX2_endLine) ∈ zTb ∧ Cond.selects (zNm mX2_endLine).cls (zNm mX2_endLine) (zNm mX2_endLine) ∈ zTb := ⟨z_tb (z_t3 56 (by decide +kernel)) rfl, z_tb (z_s 6 (by decide +kernel)) rfl⟩
def mX2_kindOfSign : zM := (yX2_kindOfSign, cX2_kindOfSign, 1, (some .int), 0, 0, 0, 0)
theorem okX2_kindOfSign : zOK mX2_kindOfSign 1 1 := ⟨by decide +kernel, by decide +kernel, by decide +kernel, by decide +kernel, by decide +kernel, z_gd (z_t3 60 (by rfl)) rfl, z_tb (z_t1 3 (by decide +kernel)) rfl⟩
theorem ivX2_kindOfSign : Cond.static (zNm mX2_kindOfSign) ∈ zTb := z_tb (z_t3 59 (by decide +kernel)) rfl
def mX2_faultOfNumbers : zM := (yX2_faultOfNumbers, cX2_faultOfNumbers, 2, (some .int), 0, 0, 0, 0)
theorem okX2_faultOfNumbers : zOK mX2_faultOfNumbers 1 1 := ⟨by decide +kernel, by decide +kernel, by decide +kernel, by decide +kernel, by decide +kernel, z_gd (z_t3 65 (by rfl)) rfl, z_tb (z_t1 3 (by decide +kernel)) rfl⟩
theorem ivX2_faultOfNumbers : Cond.static (zNm mX2_faultOfNumbers) ∈ zTb := z_tb (z_t3 64 (by decide +kernel)) rfl
def mX2_faultOfWays : zM := (yX2_faultOfWays, cX2_faultOfWays, 3, (some .int), 5, 113, 0, 0)
theorem okX2_faultOfWays : zOK mX2_faultOfWays 1 2 := ⟨by decide +kernel, by decide +kernel, by decide +kernel, by decide +kernel, by decide +kernel, z_gd (z_t3 69 (by rfl)) rfl, z_tb (z_t1 3 (by decide +kernel)) rfl⟩
theorem ivX2_faultOfWays : Cond.instanceMethod (zNm mX2_faultOfWays) ∈ zTb ∧ Cond.selects (zNm mX2_faultOfWays).cls (zNm mX2_faultOfWays) (zNm mX2_faultOfWays) ∈ zTb := ⟨z_tb (z_t3 68 (by decide +kernel)) rfl, z_tb (z_s 7 (by decide +kernel)) rfl⟩
def mX2_reachesLaterEndpoints : zM := (yX2_reachesLaterEndpoints, cX2_reachesLaterEndpoints, 4, (some .boolean), 4, 90, 0, 0)
theorem okX2_reachesLaterEndpoints : zOK mX2_reachesLaterEndpoints 2 3 := ⟨by decide +kernel, by decide +kernel, by decide +kernel, by decide +kernel, by decide +kernel, z_gd (z_t3 77 (by rfl)) rfl, z_tb (z_t1 3 (by decide +kernel)) rfl⟩
theorem ivX2_reachesLaterEndpoints : Cond.instanceMethod (zNm mX2_reachesLaterEndpoints) ∈ zTb ∧ Cond.selects (zNm mX2_reachesLaterEndpoints).cls (zNm mX2_reachesLaterEndpoints) (zNm mX2_reachesLaterEndpoints) ∈ zTb := ⟨z_tb (z_t3 76 (by decide +kernel)) rfl, z_tb (z_s 8 (by decide +kernel)) rfl⟩
def mX2_flood : zM := (yX2_flood, cX2_flood, 7, none, 3, 64, 0, 0)
theorem okX2_flood : zOK mX2_flood 2 3 := ⟨by decide +kernel, by decide +kernel, by decide +kernel, by decide +kernel, by decide +kernel, z_gd (z_t3 81 (by rfl)) rfl, z_tb (z_t1 3 (by decide +kernel)) rfl⟩
theorem ivX2_flood : Cond.instanceMethod (zNm mX2_flood) ∈ zTb ∧ Cond.selects (zNm mX2_flood).cls (zNm mX2_flood) (zNm mX2_flood) ∈ zTb := ⟨z_tb (z_t3 80 (by decide +kernel)) rfl, z_tb (z_s 9 (by decide +kernel)) rfl⟩
def mX2_visit : zM := (yX2_visit, cX2_visit, 3, (some .int), 0, 0, 0, 0)
theorem okX2_visit : zOK mX2_visit 2 3 := ⟨by decide +kernel, by decide +kernel, by decide +kernel, by decide +kernel, by decide +kernel, z_gd (z_t3 86 (by rfl)) rfl, z_tb (z_t1 3 (by decide +kernel)) rfl⟩
theorem ivX2_visit : Cond.instanceMethod (zNm mX2_visit) ∈ zTb ∧ Cond.selects (zNm mX2_visit).cls (zNm mX2_visit) (zNm mX2_visit) ∈ zTb := ⟨z_tb (z_t3 85 (by decide +kernel)) rfl, z_tb (z_s 10 (by decide +kernel)) rfl⟩
def mX3_init : zM := (yX3_init, cX3_init, 1, none, 1, 20, 0, 0)
theorem okX3_init : zOK mX3_init 0 1 := ⟨by decide +kernel, by decide +kernel, by decide +kernel, by decide +kernel, by decide +kernel, z_gd (z_t1 76 (by rfl)) rfl, z_tb (z_t1 5 (by decide +kernel)) rfl⟩
theorem ivX3_init : Cond.instanceMethod (zNm mX3_init) ∈ zTb := z_tb (z_t1 75 (by decide +kernel)) rfl
def mX4_init : zM := (yX4_init, cX4_init, 1, none, 1, 20, 5, 14544)
theorem okX4_init : zOK mX4_init 0 1 := ⟨by decide +kernel, by decide +kernel, by decide +kernel, by decide +kernel, by decide +kernel, z_gd (z_t1 179 (by rfl)) rfl, z_tb (z_t1 8 (by decide +kernel)) rfl⟩
theorem ivX4_init : Cond.instanceMethod (zNm mX4_init) ∈ zTb := z_tb (z_t1 178 (by decide +kernel)) rfl
def mX4_findTrip : zM := (yX4_findTrip, cX4_findTrip, 8, (some .boolean), 4, 95, 0, 0)
theorem okX4_findTrip : zOK mX4_findTrip 6 7 := ⟨by decide +kernel, by decide +kernel, by decide +kernel, by decide +kernel, by decide +kernel, z_gd (z_t3 217 (by rfl)) rfl, z_tb (z_t1 8 (by decide +kernel)) rfl⟩
theorem ivX4_findTrip : Cond.instanceMethod (zNm mX4_findTrip) ∈ zTb ∧ Cond.selects (zNm mX4_findTrip).cls (zNm mX4_findTrip) (zNm mX4_findTrip) ∈ zTb := ⟨z_tb (z_t3 215 (by decide +kernel)) rfl, z_tb (z_t3 216 (by decide +kernel)) rfl⟩
def mX4_markGround : zM := (yX4_markGround, cX4_markGround, 2, none, 2, 42, 0, 0)
theorem okX4_markGround : zOK mX4_markGround 0 1 := ⟨by decide +kernel, by decide +kernel, by decide +kernel, by decide +kernel, by decide +kernel, z_gd (z_t3 223 (by rfl)) rfl, z_tb (z_t1 8 (by decide +kernel)) rfl⟩
theorem ivX4_markGround : Cond.instanceMethod (zNm mX4_markGround) ∈ zTb ∧ Cond.selects (zNm mX4_markGround).cls (zNm mX4_markGround) (zNm mX4_markGround) ∈ zTb := ⟨z_tb (z_t3 222 (by decide +kernel)) rfl, z_tb (z_s 18 (by decide +kernel)) rfl⟩
def mX4_spread : zM := (yX4_spread, cX4_spread, 4, (some .int), 2, 54, 0, 0)
theorem okX4_spread : zOK mX4_spread 0 1 := ⟨by decide +kernel, by decide +kernel, by decide +kernel, by decide +kernel, by decide +kernel, z_gd (z_t3 236 (by rfl)) rfl, z_tb (z_t1 8 (by decide +kernel)) rfl⟩
theorem ivX4_spread : Cond.instanceMethod (zNm mX4_spread) ∈ zTb ∧ Cond.selects (zNm mX4_spread).cls (zNm mX4_spread) (zNm mX4_spread) ∈ zTb := ⟨z_tb (z_t3 235 (by decide +kernel)) rfl, z_tb (z_s 20 (by decide +kernel)) rfl⟩
def mX4_markHeld : zM := (yX4_markHeld, cX4_markHeld, 3, none, 1, 24, 0, 0)
theorem okX4_markHeld : zOK mX4_markHeld 1 2 := ⟨by decide +kernel, by decide +kernel, by decide +kernel, by decide +kernel, by decide +kernel, z_gd (z_t4 4 (by rfl)) rfl, z_tb (z_t1 8 (by decide +kernel)) rfl⟩
theorem ivX4_markHeld : Cond.instanceMethod (zNm mX4_markHeld) ∈ zTb ∧ Cond.selects (zNm mX4_markHeld).cls (zNm mX4_markHeld) (zNm mX4_markHeld) ∈ zTb := ⟨z_tb (z_t4 3 (by decide +kernel)) rfl, z_tb (z_s 22 (by decide +kernel)) rfl⟩
def mX4_dropEntered : zM := (yX4_dropEntered, cX4_dropEntered, 5, none, 1, 21, 0, 0)
theorem okX4_dropEntered : zOK mX4_dropEntered 1 2 := ⟨by decide +kernel, by decide +kernel, by decide +kernel, by decide +kernel, by decide +kernel, z_gd (z_t4 12 (by rfl)) rfl, z_tb (z_t1 8 (by decide +kernel)) rfl⟩
theorem ivX4_dropEntered : Cond.instanceMethod (zNm mX4_dropEntered) ∈ zTb ∧ Cond.selects (zNm mX4_dropEntered).cls (zNm mX4_dropEntered) (zNm mX4_dropEntered) ∈ zTb := ⟨z_tb (z_t4 11 (by decide +kernel)) rfl, z_tb (z_s 23 (by decide +kernel)) rfl⟩
def mX4_spreadStage : zM := (yX4_spreadStage, cX4_spreadStage, 10, none, 1, 25, 0, 0)
theorem okX4_spreadStage : zOK mX4_spreadStage 2 3 := ⟨by decide +kernel, by decide +kernel, by decide +kernel, by decide +kernel, by decide +kernel, z_gd (z_t4 16 (by rfl)) rfl, z_tb (z_t1 8 (by decide +kernel)) rfl⟩
theorem ivX4_spreadStage : Cond.instanceMethod (zNm mX4_spreadStage) ∈ zTb ∧ Cond.selects (zNm mX4_spreadStage).cls (zNm mX4_spreadStage) (zNm mX4_spreadStage) ∈ zTb := ⟨z_tb (z_t4 15 (by decide +kernel)) rfl, z_tb (z_s 24 (by decide +kernel)) rfl⟩
def mX4_keepWhatLeadsHome : zM := (yX4_keepWhatLeadsHome, cX4_keepWhatLeadsHome, 4, none, 2, 53, 0, 0)
theorem okX4_keepWhatLeadsHome : zOK mX4_keepWhatLeadsHome 1 2 := ⟨by decide +kernel, by decide +kernel, by decide +kernel, by decide +kernel, by decide +kernel, z_gd (z_t4 28 (by rfl)) rfl, z_tb (z_t1 8 (by decide +kernel)) rfl⟩
theorem ivX4_keepWhatLeadsHome : Cond.instanceMethod (zNm mX4_keepWhatLeadsHome) ∈ zTb ∧ Cond.selects (zNm mX4_keepWhatLeadsHome).cls (zNm mX4_keepWhatLeadsHome) (zNm mX4_keepWhatLeadsHome) ∈ zTb := ⟨z_tb (z_t4 27 (by decide +kernel)) rfl, z_tb (z_s 27 (by decide +kernel)) rfl⟩
def mX4_keepStage : zM := (yX4_keepStage, cX4_keepStage, 9, none, 1, 25, 0, 0)
theorem okX4_keepStage : zOK mX4_keepStage 2 3 := ⟨by decide +kernel, by decide +kernel, by decide +kernel, by decide +kernel, by decide +kernel, z_gd (z_t4 32 (by rfl)) rfl, z_tb (z_t1 8 (by decide +kernel)) rfl⟩
theorem ivX4_keepStage : Cond.instanceMethod (zNm mX4_keepStage) ∈ zTb ∧ Cond.selects (zNm mX4_keepStage).cls (zNm mX4_keepStage) (zNm mX4_keepStage) ∈ zTb := ⟨z_tb (z_t4 31 (by decide +kernel)) rfl, z_tb (z_s 28 (by decide +kernel)) rfl⟩
def mX4_followFirst : zM := (yX4_followFirst, cX4_followFirst, 8, none, 3, 68, 0, 0)
theorem okX4_followFirst : zOK mX4_followFirst 2 3 := ⟨by decide +kernel, by decide +kernel, by decide +kernel, by decide +kernel, by decide +kernel, z_gd (z_t4 36 (by rfl)) rfl, z_tb (z_t1 8 (by decide +kernel)) rfl⟩
theorem ivX4_followFirst : Cond.instanceMethod (zNm mX4_followFirst) ∈ zTb ∧ Cond.selects (zNm mX4_followFirst).cls (zNm mX4_followFirst) (zNm mX4_followFirst) ∈ zTb := ⟨z_tb (z_t4 35 (by decide +kernel)) rfl, z_tb (z_s 29 (by decide +kernel)) rfl⟩
def mX4_firstWayOn : zM := (yX4_firstWayOn, cX4_firstWayOn, 5, (some .int), 2, 44, 0, 0)
theorem okX4_firstWayOn : zOK mX4_firstWayOn 2 3 := ⟨by decide +kernel, by decide +kernel, by decide +kernel, by decide +kernel, by decide +kernel, z_gd (z_t4 41 (by rfl)) rfl, z_tb (z_t1 8 (by decide +kernel)) rfl⟩
theorem ivX4_firstWayOn : Cond.instanceMethod (zNm mX4_firstWayOn) ∈ zTb ∧ Cond.selects (zNm mX4_firstWayOn).cls (zNm mX4_firstWayOn) (zNm mX4_firstWayOn) ∈ zTb := ⟨z_tb (z_t4 40 (by decide +kernel)) rfl, z_tb (z_s 30 (by decide +kernel)) rfl⟩
def mX4_beside : zM := (yX4_beside, cX4_beside, 6, (some .int), 0, 0, 0, 0)
theorem okX4_beside : zOK mX4_beside 2 3 := ⟨by decide +kernel, by decide +kernel, by decide +kernel, by decide +kernel, by decide +kernel, z_gd (z_t4 20 (by rfl)) rfl, z_tb (z_t1 8 (by decide +kernel)) rfl⟩
theorem ivX4_beside : Cond.instanceMethod (zNm mX4_beside) ∈ zTb ∧ Cond.selects (zNm mX4_beside).cls (zNm mX4_beside) (zNm mX4_beside) ∈ zTb := ⟨z_tb (z_t4 19 (by decide +kernel)) rfl, z_tb (z_s 25 (by decide +kernel)) rfl⟩
def mX4_rowOf : zM := (yX4_rowOf, cX4_rowOf, 2, (some .int), 0, 0, 0, 0)
theorem okX4_rowOf : zOK mX4_rowOf 2 2 := ⟨by decide +kernel, by decide +kernel, by decide +kernel, by decide +kernel, by decide +kernel, z_gd (z_t3 232 (by rfl)) rfl, z_tb (z_t1 8 (by decide +kernel)) rfl⟩
theorem ivX4_rowOf : Cond.static (zNm mX4_rowOf) ∈ zTb := z_tb (z_t3 231 (by decide +kernel)) rfl
def mX4_clearLayer : zM := (yX4_clearLayer, cX4_clearLayer, 4, none, 1, 21, 0, 0)
theorem okX4_clearLayer : zOK mX4_clearLayer 1 2 := ⟨by decide +kernel, by decide +kernel, by decide +kernel, by decide +kernel, by decide +kernel, z_gd (z_t4 0 (by rfl)) rfl, z_tb (z_t1 8 (by decide +kernel)) rfl⟩
theorem ivX4_clearLayer : Cond.instanceMethod (zNm mX4_clearLayer) ∈ zTb ∧ Cond.selects (zNm mX4_clearLayer).cls (zNm mX4_clearLayer) (zNm mX4_clearLayer) ∈ zTb := ⟨z_tb (z_t3 239 (by decide +kernel)) rfl, z_tb (z_s 21 (by decide +kernel)) rfl⟩
def mX4_mark : zM := (yX4_mark, cX4_mark, 5, none, 0, 0, 0, 0)
theorem okX4_mark : zOK mX4_mark 3 4 := ⟨by decide +kernel, by decide +kernel, by decide +kernel, by decide +kernel, by decide +kernel, z_gd (z_t3 229 (by rfl)) rfl, z_tb (z_t1 8 (by decide +kernel)) rfl⟩
theorem ivX4_mark : Cond.instanceMethod (zNm mX4_mark) ∈ zTb ∧ Cond.selects (zNm mX4_mark).cls (zNm mX4_mark) (zNm mX4_mark) ∈ zTb := ⟨z_tb (z_t3 228 (by decide +kernel)) rfl, z_tb (z_s 19 (by decide +kernel)) rfl⟩
def mX4_isReached : zM := (yX4_isReached, cX4_isReached, 4, (some .boolean), 0, 0, 0, 0)
theorem okX4_isReached : zOK mX4_isReached 2 3 := ⟨by decide +kernel, by decide +kernel, by decide +kernel, by decide +kernel, by decide +kernel, z_gd (z_t4 24 (by rfl)) rfl, z_tb (z_t1 8 (by decide +kernel)) rfl⟩
theorem ivX4_isReached : Cond.instanceMethod (zNm mX4_isReached) ∈ zTb ∧ Cond.selects (zNm mX4_isReached).cls (zNm mX4_isReached) (zNm mX4_isReached) ∈ zTb := ⟨z_tb (z_t4 23 (by decide +kernel)) rfl, z_tb (z_s 26 (by decide +kernel)) rfl⟩
def mX5_init : zM := (yX5_init, cX5_init, 2, none, 2, 40, 66, 576)
theorem okX5_init : zOK mX5_init 0 1 := ⟨by decide +kernel, by decide +kernel, by decide +kernel, by decide +kernel, by decide +kernel, z_gd (z_t1 69 (by rfl)) rfl, z_tb (z_t1 4 (by decide +kernel)) rfl⟩
theorem ivX5_init : Cond.instanceMethod (zNm mX5_init) ∈ zTb := z_tb (z_t1 68 (by decide +kernel)) rfl
def mX5_clear : zM := (yX5_clear, cX5_clear, 1, none, 2, 44, 0, 0)
theorem okX5_clear : zOK mX5_clear 0 1 := ⟨by decide +kernel, by decide +kernel, by decide +kernel, by decide +kernel, by decide +kernel, z_gd (z_t2 192 (by rfl)) rfl, z_tb (z_t1 4 (by decide +kernel)) rfl⟩
theorem ivX5_clear : Cond.instanceMethod (zNm mX5_clear) ∈ zTb ∧ Cond.selects (zNm mX5_clear).cls (zNm mX5_clear) (zNm mX5_clear) ∈ zTb := ⟨z_tb (z_t2 190 (by decide +kernel)) rfl, z_tb (z_t2 191 (by decide +kernel)) rfl⟩
def mX5_clearFates : zM := (yX5_clearFates, cX5_clearFates, 2, (some .boolean), 1, 23, 0, 0)
theorem okX5_clearFates : zOK mX5_clearFates 1 2 := ⟨by decide +kernel, by decide +kernel, by decide +kernel, by decide +kernel, by decide +kernel, z_gd (z_t2 196 (by rfl)) rfl, z_tb (z_t1 4 (by decide +kernel)) rfl⟩
theorem ivX5_clearFates : Cond.instanceMethod (zNm mX5_clearFates) ∈ zTb ∧ Cond.selects (zNm mX5_clearFates).cls (zNm mX5_clearFates) (zNm mX5_clearFates) ∈ zTb := ⟨z_tb (z_t2 194 (by decide +kernel)) rfl, z_tb (z_t2 195 (by decide +kernel)) rfl⟩
def mX5_setFate : zM := (yX5_setFate, cX5_setFate, 3, (some .boolean), 0, 0, 0, 0)
theorem okX5_setFate : zOK mX5_setFate 2 3 := ⟨by decide +kernel, by decide +kernel, by decide +kernel, by decide +kernel, by decide +kernel, z_gd (z_t3 107 (by rfl)) rfl, z_tb (z_t1 4 (by decide +kernel)) rfl⟩
theorem ivX5_setFate : Cond.instanceMethod (zNm mX5_setFate) ∈ zTb ∧ Cond.selects (zNm mX5_setFate).cls (zNm mX5_setFate) (zNm mX5_setFate) ∈ zTb := ⟨z_tb (z_t3 105 (by decide +kernel)) rfl, z_tb (z_t3 106 (by decide +kernel)) rfl⟩
def mX5_send : zM := (yX5_send, cX5_send, 9, none, 1, 21, 0, 0)
theorem okX5_send : zOK mX5_send 6 7 := ⟨by decide +kernel, by decide +kernel, by decide +kernel, by decide +kernel, by decide +kernel, z_gd (z_t3 171 (by rfl)) rfl, z_tb (z_t1 4 (by decide +kernel)) rfl⟩
theorem ivX5_send : Cond.instanceMethod (zNm mX5_send) ∈ zTb ∧ Cond.selects (zNm mX5_send).cls (zNm mX5_send) (zNm mX5_send) ∈ zTb := ⟨z_tb (z_t3 169 (by decide +kernel)) rfl, z_tb (z_t3 170 (by decide +kernel)) rfl⟩
def mX5_fateOfNext : zM := (yX5_fateOfNext, cX5_fateOfNext, 2, (some .int), 0, 0, 0, 0)
theorem okX5_fateOfNext : zOK mX5_fateOfNext 0 1 := ⟨by decide +kernel, by decide +kernel, by decide +kernel, by decide +kernel, by decide +kernel, z_gd (z_t3 175 (by rfl)) rfl, z_tb (z_t1 4 (by decide +kernel)) rfl⟩
theorem ivX5_fateOfNext : Cond.instanceMethod (zNm mX5_fateOfNext) ∈ zTb ∧ Cond.selects (zNm mX5_fateOfNext).cls (zNm mX5_fateOfNext) (zNm mX5_fateOfNext) ∈ zTb := ⟨z_tb (z_t3 174 (by decide +kernel)) rfl, z_tb (z_s 15 (by decide +kernel)) rfl⟩
def mX5_comingAt : zM := (yX5_comingAt, cX5_comingAt, 3, (some (.object "FleetYard$Message")), 0, 0, 0, 0)
theorem okX5_comingAt : zOK mX5_comingAt 2 3 := ⟨by decide +kernel, by decide +kernel, by decide +kernel, by decide +kernel, by decide +kernel, z_gd (z_t3 131 (by rfl)) rfl, z_tb (z_t1 4 (by decide +kernel)) rfl⟩
theorem ivX5_comingAt : Cond.instanceMethod (zNm mX5_comingAt) ∈ zTb ∧ Cond.selects (zNm mX5_comingAt).cls (zNm mX5_comingAt) (zNm mX5_comingAt) ∈ zTb := ⟨z_tb (z_t3 129 (by decide +kernel)) rfl, z_tb (z_t3 130 (by decide +kernel)) rfl⟩
def mX5_forgetCome : zM := (yX5_forgetCome, cX5_forgetCome, 5, none, 0, 0, 0, 0)
theorem okX5_forgetCome : zOK mX5_forgetCome 1 2 := ⟨by decide +kernel, by decide +kernel, by decide +kernel, by decide +kernel, by decide +kernel, z_gd (z_t3 155 (by rfl)) rfl, z_tb (z_t1 4 (by decide +kernel)) rfl⟩
theorem ivX5_forgetCome : Cond.instanceMethod (zNm mX5_forgetCome) ∈ zTb ∧ Cond.selects (zNm mX5_forgetCome).cls (zNm mX5_forgetCome) (zNm mX5_forgetCome) ∈ zTb := ⟨z_tb (z_t3 153 (by decide +kernel)) rfl, z_tb (z_t3 154 (by decide +kernel)) rfl⟩
def mX5_comingsOnTheWay : zM := (yX5_comingsOnTheWay, cX5_comingsOnTheWay, 3, (some .int), 0, 0, 0, 0)
theorem okX5_comingsOnTheWay : zOK mX5_comingsOnTheWay 0 1 := ⟨by decide +kernel, by decide +kernel, by decide +kernel, by decide +kernel, by decide +kernel, z_gd (z_t4 184 (by rfl)) rfl, z_tb (z_t1 4 (by decide +kernel)) rfl⟩
theorem ivX5_comingsOnTheWay : Cond.instanceMethod (zNm mX5_comingsOnTheWay) ∈ zTb ∧ Cond.selects (zNm mX5_comingsOnTheWay).cls (zNm mX5_comingsOnTheWay) (zNm mX5_comingsOnTheWay) ∈ zTb := ⟨z_tb (z_t4 182 (by decide +kernel)) rfl, z_tb (z_t4 183 (by decide +kernel)) rfl⟩
def mX6_init : zM := (yX6_init, cX6_init, 1, none, 1, 20, 3, 903)
theorem okX6_init : zOK mX6_init 0 1 := ⟨by decide +kernel, by decide +kernel, by decide +kernel, by decide +kernel, by decide +kernel, z_gd (z_t1 233 (by rfl)) rfl, z_tb (z_t1 10 (by decide +kernel)) rfl⟩
theorem ivX6_init : Cond.instanceMethod (zNm mX6_init) ∈ zTb := z_tb (z_t1 232 (by decide +kernel)) rfl
def mX6_begin : zM := (yX6_begin, cX6_begin, 3, none, 0, 0, 0, 0)
theorem okX6_begin : zOK mX6_begin 2 3 := ⟨by decide +kernel, by decide +kernel, by decide +kernel, by decide +kernel, by decide +kernel, z_gd (z_t2 218 (by rfl)) rfl, z_tb (z_t1 10 (by decide +kernel)) rfl⟩
theorem ivX6_begin : Cond.instanceMethod (zNm mX6_begin) ∈ zTb ∧ Cond.selects (zNm mX6_begin).cls (zNm mX6_begin) (zNm mX6_begin) ∈ zTb := ⟨z_tb (z_t2 216 (by decide +kernel)) rfl, z_tb (z_t2 217 (by decide +kernel)) rfl⟩
def mX6_addMove : zM := (yX6_addMove, cX6_addMove, 2, none, 1, 21, 0, 0)
theorem okX6_addMove : zOK mX6_addMove 1 2 := ⟨by decide +kernel, by decide +kernel, by decide +kernel, by decide +kernel, by decide +kernel, z_gd (z_t4 46 (by rfl)) rfl, z_tb (z_t1 10 (by decide +kernel)) rfl⟩
theorem ivX6_addMove : Cond.instanceMethod (zNm mX6_addMove) ∈ zTb ∧ Cond.selects (zNm mX6_addMove).cls (zNm mX6_addMove) (zNm mX6_addMove) ∈ zTb := ⟨z_tb (z_t4 44 (by decide +kernel)) rfl, z_tb (z_t4 45 (by decide +kernel)) rfl⟩
def mX6_addWait : zM := (yX6_addWait, cX6_addWait, 2, none, 1, 21, 0, 0)
theorem okX6_addWait : zOK mX6_addWait 1 2 := ⟨by decide +kernel, by decide +kernel, by decide +kernel, by decide +kernel, by decide +kernel, z_gd (z_t4 62 (by rfl)) rfl, z_tb (z_t1 10 (by decide +kernel)) rfl⟩
theorem ivX6_addWait : Cond.instanceMethod (zNm mX6_addWait) ∈ zTb ∧ Cond.selects (zNm mX6_addWait).cls (zNm mX6_addWait) (zNm mX6_addWait) ∈ zTb := ⟨z_tb (z_t4 60 (by decide +kernel)) rfl, z_tb (z_t4 61 (by decide +kernel)) rfl⟩
def mX6_addTurn : zM := (yX6_addTurn, cX6_addTurn, 3, none, 1, 21, 0, 0)
theorem okX6_addTurn : zOK mX6_addTurn 2 3 := ⟨by decide +kernel, by decide +kernel, by decide +kernel, by decide +kernel, by decide +kernel, z_gd (z_t4 58 (by rfl)) rfl, z_tb (z_t1 10 (by decide +kernel)) rfl⟩
theorem ivX6_addTurn : Cond.instanceMethod (zNm mX6_addTurn) ∈ zTb ∧ Cond.selects (zNm mX6_addTurn).cls (zNm mX6_addTurn) (zNm mX6_addTurn) ∈ zTb := ⟨z_tb (z_t4 56 (by decide +kernel)) rfl, z_tb (z_t4 57 (by decide +kernel)) rfl⟩
def mX6_addStep : zM := (yX6_addStep, cX6_addStep, 2, (some .boolean), 0, 0, 0, 0)
theorem okX6_addStep : zOK mX6_addStep 1 2 := ⟨by decide +kernel, by decide +kernel, by decide +kernel, by decide +kernel, by decide +kernel, z_gd (z_t4 50 (by rfl)) rfl, z_tb (z_t1 10 (by decide +kernel)) rfl⟩
theorem ivX6_addStep : Cond.instanceMethod (zNm mX6_addStep) ∈ zTb ∧ Cond.selects (zNm mX6_addStep).cls (zNm mX6_addStep) (zNm mX6_addStep) ∈ zTb := ⟨z_tb (z_t4 49 (by decide +kernel)) rfl, z_tb (z_s 31 (by decide +kernel)) rfl⟩
def mX6_addAct : zM := (yX6_addAct, cX6_addAct, 2, none, 0, 0, 0, 0)
theorem okX6_addAct : zOK mX6_addAct 1 2 := ⟨by decide +kernel, by decide +kernel, by decide +kernel, by decide +kernel, by decide +kernel, z_gd (z_t4 54 (by rfl)) rfl, z_tb (z_t1 10 (by decide +kernel)) rfl⟩
theorem ivX6_addAct : Cond.instanceMethod (zNm mX6_addAct) ∈ zTb ∧ Cond.selects (zNm mX6_addAct).cls (zNm mX6_addAct) (zNm mX6_addAct) ∈ zTb := ⟨z_tb (z_t4 53 (by decide +kernel)) rfl, z_tb (z_s 32 (by decide +kernel)) rfl⟩
def mX6_lastMoment : zM := (yX6_lastMoment, cX6_lastMoment, 1, (some .int), 0, 0, 0, 0)
theorem okX6_lastMoment : zOK mX6_lastMoment 0 1 := ⟨by decide +kernel, by decide +kernel, by decide +kernel, by decide +kernel, by decide +kernel, z_gd (z_t4 70 (by rfl)) rfl, z_tb (z_t1 10 (by decide +kernel)) rfl⟩
theorem ivX6_lastMoment : Cond.instanceMethod (zNm mX6_lastMoment) ∈ zTb ∧ Cond.selects (zNm mX6_lastMoment).cls (zNm mX6_lastMoment) (zNm mX6_lastMoment) ∈ zTb := ⟨z_tb (z_t4 68 (by decide +kernel)) rfl, z_tb (z_t4 69 (by decide +kernel)) rfl⟩
def mX6_cellAt : zM := (yX6_cellAt, cX6_cellAt, 3, (some .int), 0, 0, 0, 0)
theorem okX6_cellAt : zOK mX6_cellAt 1 2 := ⟨by decide +kernel, by decide +kernel, by decide +kernel, by decide +kernel, by decide +kernel, z_gd (z_t4 8 (by rfl)) rfl, z_tb (z_t1 10 (by decide +kernel)) rfl⟩
theorem ivX6_cellAt : Cond.instanceMethod (zNm mX6_cellAt) ∈ zTb ∧ Cond.selects (zNm mX6_cellAt).cls (zNm mX6_cellAt) (zNm mX6_cellAt) ∈ zTb := ⟨z_tb (z_t4 6 (by decide +kernel)) rfl, z_tb (z_t4 7 (by decide +kernel)) rfl⟩
def mX6_hasAct : zM := (yX6_hasAct, cX6_hasAct, 2, (some .boolean), 0, 0, 0, 0)
theorem okX6_hasAct : zOK mX6_hasAct 1 2 := ⟨by decide +kernel, by decide +kernel, by decide +kernel, by decide +kernel, by decide +kernel, z_gd (z_t4 87 (by rfl)) rfl, z_tb (z_t1 10 (by decide +kernel)) rfl⟩
theorem ivX6_hasAct : Cond.instanceMethod (zNm mX6_hasAct) ∈ zTb ∧ Cond.selects (zNm mX6_hasAct).cls (zNm mX6_hasAct) (zNm mX6_hasAct) ∈ zTb := ⟨z_tb (z_t4 85 (by decide +kernel)) rfl, z_tb (z_t4 86 (by decide +kernel)) rfl⟩
def mX6_cellOfAct : zM := (yX6_cellOfAct, cX6_cellOfAct, 2, (some .int), 1, 21, 0, 0)
theorem okX6_cellOfAct : zOK mX6_cellOfAct 1 2 := ⟨by decide +kernel, by decide +kernel, by decide +kernel, by decide +kernel, by decide +kernel, z_gd (z_t4 101 (by rfl)) rfl, z_tb (z_t1 10 (by decide +kernel)) rfl⟩
theorem ivX6_cellOfAct : Cond.instanceMethod (zNm mX6_cellOfAct) ∈ zTb ∧ Cond.selects (zNm mX6_cellOfAct).cls (zNm mX6_cellOfAct) (zNm mX6_cellOfAct) ∈ zTb := ⟨z_tb (z_t4 99 (by decide +kernel)) rfl, z_tb (z_t4 100 (by decide +kernel)) rfl⟩
def mX6_momentOfAct : zM := (yX6_momentOfAct, cX6_momentOfAct, 2, (some .int), 1, 21, 0, 0)
theorem okX6_momentOfAct : zOK mX6_momentOfAct 1 2 := ⟨by decide +kernel, by decide +kernel, by decide +kernel, by decide +kernel, by decide +kernel, z_gd (z_t4 96 (by rfl)) rfl, z_tb (z_t1 10 (by decide +kernel)) rfl⟩
theorem ivX6_momentOfAct : Cond.instanceMethod (zNm mX6_momentOfAct) ∈ zTb ∧ Cond.selects (zNm mX6_momentOfAct).cls (zNm mX6_momentOfAct) (zNm mX6_momentOfAct) ∈ zTb := ⟨z_tb (z_t4 94 (by decide +kernel)) rfl, z_tb (z_t4 95 (by decide +kernel)) rfl⟩
def mX6_stageAfter : zM := (yX6_stageAfter, cX6_stageAfter, 2, (some .int), 0, 0, 0, 0)
theorem okX6_stageAfter : zOK mX6_stageAfter 1 2 := ⟨by decide +kernel, by decide +kernel, by decide +kernel, by decide +kernel, by decide +kernel, z_gd (z_t4 151 (by rfl)) rfl, z_tb (z_t1 10 (by decide +kernel)) rfl⟩
theorem ivX6_stageAfter : Cond.instanceMethod (zNm mX6_stageAfter) ∈ zTb ∧ Cond.selects (zNm mX6_stageAfter).cls (zNm mX6_stageAfter) (zNm mX6_stageAfter) ∈ zTb := ⟨z_tb (z_t4 149 (by decide +kernel)) rfl, z_tb (z_t4 150 (by decide +kernel)) rfl⟩
def mX7_init : zM := (yX7_init, cX7_init, 1, none, 1, 20, 1, 400)
theorem okX7_init : zOK mX7_init 0 1 := ⟨by decide +kernel, by decide +kernel, by decide +kernel, by decide +kernel, by decide +kernel, z_gd (z_t1 28 (by rfl)) rfl, z_tb (z_t1 2 (by decide +kernel)) rfl⟩
theorem ivX7_init : Cond.instanceMethod (zNm mX7_init) ∈ zTb := z_tb (z_t1 27 (by decide +kernel)) rfl
def mX7_hasRoomForFive : zM := (yX7_hasRoomForFive, cX7_hasRoomForFive, 1, (some .boolean), 0, 0, 0, 0)
theorem okX7_hasRoomForFive : zOK mX7_hasRoomForFive 0 1 := ⟨by decide +kernel, by decide +kernel, by decide +kernel, by decide +kernel, by decide +kernel, z_gd (z_t3 25 (by rfl)) rfl, z_tb (z_t1 2 (by decide +kernel)) rfl⟩
theorem ivX7_hasRoomForFive : Cond.instanceMethod (zNm mX7_hasRoomForFive) ∈ zTb ∧ Cond.selects (zNm mX7_hasRoomForFive).cls (zNm mX7_hasRoomForFive) (zNm mX7_hasRoomForFive) ∈ zTb := ⟨z_tb (z_t3 23 (by decide +kernel)) rfl, z_tb (z_t3 24 (by decide +kernel)) rfl⟩
def mX7_addWord : zM := (yX7_addWord, cX7_addWord, 3, none, 0, 0, 0, 0)
theorem okX7_addWord : zOK mX7_addWord 1 2 := ⟨by decide +kernel, by decide +kernel, by decide +kernel, by decide +kernel, by decide +kernel, z_gd (z_t3 29 (by rfl)) rfl, z_tb (z_t1 2 (by decide +kernel)) rfl⟩
theorem ivX7_addWord : Cond.instanceMethod (zNm mX7_addWord) ∈ zTb ∧ Cond.selects (zNm mX7_addWord).cls (zNm mX7_addWord) (zNm mX7_addWord) ∈ zTb := ⟨z_tb (z_t3 27 (by decide +kernel)) rfl, z_tb (z_t3 28 (by decide +kernel)) rfl⟩
def mX8_init : zM := (yX8_init, cX8_init, 1, none, 1, 20, 5, 300)
theorem okX8_init : zOK mX8_init 0 1 := ⟨by decide +kernel, by decide +kernel, by decide +kernel, by decide +kernel, by decide +kernel, z_gd (z_t1 133 (by rfl)) rfl, z_tb (z_t1 6 (by decide +kernel)) rfl⟩
theorem ivX8_init : Cond.instanceMethod (zNm mX8_init) ∈ zTb := z_tb (z_t1 132 (by decide +kernel)) rfl
def mX8_clear : zM := (yX8_clear, cX8_clear, 1, none, 0, 0, 0, 0)
theorem okX8_clear : zOK mX8_clear 0 1 := ⟨by decide +kernel, by decide +kernel, by decide +kernel, by decide +kernel, by decide +kernel, z_gd (z_t2 188 (by rfl)) rfl, z_tb (z_t1 6 (by decide +kernel)) rfl⟩
theorem ivX8_clear : Cond.instanceMethod (zNm mX8_clear) ∈ zTb ∧ Cond.selects (zNm mX8_clear).cls (zNm mX8_clear) (zNm mX8_clear) ∈ zTb := ⟨z_tb (z_t2 186 (by decide +kernel)) rfl, z_tb (z_t2 187 (by decide +kernel)) rfl⟩
def mX8_add : zM := (yX8_add, cX8_add, 3, (some .int), 0, 0, 0, 0)
theorem okX8_add : zOK mX8_add 2 3 := ⟨by decide +kernel, by decide +kernel, by decide +kernel, by decide +kernel, by decide +kernel, z_gd (z_t3 119 (by rfl)) rfl, z_tb (z_t1 6 (by decide +kernel)) rfl⟩
theorem ivX8_add : Cond.instanceMethod (zNm mX8_add) ∈ zTb ∧ Cond.selects (zNm mX8_add).cls (zNm mX8_add) (zNm mX8_add) ∈ zTb := ⟨z_tb (z_t3 117 (by decide +kernel)) rfl, z_tb (z_t3 118 (by decide +kernel)) rfl⟩
def mX8_has : zM := (yX8_has, cX8_has, 2, (some .boolean), 0, 0, 0, 0)
theorem okX8_has : zOK mX8_has 1 2 := ⟨by decide +kernel, by decide +kernel, by decide +kernel, by decide +kernel, by decide +kernel, z_gd (z_t3 199 (by rfl)) rfl, z_tb (z_t1 6 (by decide +kernel)) rfl⟩
theorem ivX8_has : Cond.instanceMethod (zNm mX8_has) ∈ zTb ∧ Cond.selects (zNm mX8_has).cls (zNm mX8_has) (zNm mX8_has) ∈ zTb := ⟨z_tb (z_t3 197 (by decide +kernel)) rfl, z_tb (z_t3 198 (by decide +kernel)) rfl⟩
def mX8_give : zM := (yX8_give, cX8_give, 4, none, 1, 21, 0, 0)
theorem okX8_give : zOK mX8_give 3 4 := ⟨by decide +kernel, by decide +kernel, by decide +kernel, by decide +kernel, by decide +kernel, z_gd (z_t4 78 (by rfl)) rfl, z_tb (z_t1 6 (by decide +kernel)) rfl⟩
theorem ivX8_give : Cond.instanceMethod (zNm mX8_give) ∈ zTb ∧ Cond.selects (zNm mX8_give).cls (zNm mX8_give) (zNm mX8_give) ∈ zTb := ⟨z_tb (z_t4 76 (by decide +kernel)) rfl, z_tb (z_t4 77 (by decide +kernel)) rfl⟩
def mX8_finish : zM := (yX8_finish, cX8_finish, 3, none, 1, 21, 0, 0)
theorem okX8_finish : zOK mX8_finish 2 3 := ⟨by decide +kernel, by decide +kernel, by decide +kernel, by decide +kernel, by decide +kernel, z_gd (z_t3 195 (by rfl)) rfl, z_tb (z_t1 6 (by decide +kernel)) rfl⟩
theorem ivX8_finish : Cond.instanceMethod (zNm mX8_finish) ∈ zTb ∧ Cond.selects (zNm mX8_finish).cls (zNm mX8_finish) (zNm mX8_finish) ∈ zTb := ⟨z_tb (z_t3 193 (by decide +kernel)) rfl, z_tb (z_t3 194 (by decide +kernel)) rfl⟩
def mX8_answer : zM := (yX8_answer, cX8_answer, 3, (some .int), 1, 21, 0, 0)
theorem okX8_answer : zOK mX8_answer 2 3 := ⟨by decide +kernel, by decide +kernel, by decide +kernel, by decide +kernel, by decide +kernel, z_gd (z_t4 176 (by rfl)) rfl, z_tb (z_t1 6 (by decide +kernel)) rfl⟩
theorem ivX8_answer : Cond.instanceMethod (zNm mX8_answer) ∈ zTb ∧ Cond.selects (zNm mX8_answer).cls (zNm mX8_answer) (zNm mX8_answer) ∈ zTb := ⟨z_tb (z_t4 174 (by decide +kernel)) rfl, z_tb (z_t4 175 (by decide +kernel)) rfl⟩
def mX9_init : zM := (yX9_init, cX9_init, 1, none, 1, 20, 0, 0)
theorem okX9_init : zOK mX9_init 0 1 := ⟨by decide +kernel, by decide +kernel, by decide +kernel, by decide +kernel, by decide +kernel, z_gd (z_t2 127 (by rfl)) rfl, z_tb (z_t1 12 (by decide +kernel)) rfl⟩
theorem ivX9_init : Cond.instanceMethod (zNm mX9_init) ∈ zTb := z_tb (z_t2 126 (by decide +kernel)) rfl
def mX9_beginAnew : zM := (yX9_beginAnew, cX9_beginAnew, 2, none, 0, 0, 0, 0)
theorem okX9_beginAnew : zOK mX9_beginAnew 1 2 := ⟨by decide +kernel, by decide +kernel, by decide +kernel, by decide +kernel, by decide +kernel, z_gd (z_t2 223 (by rfl)) rfl, z_tb (z_t1 12 (by decide +kernel)) rfl⟩
theorem ivX9_beginAnew : Cond.instanceMethod (zNm mX9_beginAnew) ∈ zTb ∧ Cond.selects (zNm mX9_beginAnew).cls (zNm mX9_beginAnew) (zNm mX9_beginAnew) ∈ zTb := ⟨z_tb (z_t2 221 (by decide +kernel)) rfl, z_tb (z_t2 222 (by decide +kernel)) rfl⟩
def mX9_halts : zM := (yX9_halts, cX9_halts, 1, (some .boolean), 0, 0, 0, 0)
theorem okX9_halts : zOK mX9_halts 0 1 := ⟨by decide +kernel, by decide +kernel, by decide +kernel, by decide +kernel, by decide +kernel, z_gd (z_t3 167 (by rfl)) rfl, z_tb (z_t1 12 (by decide +kernel)) rfl⟩
theorem ivX9_halts : Cond.instanceMethod (zNm mX9_halts) ∈ zTb ∧ Cond.selects (zNm mX9_halts).cls (zNm mX9_halts) (zNm mX9_halts) ∈ zTb := ⟨z_tb (z_t3 165 (by decide +kernel)) rfl, z_tb (z_t3 166 (by decide +kernel)) rfl⟩
def mX9_hear : zM := (yX9_hear, cX9_hear, 4, none, 0, 0, 0, 0)
theorem okX9_hear : zOK mX9_hear 1 2 := ⟨by decide +kernel, by decide +kernel, by decide +kernel, by decide +kernel, by decide +kernel, z_gd (z_t3 147 (by rfl)) rfl, z_tb (z_t1 12 (by decide +kernel)) rfl⟩
theorem ivX9_hear : Cond.instanceMethod (zNm mX9_hear) ∈ zTb ∧ Cond.selects (zNm mX9_hear).cls (zNm mX9_hear) (zNm mX9_hear) ∈ zTb := ⟨z_tb (z_t3 145 (by decide +kernel)) rfl, z_tb (z_t3 146 (by decide +kernel)) rfl⟩
def mX9_obey : zM := (yX9_obey, cX9_obey, 1, (some .boolean), 1, 20, 0, 0)
theorem okX9_obey : zOK mX9_obey 0 1 := ⟨by decide +kernel, by decide +kernel, by decide +kernel, by decide +kernel, by decide +kernel, z_gd (z_t3 163 (by rfl)) rfl, z_tb (z_t1 12 (by decide +kernel)) rfl⟩
theorem ivX9_obey : Cond.instanceMethod (zNm mX9_obey) ∈ zTb ∧ Cond.selects (zNm mX9_obey).cls (zNm mX9_obey) (zNm mX9_obey) ∈ zTb := ⟨z_tb (z_t3 161 (by decide +kernel)) rfl, z_tb (z_t3 162 (by decide +kernel)) rfl⟩
def mX10_init : zM := (yX10_init, cX10_init, 1, none, 1, 20, 5, 1552)
theorem okX10_init : zOK mX10_init 0 1 := ⟨by decide +kernel, by decide +kernel, by decide +kernel, by decide +kernel, by decide +kernel, z_gd (z_t2 82 (by rfl)) rfl, z_tb (z_t1 11 (by decide +kernel)) rfl⟩
theorem ivX10_init : Cond.instanceMethod (zNm mX10_init) ∈ zTb := z_tb (z_t2 81 (by decide +kernel)) rfl
def mX10_clear : zM := (yX10_clear, cX10_clear, 1, none, 0, 0, 0, 0)
theorem okX10_clear : zOK mX10_clear 0 1 := ⟨by decide +kernel, by decide +kernel, by decide +kernel, by decide +kernel, by decide +kernel, z_gd (z_t3 45 (by rfl)) rfl, z_tb (z_t1 11 (by decide +kernel)) rfl⟩
theorem ivX10_clear : Cond.instanceMethod (zNm mX10_clear) ∈ zTb ∧ Cond.selects (zNm mX10_clear).cls (zNm mX10_clear) (zNm mX10_clear) ∈ zTb := ⟨z_tb (z_t3 43 (by decide +kernel)) rfl, z_tb (z_t3 44 (by decide +kernel)) rfl⟩
def mX10_addCell : zM := (yX10_addCell, cX10_addCell, 2, none, 1, 20, 0, 0)
theorem okX10_addCell : zOK mX10_addCell 1 2 := ⟨by decide +kernel, by decide +kernel, by decide +kernel, by decide +kernel, by decide +kernel, z_gd (z_t2 156 (by rfl)) rfl, z_tb (z_t1 11 (by decide +kernel)) rfl⟩
theorem ivX10_addCell : Cond.instanceMethod (zNm mX10_addCell) ∈ zTb ∧ Cond.selects (zNm mX10_addCell).cls (zNm mX10_addCell) (zNm mX10_addCell) ∈ zTb := ⟨z_tb (z_t2 154 (by decide +kernel)) rfl, z_tb (z_t2 155 (by decide +kernel)) rfl⟩
def mX10_addStation : zM := (yX10_addStation, cX10_addStation, 1, none, 0, 0, 0, 0)
theorem okX10_addStation : zOK mX10_addStation 0 1 := ⟨by decide +kernel, by decide +kernel, by decide +kernel, by decide +kernel, by decide +kernel, z_gd (z_t2 160 (by rfl)) rfl, z_tb (z_t1 11 (by decide +kernel)) rfl⟩
theorem ivX10_addStation : Cond.instanceMethod (zNm mX10_addStation) ∈ zTb ∧ Cond.selects (zNm mX10_addStation).cls (zNm mX10_addStation) (zNm mX10_addStation) ∈ zTb := ⟨z_tb (z_t2 159 (by decide +kernel)) rfl, z_tb (z_s 0 (by decide +kernel)) rfl⟩
def mX10_addParking : zM := (yX10_addParking, cX10_addParking, 1, none, 0, 0, 0, 0)
theorem okX10_addParking : zOK mX10_addParking 0 1 := ⟨by decide +kernel, by decide +kernel, by decide +kernel, by decide +kernel, by decide +kernel, z_gd (z_t2 164 (by rfl)) rfl, z_tb (z_t1 11 (by decide +kernel)) rfl⟩
theorem ivX10_addParking : Cond.instanceMethod (zNm mX10_addParking) ∈ zTb ∧ Cond.selects (zNm mX10_addParking).cls (zNm mX10_addParking) (zNm mX10_addParking) ∈ zTb := ⟨z_tb (z_t2 163 (by decide +kernel)) rfl, z_tb (z_s 1 (by decide +kernel)) rfl⟩
def mX10_hasCell : zM := (yX10_hasCell, cX10_hasCell, 2, (some .boolean), 0, 0, 0, 0)
theorem okX10_hasCell : zOK mX10_hasCell 1 2 := ⟨by decide +kernel, by decide +kernel, by decide +kernel, by decide +kernel, by decide +kernel, z_gd (z_t2 180 (by rfl)) rfl, z_tb (z_t1 11 (by decide +kernel)) rfl⟩
theorem ivX10_hasCell : Cond.instanceMethod (zNm mX10_hasCell) ∈ zTb ∧ Cond.selects (zNm mX10_hasCell).cls (zNm mX10_hasCell) (zNm mX10_hasCell) ∈ zTb := ⟨z_tb (z_t2 178 (by decide +kernel)) rfl, z_tb (z_t2 179 (by decide +kernel)) rfl⟩
def mX10_kindOf : zM := (yX10_kindOf, cX10_kindOf, 2, (some .int), 1, 21, 0, 0)
theorem okX10_kindOf : zOK mX10_kindOf 1 2 := ⟨by decide +kernel, by decide +kernel, by decide +kernel, by decide +kernel, by decide +kernel, z_gd (z_t2 176 (by rfl)) rfl, z_tb (z_t1 11 (by decide +kernel)) rfl⟩
theorem ivX10_kindOf : Cond.instanceMethod (zNm mX10_kindOf) ∈ zTb ∧ Cond.selects (zNm mX10_kindOf).cls (zNm mX10_kindOf) (zNm mX10_kindOf) ∈ zTb := ⟨z_tb (z_t2 174 (by decide +kernel)) rfl, z_tb (z_t2 175 (by decide +kernel)) rfl⟩
def mX10_ordinalOf : zM := (yX10_ordinalOf, cX10_ordinalOf, 2, (some .int), 1, 21, 0, 0)
theorem okX10_ordinalOf : zOK mX10_ordinalOf 1 2 := ⟨by decide +kernel, by decide +kernel, by decide +kernel, by decide +kernel, by decide +kernel, z_gd (z_t4 126 (by rfl)) rfl, z_tb (z_t1 11 (by decide +kernel)) rfl⟩
theorem ivX10_ordinalOf : Cond.instanceMethod (zNm mX10_ordinalOf) ∈ zTb ∧ Cond.selects (zNm mX10_ordinalOf).cls (zNm mX10_ordinalOf) (zNm mX10_ordinalOf) ∈ zTb := ⟨z_tb (z_t4 124 (by decide +kernel)) rfl, z_tb (z_t4 125 (by decide +kernel)) rfl⟩
def mX10_isEndpoint : zM := (yX10_isEndpoint, cX10_isEndpoint, 3, (some .boolean), 2, 42, 0, 0)
theorem okX10_isEndpoint : zOK mX10_isEndpoint 1 2 := ⟨by decide +kernel, by decide +kernel, by decide +kernel, by decide +kernel, by decide +kernel, z_gd (z_t3 73 (by rfl)) rfl, z_tb (z_t1 11 (by decide +kernel)) rfl⟩
theorem ivX10_isEndpoint : Cond.instanceMethod (zNm mX10_isEndpoint) ∈ zTb ∧ Cond.selects (zNm mX10_isEndpoint).cls (zNm mX10_isEndpoint) (zNm mX10_isEndpoint) ∈ zTb := ⟨z_tb (z_t3 71 (by decide +kernel)) rfl, z_tb (z_t3 72 (by decide +kernel)) rfl⟩
def mX10_stationCell : zM := (yX10_stationCell, cX10_stationCell, 2, (some .int), 0, 0, 0, 0)
theorem okX10_stationCell : zOK mX10_stationCell 1 2 := ⟨by decide +kernel, by decide +kernel, by decide +kernel, by decide +kernel, by decide +kernel, z_gd (z_t3 115 (by rfl)) rfl, z_tb (z_t1 11 (by decide +kernel)) rfl⟩
theorem ivX10_stationCell : Cond.instanceMethod (zNm mX10_stationCell) ∈ zTb ∧ Cond.selects (zNm mX10_stationCell).cls (zNm mX10_stationCell) (zNm mX10_stationCell) ∈ zTb := ⟨z_tb (z_t3 113 (by decide +kernel)) rfl, z_tb (z_t3 114 (by decide +kernel)) rfl⟩
def mX10_parkingCell : zM := (yX10_parkingCell, cX10_parkingCell, 2, (some .int), 0, 0, 0, 0)
theorem okX10_parkingCell : zOK mX10_parkingCell 1 2 := ⟨by decide +kernel, by decide +kernel, by decide +kernel, by decide +kernel, by decide +kernel, z_gd (z_t2 210 (by rfl)) rfl, z_tb (z_t1 11 (by decide +kernel)) rfl⟩
theorem ivX10_parkingCell : Cond.instanceMethod (zNm mX10_parkingCell) ∈ zTb ∧ Cond.selects (zNm mX10_parkingCell).cls (zNm mX10_parkingCell) (zNm mX10_parkingCell) ∈ zTb := ⟨z_tb (z_t2 208 (by decide +kernel)) rfl, z_tb (z_t2 209 (by decide +kernel)) rfl⟩
def mX10_joinCells : zM := (yX10_joinCells, cX10_joinCells, 4, none, 2, 42, 0, 0)
theorem okX10_joinCells : zOK mX10_joinCells 0 1 := ⟨by decide +kernel, by decide +kernel, by decide +kernel, by decide +kernel, by decide +kernel, z_gd (z_t2 168 (by rfl)) rfl, z_tb (z_t1 11 (by decide +kernel)) rfl⟩
theorem ivX10_joinCells : Cond.instanceMethod (zNm mX10_joinCells) ∈ zTb ∧ Cond.selects (zNm mX10_joinCells).cls (zNm mX10_joinCells) (zNm mX10_joinCells) ∈ zTb := ⟨z_tb (z_t2 166 (by decide +kernel)) rfl, z_tb (z_t2 167 (by decide +kernel)) rfl⟩
def mX10_cellBeside : zM := (yX10_cellBeside, cX10_cellBeside, 4, (some .int), 0, 0, 0, 0)
theorem okX10_cellBeside : zOK mX10_cellBeside 2 3 := ⟨by decide +kernel, by decide +kernel, by decide +kernel, by decide +kernel, by decide +kernel, z_gd (z_t2 172 (by rfl)) rfl, z_tb (z_t1 11 (by decide +kernel)) rfl⟩
theorem ivX10_cellBeside : Cond.instanceMethod (zNm mX10_cellBeside) ∈ zTb ∧ Cond.selects (zNm mX10_cellBeside).cls (zNm mX10_cellBeside) (zNm mX10_cellBeside) ∈ zTb := ⟨z_tb (z_t2 171 (by decide +kernel)) rfl, z_tb (z_s 2 (by decide +kernel)) rfl⟩
def mX10_neighbour : zM := (yX10_neighbour, cX10_neighbour, 4, (some .int), 1, 21, 0, 0)
theorem okX10_neighbour : zOK mX10_neighbour 2 3 := ⟨by decide +kernel, by decide +kernel, by decide +kernel, by decide +kernel, by decide +kernel, z_gd (z_t3 90 (by rfl)) rfl, z_tb (z_t1 11 (by decide +kernel)) rfl⟩
theorem ivX10_neighbour : Cond.instanceMethod (zNm mX10_neighbour) ∈ zTb ∧ Cond.selects (zNm mX10_neighbour).cls (zNm mX10_neighbour) (zNm mX10_neighbour) ∈ zTb := ⟨z_tb (z_t3 88 (by decide +kernel)) rfl, z_tb (z_t3 89 (by decide +kernel)) rfl⟩
def mL_law : zM := (yL_law, cL_law, 4, (some .boolean), 8, 197, 600000, 7302250)
def mJ7_fill_53178 : zM := (yJ7_fill_53178, cJ7_fill_53178, 4, none, 0, 0, 0, 0)
theorem okJ7_fill_53178 : zOK mJ7_fill_53178 2 2 := ⟨by decide +kernel, by decide +kernel, by decide +kernel, by decide +kernel, by decide +kernel, z_gd (z_t2 199 (by rfl)) rfl, z_tb (z_t1 13 (by decide +kernel)) rfl⟩
theorem ivJ7_fill_53178 : Cond.static (zNm mJ7_fill_53178) ∈ zTb := z_tb (z_t2 198 (by decide +kernel)) rfl
theorem l_mmc : Cond.code Lib.Math.min.name Lib.Math.min.code 2 (some .int) ∈ zTb := z_tb (z_t2 206 (by decide +kernel)) rfl
theorem l_mms : Cond.static Lib.Math.min.name ∈ zTb := z_tb (z_t2 205 (by decide +kernel)) rfl
theorem l_mmi : Cond.initialized "java/lang/Math" ∈ zTb := z_tb (z_t1 14 (by decide +kernel)) rfl
section ZR
variable {y : zM} {pc : Nat} {ls : List (Option zV)} {st : List zV} {n ac av : Nat} {hi : zI} {hr : zR} {Q : zQ}
theorem VP.mmin {a b : Int} {index : Nat} (hd : decode (zBy y) pc = .ok (.invokestatic index, 3)) (hl : Cond.methodLink (zNm y).cls index Lib.Math.min.name ∈ zTb) (hR : 1 ≤ zFr y ∧ 21 ≤ zLo y) (hst : st.length ≤ 8) (k : VP y (pc + 3) ls (.inl (if b < a then b else a) :: st) n ac av hi hr Q) : VP y pc ls (.inl b :: .inl a :: st) n ac av hi hr Q := by
  intro p l e s m args below meth c H locs cells slots D cy B lsr C L S G
  obtain ⟨hb, S1⟩ := List.forall_mem_cons.mp S
  obtain ⟨ha, S2⟩ := List.forall_mem_cons.mp S1
  have hts := C.2.2.2.2.2.1
  have K := k p l e s m args below meth c H locs cells slots D cy B lsr C L (zok_cons (v := .inl (if b < a then b else a)) (by show zInR _; split <;> assumption) S2) G
  have K2 : W p l e (zRm y) s m args below meth c H locs cells slots _ (F0 m (pc + 3) lsr (.int (Int32.ofInt (if b < a then b else a)) :: st.map (zv B))) := K
  refine va_mmin C.1 C.2.1 (C.2.2.2.1.trans L.2.1.1.symm) C.2.2.2.2.1 (hts _ hl) (hts _ l_mms) (hts _ l_mmi) (hts _ l_mmc) hR.1 (by rw [z_cats]; show st.length + 13 ≤ zLo y; omega) (by have := G.2.2.2.2.2.2.1; show cells ≤ zMc y; omega) (by have := G.2.2.2.2.2.2.2; show slots ≤ zMs y; omega) hd ?_
  have e2 : (if Int32.ofInt b < Int32.ofInt a then Int32.ofInt b else Int32.ofInt a) = Int32.ofInt (if b < a then b else a) := by
    by_cases h : b < a
    · rw [if_pos h, if_pos ((z_lt hb ha).mpr h)]
    · rw [if_neg h, if_neg (fun q => h ((z_lt hb ha).mp q))]
  rw [e2]
  exact K2
theorem WP.mmin {Q : zP} {a b : Int} {index : Nat} (hd : decode (zBy y) pc = .ok (.invokestatic index, 3)) (hl : Cond.methodLink (zNm y).cls index Lib.Math.min.name ∈ zTb) (hR : 1 ≤ zFr y ∧ 21 ≤ zLo y) (hst : st.length ≤ 8) (k : WP y (pc + 3) ls (.inl (if b < a then b else a) :: st) hi hr Q) : WP y pc ls (.inl b :: .inl a :: st) hi hr Q := fun n av => VP.mmin hd hl hR hst (k n av)
end ZR
end
