section
-- ===== PART A: goes FIRST, ahead of the names: the tables' words, and 'selects' of the private methods out of them =====
/-- a private method of a class that the tables say can be made, by its rows of tables_1 -/
def lw_okq (q : MethodName × Nat) : Prop := (q.1.cls ≠ "java/lang/invoke/MethodHandle" ∧ q.1.cls ≠ "java/lang/invoke/VarHandle") ∧ Cond.instantiable q.1.cls q.2 ∈ tables_1 ∧ Cond.privateMethod q.1 ∈ tables_1 ∧ Cond.instanceMethod q.1 ∈ tables_1
theorem lw_p0 : lw_okq (⟨"RadioRoom$Dial", "gather", "(III)V"⟩, 5) := ⟨⟨by decide +kernel, by decide +kernel⟩, List.mem_of_getElem? (i := 20) (by decide +kernel), List.mem_of_getElem? (i := 226) (by decide +kernel), List.mem_of_getElem? (i := 227) (by decide +kernel)⟩
theorem lw_p1 : lw_okq (⟨"RadioRoom$Dial", "gatherSums", "(IIIII)V"⟩, 5) := ⟨⟨by decide +kernel, by decide +kernel⟩, List.mem_of_getElem? (i := 20) (by decide +kernel), List.mem_of_getElem? (i := 235) (by decide +kernel), List.mem_of_getElem? (i := 236) (by decide +kernel)⟩
theorem lw_p2 : lw_okq (⟨"RadioRoom$Dial", "fallsOn", "(II)Z"⟩, 5) := ⟨⟨by decide +kernel, by decide +kernel⟩, List.mem_of_getElem? (i := 20) (by decide +kernel), List.mem_of_getElem? (i := 239) (by decide +kernel), List.mem_of_getElem? (i := 240) (by decide +kernel)⟩
theorem lw_p3 : lw_okq (⟨"RadioRoom$Tracking", "signalTuned", "(I)I"⟩, 10) := ⟨⟨by decide +kernel, by decide +kernel⟩, List.mem_of_getElem? (i := 68) (by decide +kernel), List.mem_of_getElem? (i := 350) (by decide +kernel), List.mem_of_getElem? (i := 351) (by decide +kernel)⟩
theorem lw_p4 : lw_okq (⟨"RadioRoom$Tracking", "capacityAt", "(I)I"⟩, 10) := ⟨⟨by decide +kernel, by decide +kernel⟩, List.mem_of_getElem? (i := 68) (by decide +kernel), List.mem_of_getElem? (i := 354) (by decide +kernel), List.mem_of_getElem? (i := 355) (by decide +kernel)⟩
theorem lw_p5 : lw_okq (⟨"RadioRoom$Tracking", "indexOfPoint", "(I)I"⟩, 10) := ⟨⟨by decide +kernel, by decide +kernel⟩, List.mem_of_getElem? (i := 68) (by decide +kernel), List.mem_of_getElem? (i := 389) (by decide +kernel), List.mem_of_getElem? (i := 390) (by decide +kernel)⟩
theorem lw_p6 : lw_okq (⟨"RadioRoom$Tracking", "prepareTrim", "()V"⟩, 10) := ⟨⟨by decide +kernel, by decide +kernel⟩, List.mem_of_getElem? (i := 68) (by decide +kernel), List.mem_of_getElem? (i := 411) (by decide +kernel), List.mem_of_getElem? (i := 412) (by decide +kernel)⟩
theorem lw_p7 : lw_okq (⟨"RadioRoom$Tracking", "rankOfTrim", "(II)J"⟩, 10) := ⟨⟨by decide +kernel, by decide +kernel⟩, List.mem_of_getElem? (i := 68) (by decide +kernel), List.mem_of_getElem? (i := 416) (by decide +kernel), List.mem_of_getElem? (i := 417) (by decide +kernel)⟩
theorem lw_p8 : lw_okq (⟨"RadioRoom$Bench", "find", "(I)LRadioRoom$RadioSet;"⟩, 6) := ⟨⟨by decide +kernel, by decide +kernel⟩, List.mem_of_getElem? (i := 105) (by decide +kernel), List.mem_of_getElem? (i := 478) (by decide +kernel), List.mem_of_getElem? (i := 479) (by decide +kernel)⟩
theorem lw_p9 : lw_okq (⟨"RadioRoom$RadioSet", "settle", "(I)V"⟩, 4) := ⟨⟨by decide +kernel, by decide +kernel⟩, List.mem_of_getElem? (i := 443) (by decide +kernel), List.mem_of_getElem? (i := 491) (by decide +kernel), List.mem_of_getElem? (i := 492) (by decide +kernel)⟩
theorem lw_p10 : lw_okq (⟨"RadioRoom$Bench", "turnByLines", "(LRadioRoom$RadioSet;)I"⟩, 6) := ⟨⟨by decide +kernel, by decide +kernel⟩, List.mem_of_getElem? (i := 105) (by decide +kernel), List.mem_of_getElem? (i := 544) (by decide +kernel), List.mem_of_getElem? (i := 545) (by decide +kernel)⟩
theorem lw_p11 : lw_okq (⟨"RadioRoom$Bench", "turnWhileLess", "(LRadioRoom$RadioSet;II)I"⟩, 6) := ⟨⟨by decide +kernel, by decide +kernel⟩, List.mem_of_getElem? (i := 105) (by decide +kernel), List.mem_of_getElem? (i := 548) (by decide +kernel), List.mem_of_getElem? (i := 549) (by decide +kernel)⟩
theorem lw_p12 : lw_okq (⟨"RadioRoom$FaultBook", "isTest", "(I)Z"⟩, 7) := ⟨⟨by decide +kernel, by decide +kernel⟩, List.mem_of_getElem? (i := 132) (by decide +kernel), List.mem_of_getElem? (i := 589) (by decide +kernel), List.mem_of_getElem? (i := 590) (by decide +kernel)⟩
theorem lw_p13 : lw_okq (⟨"RadioRoom$FaultBook", "partsSet", "(II)Z"⟩, 7) := ⟨⟨by decide +kernel, by decide +kernel⟩, List.mem_of_getElem? (i := 132) (by decide +kernel), List.mem_of_getElem? (i := 631) (by decide +kernel), List.mem_of_getElem? (i := 632) (by decide +kernel)⟩
theorem lw_p14 : lw_okq (⟨"RadioRoom$FaultBook", "greatestLikelihood", "(I)I"⟩, 7) := ⟨⟨by decide +kernel, by decide +kernel⟩, List.mem_of_getElem? (i := 132) (by decide +kernel), List.mem_of_getElem? (i := 635) (by decide +kernel), List.mem_of_getElem? (i := 636) (by decide +kernel)⟩
theorem lw_p15 : lw_okq (⟨"RadioRoom$FaultBook", "likelihoodOf", "(I)I"⟩, 7) := ⟨⟨by decide +kernel, by decide +kernel⟩, List.mem_of_getElem? (i := 132) (by decide +kernel), List.mem_of_getElem? (i := 639) (by decide +kernel), List.mem_of_getElem? (i := 640) (by decide +kernel)⟩
def lw_privs_1 : List (MethodName × Nat) := [(⟨"RadioRoom$Dial", "gather", "(III)V"⟩, 5), (⟨"RadioRoom$Dial", "gatherSums", "(IIIII)V"⟩, 5), (⟨"RadioRoom$Dial", "fallsOn", "(II)Z"⟩, 5), (⟨"RadioRoom$Tracking", "signalTuned", "(I)I"⟩, 10), (⟨"RadioRoom$Tracking", "capacityAt", "(I)I"⟩, 10), (⟨"RadioRoom$Tracking", "indexOfPoint", "(I)I"⟩, 10), (⟨"RadioRoom$Tracking", "prepareTrim", "()V"⟩, 10), (⟨"RadioRoom$Tracking", "rankOfTrim", "(II)J"⟩, 10), (⟨"RadioRoom$Bench", "find", "(I)LRadioRoom$RadioSet;"⟩, 6), (⟨"RadioRoom$RadioSet", "settle", "(I)V"⟩, 4), (⟨"RadioRoom$Bench", "turnByLines", "(LRadioRoom$RadioSet;)I"⟩, 6), (⟨"RadioRoom$Bench", "turnWhileLess", "(LRadioRoom$RadioSet;II)I"⟩, 6), (⟨"RadioRoom$FaultBook", "isTest", "(I)Z"⟩, 7), (⟨"RadioRoom$FaultBook", "partsSet", "(II)Z"⟩, 7), (⟨"RadioRoom$FaultBook", "greatestLikelihood", "(I)I"⟩, 7), (⟨"RadioRoom$FaultBook", "likelihoodOf", "(I)I"⟩, 7)]
theorem lw_r1 : ∀ q ∈ lw_privs_1, lw_okq q := List.forall_mem_cons.mpr ⟨lw_p0, List.forall_mem_cons.mpr ⟨lw_p1, List.forall_mem_cons.mpr ⟨lw_p2, List.forall_mem_cons.mpr ⟨lw_p3, List.forall_mem_cons.mpr ⟨lw_p4, List.forall_mem_cons.mpr ⟨lw_p5, List.forall_mem_cons.mpr ⟨lw_p6, List.forall_mem_cons.mpr ⟨lw_p7, List.forall_mem_cons.mpr ⟨lw_p8, List.forall_mem_cons.mpr ⟨lw_p9, List.forall_mem_cons.mpr ⟨lw_p10, List.forall_mem_cons.mpr ⟨lw_p11, List.forall_mem_cons.mpr ⟨lw_p12, List.forall_mem_cons.mpr ⟨lw_p13, List.forall_mem_cons.mpr ⟨lw_p14, List.forall_mem_cons.mpr ⟨lw_p15, fun _ h => absurd h List.not_mem_nil⟩⟩⟩⟩⟩⟩⟩⟩⟩⟩⟩⟩⟩⟩⟩⟩
theorem lw_p16 : lw_okq (⟨"RadioRoom$FaultBook", "costOfParting", "(IZ)I"⟩, 7) := ⟨⟨by decide +kernel, by decide +kernel⟩, List.mem_of_getElem? (i := 132) (by decide +kernel), List.mem_of_getElem? (i := 648) (by decide +kernel), List.mem_of_getElem? (i := 649) (by decide +kernel)⟩
theorem lw_p17 : lw_okq (⟨"RadioRoom$FaultBook", "dearestPart", "(II)I"⟩, 7) := ⟨⟨by decide +kernel, by decide +kernel⟩, List.mem_of_getElem? (i := 132) (by decide +kernel), List.mem_of_getElem? (i := 652) (by decide +kernel), List.mem_of_getElem? (i := 653) (by decide +kernel)⟩
theorem lw_p18 : lw_okq (⟨"RadioRoomModel", "isStation", "(I)Z"⟩, 31) := ⟨⟨by decide +kernel, by decide +kernel⟩, List.mem_of_getElem? (i := 690) (by decide +kernel), List.mem_of_getElem? (i := 809) (by decide +kernel), List.mem_of_getElem? (i := 810) (by decide +kernel)⟩
theorem lw_p19 : lw_okq (⟨"RadioRoomModel", "oscillatorOf", "(II)I"⟩, 31) := ⟨⟨by decide +kernel, by decide +kernel⟩, List.mem_of_getElem? (i := 690) (by decide +kernel), List.mem_of_getElem? (i := 813) (by decide +kernel), List.mem_of_getElem? (i := 814) (by decide +kernel)⟩
theorem lw_p20 : lw_okq (⟨"RadioRoomModel", "goSpurs", "(III)I"⟩, 31) := ⟨⟨by decide +kernel, by decide +kernel⟩, List.mem_of_getElem? (i := 690) (by decide +kernel), List.mem_of_getElem? (i := 822) (by decide +kernel), List.mem_of_getElem? (i := 823) (by decide +kernel)⟩
theorem lw_p21 : lw_okq (⟨"RadioRoomModel", "falls", "(IIIIII)Z"⟩, 31) := ⟨⟨by decide +kernel, by decide +kernel⟩, List.mem_of_getElem? (i := 690) (by decide +kernel), List.mem_of_getElem? (i := 826) (by decide +kernel), List.mem_of_getElem? (i := 827) (by decide +kernel)⟩
theorem lw_p22 : lw_okq (⟨"RadioRoomModel", "weightAtHand", "()I"⟩, 31) := ⟨⟨by decide +kernel, by decide +kernel⟩, List.mem_of_getElem? (i := 690) (by decide +kernel), List.mem_of_getElem? (i := 837) (by decide +kernel), List.mem_of_getElem? (i := 838) (by decide +kernel)⟩
theorem lw_p23 : lw_okq (⟨"RadioRoomModel", "birdiesOf", "(I)I"⟩, 31) := ⟨⟨by decide +kernel, by decide +kernel⟩, List.mem_of_getElem? (i := 690) (by decide +kernel), List.mem_of_getElem? (i := 853) (by decide +kernel), List.mem_of_getElem? (i := 854) (by decide +kernel)⟩
theorem lw_p24 : lw_okq (⟨"RadioRoomModel", "loadOf", "(I)I"⟩, 31) := ⟨⟨by decide +kernel, by decide +kernel⟩, List.mem_of_getElem? (i := 690) (by decide +kernel), List.mem_of_getElem? (i := 861) (by decide +kernel), List.mem_of_getElem? (i := 862) (by decide +kernel)⟩
theorem lw_p25 : lw_okq (⟨"RadioRoomModel", "signalAt", "(III)I"⟩, 31) := ⟨⟨by decide +kernel, by decide +kernel⟩, List.mem_of_getElem? (i := 690) (by decide +kernel), List.mem_of_getElem? (i := 887) (by decide +kernel), List.mem_of_getElem? (i := 888) (by decide +kernel)⟩
theorem lw_p26 : lw_okq (⟨"RadioRoomModel", "gangAt", "(I)I"⟩, 31) := ⟨⟨by decide +kernel, by decide +kernel⟩, List.mem_of_getElem? (i := 690) (by decide +kernel), List.mem_of_getElem? (i := 891) (by decide +kernel), List.mem_of_getElem? (i := 892) (by decide +kernel)⟩
theorem lw_p27 : lw_okq (⟨"RadioRoomModel", "oscillatorAt", "(IIII)I"⟩, 31) := ⟨⟨by decide +kernel, by decide +kernel⟩, List.mem_of_getElem? (i := 690) (by decide +kernel), List.mem_of_getElem? (i := 904) (by decide +kernel), List.mem_of_getElem? (i := 905) (by decide +kernel)⟩
theorem lw_p28 : lw_okq (⟨"RadioRoomModel", "errorAt", "(IIIIIII)I"⟩, 31) := ⟨⟨by decide +kernel, by decide +kernel⟩, List.mem_of_getElem? (i := 690) (by decide +kernel), List.mem_of_getElem? (i := 912) (by decide +kernel), List.mem_of_getElem? (i := 913) (by decide +kernel)⟩
theorem lw_p29 : lw_okq (⟨"RadioRoomModel", "errorBy", "(III)I"⟩, 31) := ⟨⟨by decide +kernel, by decide +kernel⟩, List.mem_of_getElem? (i := 690) (by decide +kernel), List.mem_of_getElem? (i := 916) (by decide +kernel), List.mem_of_getElem? (i := 917) (by decide +kernel)⟩
theorem lw_p30 : lw_okq (⟨"RadioRoomModel", "offWith", "(IIIIII)I"⟩, 31) := ⟨⟨by decide +kernel, by decide +kernel⟩, List.mem_of_getElem? (i := 690) (by decide +kernel), List.mem_of_getElem? (i := 928) (by decide +kernel), List.mem_of_getElem? (i := 929) (by decide +kernel)⟩
theorem lw_p31 : lw_okq (⟨"RadioRoomModel", "isSet", "(I)Z"⟩, 31) := ⟨⟨by decide +kernel, by decide +kernel⟩, List.mem_of_getElem? (i := 690) (by decide +kernel), List.mem_of_getElem? (i := 949) (by decide +kernel), List.mem_of_getElem? (i := 950) (by decide +kernel)⟩
def lw_privs_2 : List (MethodName × Nat) := [(⟨"RadioRoom$FaultBook", "costOfParting", "(IZ)I"⟩, 7), (⟨"RadioRoom$FaultBook", "dearestPart", "(II)I"⟩, 7), (⟨"RadioRoomModel", "isStation", "(I)Z"⟩, 31), (⟨"RadioRoomModel", "oscillatorOf", "(II)I"⟩, 31), (⟨"RadioRoomModel", "goSpurs", "(III)I"⟩, 31), (⟨"RadioRoomModel", "falls", "(IIIIII)Z"⟩, 31), (⟨"RadioRoomModel", "weightAtHand", "()I"⟩, 31), (⟨"RadioRoomModel", "birdiesOf", "(I)I"⟩, 31), (⟨"RadioRoomModel", "loadOf", "(I)I"⟩, 31), (⟨"RadioRoomModel", "signalAt", "(III)I"⟩, 31), (⟨"RadioRoomModel", "gangAt", "(I)I"⟩, 31), (⟨"RadioRoomModel", "oscillatorAt", "(IIII)I"⟩, 31), (⟨"RadioRoomModel", "errorAt", "(IIIIIII)I"⟩, 31), (⟨"RadioRoomModel", "errorBy", "(III)I"⟩, 31), (⟨"RadioRoomModel", "offWith", "(IIIIII)I"⟩, 31), (⟨"RadioRoomModel", "isSet", "(I)Z"⟩, 31)]
theorem lw_r2 : ∀ q ∈ lw_privs_2, lw_okq q := List.forall_mem_cons.mpr ⟨lw_p16, List.forall_mem_cons.mpr ⟨lw_p17, List.forall_mem_cons.mpr ⟨lw_p18, List.forall_mem_cons.mpr ⟨lw_p19, List.forall_mem_cons.mpr ⟨lw_p20, List.forall_mem_cons.mpr ⟨lw_p21, List.forall_mem_cons.mpr ⟨lw_p22, List.forall_mem_cons.mpr ⟨lw_p23, List.forall_mem_cons.mpr ⟨lw_p24, List.forall_mem_cons.mpr ⟨lw_p25, List.forall_mem_cons.mpr ⟨lw_p26, List.forall_mem_cons.mpr ⟨lw_p27, List.forall_mem_cons.mpr ⟨lw_p28, List.forall_mem_cons.mpr ⟨lw_p29, List.forall_mem_cons.mpr ⟨lw_p30, List.forall_mem_cons.mpr ⟨lw_p31, fun _ h => absurd h List.not_mem_nil⟩⟩⟩⟩⟩⟩⟩⟩⟩⟩⟩⟩⟩⟩⟩⟩
theorem lw_p32 : lw_okq (⟨"RadioRoomModel", "valueOf", "(II)I"⟩, 31) := ⟨⟨by decide +kernel, by decide +kernel⟩, List.mem_of_getElem? (i := 690) (by decide +kernel), List.mem_of_getElem? (i := 957) (by decide +kernel), List.mem_of_getElem? (i := 958) (by decide +kernel)⟩
theorem lw_p33 : lw_okq (⟨"RadioRoomModel", "errorNow", "(I)I"⟩, 31) := ⟨⟨by decide +kernel, by decide +kernel⟩, List.mem_of_getElem? (i := 690) (by decide +kernel), List.mem_of_getElem? (i := 965) (by decide +kernel), List.mem_of_getElem? (i := 966) (by decide +kernel)⟩
theorem lw_p34 : lw_okq (⟨"RadioRoomModel", "oneRound", "(I)I"⟩, 31) := ⟨⟨by decide +kernel, by decide +kernel⟩, List.mem_of_getElem? (i := 690) (by decide +kernel), List.mem_of_getElem? (i := 977) (by decide +kernel), List.mem_of_getElem? (i := 978) (by decide +kernel)⟩
theorem lw_p35 : lw_okq (⟨"RadioRoomModel", "turn", "(III)I"⟩, 31) := ⟨⟨by decide +kernel, by decide +kernel⟩, List.mem_of_getElem? (i := 690) (by decide +kernel), List.mem_of_getElem? (i := 981) (by decide +kernel), List.mem_of_getElem? (i := 982) (by decide +kernel)⟩
theorem lw_p36 : lw_okq (⟨"RadioRoomModel", "isTest", "(I)Z"⟩, 31) := ⟨⟨by decide +kernel, by decide +kernel⟩, List.mem_of_getElem? (i := 690) (by decide +kernel), List.mem_of_getElem? (i := 1001) (by decide +kernel), List.mem_of_getElem? (i := 1002) (by decide +kernel)⟩
theorem lw_p37 : lw_okq (⟨"RadioRoomModel", "leaves", "(III)I"⟩, 31) := ⟨⟨by decide +kernel, by decide +kernel⟩, List.mem_of_getElem? (i := 690) (by decide +kernel), List.mem_of_getElem? (i := 1009) (by decide +kernel), List.mem_of_getElem? (i := 1010) (by decide +kernel)⟩
theorem lw_p38 : lw_okq (⟨"RadioRoomModel", "nextBest", "()I"⟩, 31) := ⟨⟨by decide +kernel, by decide +kernel⟩, List.mem_of_getElem? (i := 690) (by decide +kernel), List.mem_of_getElem? (i := 1024) (by decide +kernel), List.mem_of_getElem? (i := 1025) (by decide +kernel)⟩
theorem lw_p39 : lw_okq (⟨"RadioRoomModel", "parts", "(II)Z"⟩, 31) := ⟨⟨by decide +kernel, by decide +kernel⟩, List.mem_of_getElem? (i := 690) (by decide +kernel), List.mem_of_getElem? (i := 1028) (by decide +kernel), List.mem_of_getElem? (i := 1029) (by decide +kernel)⟩
theorem lw_p40 : lw_okq (⟨"RadioRoomModel", "least", "(IZ)I"⟩, 31) := ⟨⟨by decide +kernel, by decide +kernel⟩, List.mem_of_getElem? (i := 690) (by decide +kernel), List.mem_of_getElem? (i := 1032) (by decide +kernel), List.mem_of_getElem? (i := 1033) (by decide +kernel)⟩
def lw_privs_3 : List (MethodName × Nat) := [(⟨"RadioRoomModel", "valueOf", "(II)I"⟩, 31), (⟨"RadioRoomModel", "errorNow", "(I)I"⟩, 31), (⟨"RadioRoomModel", "oneRound", "(I)I"⟩, 31), (⟨"RadioRoomModel", "turn", "(III)I"⟩, 31), (⟨"RadioRoomModel", "isTest", "(I)Z"⟩, 31), (⟨"RadioRoomModel", "leaves", "(III)I"⟩, 31), (⟨"RadioRoomModel", "nextBest", "()I"⟩, 31), (⟨"RadioRoomModel", "parts", "(II)Z"⟩, 31), (⟨"RadioRoomModel", "least", "(IZ)I"⟩, 31)]
theorem lw_r3 : ∀ q ∈ lw_privs_3, lw_okq q := List.forall_mem_cons.mpr ⟨lw_p32, List.forall_mem_cons.mpr ⟨lw_p33, List.forall_mem_cons.mpr ⟨lw_p34, List.forall_mem_cons.mpr ⟨lw_p35, List.forall_mem_cons.mpr ⟨lw_p36, List.forall_mem_cons.mpr ⟨lw_p37, List.forall_mem_cons.mpr ⟨lw_p38, List.forall_mem_cons.mpr ⟨lw_p39, List.forall_mem_cons.mpr ⟨lw_p40, fun _ h => absurd h List.not_mem_nil⟩⟩⟩⟩⟩⟩⟩⟩⟩
def lw_privs : List (MethodName × Nat) := lw_privs_1 ++ (lw_privs_2 ++ (lw_privs_3))
def lw_tbl : List Cond := k2_sels lw_privs ++ tables_1
theorem lw_privs_ok : ∀ q ∈ lw_privs, lw_okq q := by
  show ∀ q ∈ lw_privs_1 ++ (lw_privs_2 ++ (lw_privs_3)), lw_okq q
  exact List.forall_mem_append.mpr ⟨lw_r1, List.forall_mem_append.mpr ⟨lw_r2, lw_r3⟩⟩
end
section
def RX0 : String := "RadioRoom$Bench"
def TX0 : u_T := fun k => match k with
  | 0 => ("RadioRoom$Bench", "tracking", "LRadioRoom$Tracking;", true)
  | 1 => ("RadioRoom$Bench", "row", "[LRadioRoom$RadioSet;", true)
  | 2 => ("RadioRoom$Bench", "linePart", "[I", true)
  | 3 => ("RadioRoom$Bench", "lineStep", "[I", true)
  | 4 => ("RadioRoom$Bench", "sets", "I", false)
  | _ => ("RadioRoom$Bench", "lines", "I", false)
def tyX0 : Nat → FieldType := fun k => match k with
  | 0 => .object "RadioRoom$Tracking"
  | 1 => .array (.object "RadioRoom$RadioSet")
  | 2 => .array .int
  | 3 => .array .int
  | 4 => .int
  | _ => .int
abbrev wsX00 : List Cond := u_ws RX0 TX0 6
theorem nmX0 : ∀ a, a < 6 → ∀ b, b < 6 → a ≠ b → (TX0 a).2.1 ≠ (TX0 b).2.1 := by decide +kernel
theorem tyX0_ok : ∀ k, k < 6 → parseFieldDescriptor (TX0 k).2.2.1 = some (tyX0 k) := by decide +kernel
abbrev cX0_init : ByteArray := prog_2_method_1_code
def yX0_init : MethodName := ⟨RX0, "<init>", "(LRadioRoom$Tracking;)V"⟩
abbrev cX0_sets : ByteArray := prog_2_method_2_code
def yX0_sets : MethodName := ⟨RX0, "sets", "()I"⟩
abbrev cX0_lines : ByteArray := prog_2_method_3_code
def yX0_lines : MethodName := ⟨RX0, "lines", "()I"⟩
abbrev cX0_build : ByteArray := prog_2_method_4_code
def yX0_build : MethodName := ⟨RX0, "build", "()I"⟩
abbrev cX0_putOff : ByteArray := prog_2_method_5_code
def yX0_putOff : MethodName := ⟨RX0, "putOff", "(III)I"⟩
abbrev cX0_ofPart : ByteArray := prog_2_method_6_code
def yX0_ofPart : MethodName := ⟨RX0, "ofPart", "(III)I"⟩
abbrev cX0_errorOfNumber : ByteArray := prog_2_method_7_code
def yX0_errorOfNumber : MethodName := ⟨RX0, "errorOfNumber", "(I)I"⟩
abbrev cX0_addLine : ByteArray := prog_2_method_8_code
def yX0_addLine : MethodName := ⟨RX0, "addLine", "(II)I"⟩
abbrev cX0_goRound : ByteArray := prog_2_method_9_code
def yX0_goRound : MethodName := ⟨RX0, "goRound", "(I)I"⟩
abbrev cX0_goRounds : ByteArray := prog_2_method_10_code
def yX0_goRounds : MethodName := ⟨RX0, "goRounds", "(I)I"⟩
abbrev cX0_find : ByteArray := prog_2_method_11_code
def yX0_find : MethodName := ⟨RX0, "find", "(I)LRadioRoom$RadioSet;"⟩
abbrev cX0_isPart : ByteArray := prog_2_method_12_code
def yX0_isPart : MethodName := ⟨RX0, "isPart", "(I)Z"⟩
abbrev cX0_turnByLines : ByteArray := prog_2_method_13_code
def yX0_turnByLines : MethodName := ⟨RX0, "turnByLines", "(LRadioRoom$RadioSet;)I"⟩
abbrev cX0_turnWhileLess : ByteArray := prog_2_method_14_code
def yX0_turnWhileLess : MethodName := ⟨RX0, "turnWhileLess", "(LRadioRoom$RadioSet;II)I"⟩
def RX1 : String := "RadioRoom$Dial"
def TX1 : u_T := fun k => match k with
  | 0 => ("RadioRoom$Dial", "frequency", "[I", true)
  | 1 => ("RadioRoom$Dial", "strengths", "[I", true)
  | 2 => ("RadioRoom$Dial", "setting", "[I", true)
  | 3 => ("RadioRoom$Dial", "tally", "LRadioRoom$SpurTally;", true)
  | _ => ("RadioRoom$Dial", "stations", "I", false)
def tyX1 : Nat → FieldType := fun k => match k with
  | 0 => .array .int
  | 1 => .array .int
  | 2 => .array .int
  | 3 => .object "RadioRoom$SpurTally"
  | _ => .int
abbrev wsX10 : List Cond := u_ws RX1 TX1 5
theorem nmX1 : ∀ a, a < 5 → ∀ b, b < 5 → a ≠ b → (TX1 a).2.1 ≠ (TX1 b).2.1 := by decide +kernel
theorem tyX1_ok : ∀ k, k < 5 → parseFieldDescriptor (TX1 k).2.2.1 = some (tyX1 k) := by decide +kernel
abbrev cX1_init : ByteArray := prog_3_method_1_code
def yX1_init : MethodName := ⟨RX1, "<init>", "()V"⟩
abbrev cX1_stations : ByteArray := prog_3_method_2_code
def yX1_stations : MethodName := ⟨RX1, "stations", "()I"⟩
abbrev cX1_hasStation : ByteArray := prog_3_method_3_code
def yX1_hasStation : MethodName := ⟨RX1, "hasStation", "(I)Z"⟩
abbrev cX1_middle : ByteArray := prog_3_method_4_code
def yX1_middle : MethodName := ⟨RX1, "middle", "()I"⟩
abbrev cX1_isOver : ByteArray := prog_3_method_5_code
def yX1_isOver : MethodName := ⟨RX1, "isOver", "()Z"⟩
abbrev cX1_addStation : ByteArray := prog_3_method_6_code
def yX1_addStation : MethodName := ⟨RX1, "addStation", "(II)I"⟩
abbrev cX1_change : ByteArray := prog_3_method_7_code
def yX1_change : MethodName := ⟨RX1, "change", "(II)I"⟩
abbrev cX1_oscillatorFor : ByteArray := prog_3_method_8_code
def yX1_oscillatorFor : MethodName := ⟨RX1, "oscillatorFor", "(II)I"⟩
abbrev cX1_spursOf : ByteArray := prog_3_method_9_code
def yX1_spursOf : MethodName := ⟨RX1, "spursOf", "(I)I"⟩
abbrev cX1_spursOfAll : ByteArray := prog_3_method_10_code
def yX1_spursOfAll : MethodName := ⟨RX1, "spursOfAll", "()I"⟩
abbrev cX1_ofSpur : ByteArray := prog_3_method_11_code
def yX1_ofSpur : MethodName := ⟨RX1, "ofSpur", "(III)I"⟩
abbrev cX1_worstOf : ByteArray := prog_3_method_12_code
def yX1_worstOf : MethodName := ⟨RX1, "worstOf", "(I)I"⟩
abbrev cX1_isImage : ByteArray := prog_3_method_13_code
def yX1_isImage : MethodName := ⟨RX1, "isImage", "(II)Z"⟩
abbrev cX1_birdiesFor : ByteArray := prog_3_method_14_code
def yX1_birdiesFor : MethodName := ⟨RX1, "birdiesFor", "(I)I"⟩
abbrev cX1_loadFor : ByteArray := prog_3_method_15_code
def yX1_loadFor : MethodName := ⟨RX1, "loadFor", "(I)I"⟩
abbrev cX1_bestMiddle : ByteArray := prog_3_method_16_code
def yX1_bestMiddle : MethodName := ⟨RX1, "bestMiddle", "(III)I"⟩
abbrev cX1_gather : ByteArray := prog_3_method_17_code
def yX1_gather : MethodName := ⟨RX1, "gather", "(III)V"⟩
abbrev cX1_gatherSums : ByteArray := prog_3_method_18_code
def yX1_gatherSums : MethodName := ⟨RX1, "gatherSums", "(IIIII)V"⟩
abbrev cX1_fallsOn : ByteArray := prog_3_method_19_code
def yX1_fallsOn : MethodName := ⟨RX1, "fallsOn", "(II)Z"⟩
def RX2 : String := "RadioRoom$FaultBook"
def TX2 : u_T := fun k => match k with
  | 0 => ("RadioRoom$FaultBook", "likelihoods", "[I", true)
  | 1 => ("RadioRoom$FaultBook", "prices", "[I", true)
  | 2 => ("RadioRoom$FaultBook", "giving", "[I", true)
  | 3 => ("RadioRoom$FaultBook", "costOf", "[I", true)
  | 4 => ("RadioRoom$FaultBook", "faults", "I", false)
  | 5 => ("RadioRoom$FaultBook", "tests", "I", false)
  | _ => ("RadioRoom$FaultBook", "remaining", "I", false)
def tyX2 : Nat → FieldType := fun k => match k with
  | 0 => .array .int
  | 1 => .array .int
  | 2 => .array .int
  | 3 => .array .int
  | 4 => .int
  | 5 => .int
  | _ => .int
abbrev wsX20 : List Cond := u_ws RX2 TX2 7
theorem nmX2 : ∀ a, a < 7 → ∀ b, b < 7 → a ≠ b → (TX2 a).2.1 ≠ (TX2 b).2.1 := by decide +kernel
theorem tyX2_ok : ∀ k, k < 7 → parseFieldDescriptor (TX2 k).2.2.1 = some (tyX2 k) := by decide +kernel
abbrev cX2_init : ByteArray := prog_4_method_1_code
def yX2_init : MethodName := ⟨RX2, "<init>", "()V"⟩
abbrev cX2_faults : ByteArray := prog_4_method_2_code
def yX2_faults : MethodName := ⟨RX2, "faults", "()I"⟩
abbrev cX2_tests : ByteArray := prog_4_method_3_code
def yX2_tests : MethodName := ⟨RX2, "tests", "()I"⟩
abbrev cX2_leftBits : ByteArray := prog_4_method_4_code
def yX2_leftBits : MethodName := ⟨RX2, "leftBits", "()I"⟩
abbrev cX2_addFault : ByteArray := prog_4_method_5_code
def yX2_addFault : MethodName := ⟨RX2, "addFault", "(I)I"⟩
abbrev cX2_addTest : ByteArray := prog_4_method_6_code
def yX2_addTest : MethodName := ⟨RX2, "addTest", "(I)I"⟩
abbrev cX2_changeReading : ByteArray := prog_4_method_7_code
def yX2_changeReading : MethodName := ⟨RX2, "changeReading", "(III)I"⟩
abbrev cX2_takeReading : ByteArray := prog_4_method_8_code
def yX2_takeReading : MethodName := ⟨RX2, "takeReading", "(II)I"⟩
abbrev cX2_startAgain : ByteArray := prog_4_method_9_code
def yX2_startAgain : MethodName := ⟨RX2, "startAgain", "()I"⟩
abbrev cX2_nextBest : ByteArray := prog_4_method_10_code
def yX2_nextBest : MethodName := ⟨RX2, "nextBest", "()I"⟩
abbrev cX2_leastCost : ByteArray := prog_4_method_11_code
def yX2_leastCost : MethodName := ⟨RX2, "leastCost", "(Z)I"⟩
abbrev cX2_isTest : ByteArray := prog_4_method_12_code
def yX2_isTest : MethodName := ⟨RX2, "isTest", "(I)Z"⟩
abbrev cX2_isReading : ByteArray := prog_4_method_13_code
def yX2_isReading : MethodName := ⟨RX2, "isReading", "(I)Z"⟩
abbrev cX2_partsSet : ByteArray := prog_4_method_14_code
def yX2_partsSet : MethodName := ⟨RX2, "partsSet", "(II)Z"⟩
abbrev cX2_greatestLikelihood : ByteArray := prog_4_method_15_code
def yX2_greatestLikelihood : MethodName := ⟨RX2, "greatestLikelihood", "(I)I"⟩
abbrev cX2_likelihoodOf : ByteArray := prog_4_method_16_code
def yX2_likelihoodOf : MethodName := ⟨RX2, "likelihoodOf", "(I)I"⟩
abbrev cX2_costOfParting : ByteArray := prog_4_method_17_code
def yX2_costOfParting : MethodName := ⟨RX2, "costOfParting", "(IZ)I"⟩
abbrev cX2_dearestPart : ByteArray := prog_4_method_18_code
def yX2_dearestPart : MethodName := ⟨RX2, "dearestPart", "(II)I"⟩
def RX3 : String := "RadioRoom$RadioSet"
def TX3 : u_T := fun k => match k with
  | 0 => ("RadioRoom$RadioSet", "built", "[I", true)
  | 1 => ("RadioRoom$RadioSet", "offset", "[I", true)
  | 2 => ("RadioRoom$RadioSet", "turned", "[I", true)
  | _ => ("RadioRoom$RadioSet", "now", "[I", true)
def tyX3 : Nat → FieldType := fun k => match k with
  | 0 => .array .int
  | 1 => .array .int
  | 2 => .array .int
  | _ => .array .int
abbrev wsX30 : List Cond := u_ws RX3 TX3 4
theorem nmX3 : ∀ a, a < 4 → ∀ b, b < 4 → a ≠ b → (TX3 a).2.1 ≠ (TX3 b).2.1 := by decide +kernel
theorem tyX3_ok : ∀ k, k < 4 → parseFieldDescriptor (TX3 k).2.2.1 = some (tyX3 k) := by decide +kernel
abbrev cX3_init : ByteArray := prog_5_method_1_code
def yX3_init : MethodName := ⟨RX3, "<init>", "([I)V"⟩
abbrev cX3_partsNow : ByteArray := prog_5_method_2_code
def yX3_partsNow : MethodName := ⟨RX3, "partsNow", "()[I"⟩
abbrev cX3_builtMiddle : ByteArray := prog_5_method_3_code
def yX3_builtMiddle : MethodName := ⟨RX3, "builtMiddle", "()I"⟩
abbrev cX3_turnedBy : ByteArray := prog_5_method_4_code
def yX3_turnedBy : MethodName := ⟨RX3, "turnedBy", "(I)I"⟩
abbrev cX3_turn : ByteArray := prog_5_method_5_code
def yX3_turn : MethodName := ⟨RX3, "turn", "(II)V"⟩
abbrev cX3_changeOffset : ByteArray := prog_5_method_6_code
def yX3_changeOffset : MethodName := ⟨RX3, "changeOffset", "(II)I"⟩
abbrev cX3_settle : ByteArray := prog_5_method_7_code
def yX3_settle : MethodName := ⟨RX3, "settle", "(I)V"⟩
def RX4 : String := "RadioRoom$SpurTally"
def TX4 : u_T := fun k => match k with
  | 0 => ("RadioRoom$SpurTally", "fact", "[I", true)
  | 1 => ("RadioRoom$SpurTally", "wanted", "I", false)
  | 2 => ("RadioRoom$SpurTally", "number", "I", false)
  | 3 => ("RadioRoom$SpurTally", "weights", "I", false)
  | 4 => ("RadioRoom$SpurTally", "heaviest", "I", false)
  | _ => ("RadioRoom$SpurTally", "heaviestWeight", "I", false)
def tyX4 : Nat → FieldType := fun k => match k with
  | 0 => .array .int
  | 1 => .int
  | 2 => .int
  | 3 => .int
  | 4 => .int
  | _ => .int
abbrev wsX40 : List Cond := u_ws RX4 TX4 6
theorem nmX4 : ∀ a, a < 6 → ∀ b, b < 6 → a ≠ b → (TX4 a).2.1 ≠ (TX4 b).2.1 := by decide +kernel
theorem tyX4_ok : ∀ k, k < 6 → parseFieldDescriptor (TX4 k).2.2.1 = some (tyX4 k) := by decide +kernel
abbrev cX4_init : ByteArray := prog_6_method_1_code
def yX4_init : MethodName := ⟨RX4, "<init>", "()V"⟩
abbrev cX4_begin : ByteArray := prog_6_method_2_code
def yX4_begin : MethodName := ⟨RX4, "begin", "(I)V"⟩
abbrev cX4_take : ByteArray := prog_6_method_3_code
def yX4_take : MethodName := ⟨RX4, "take", "(IIIII)V"⟩
abbrev cX4_number : ByteArray := prog_6_method_4_code
def yX4_number : MethodName := ⟨RX4, "number", "()I"⟩
abbrev cX4_weights : ByteArray := prog_6_method_5_code
def yX4_weights : MethodName := ⟨RX4, "weights", "()I"⟩
abbrev cX4_heaviest : ByteArray := prog_6_method_6_code
def yX4_heaviest : MethodName := ⟨RX4, "heaviest", "()I"⟩
abbrev cX4_factOfWanted : ByteArray := prog_6_method_7_code
def yX4_factOfWanted : MethodName := ⟨RX4, "factOfWanted", "(I)I"⟩
def RX5 : String := "RadioRoom$Tracking"
def TX5 : u_T := fun k => match k with
  | 0 => ("RadioRoom$Tracking", "dial", "LRadioRoom$Dial;", true)
  | 1 => ("RadioRoom$Tracking", "parts", "[I", true)
  | 2 => ("RadioRoom$Tracking", "places", "[I", true)
  | 3 => ("RadioRoom$Tracking", "low", "I", false)
  | 4 => ("RadioRoom$Tracking", "high", "I", false)
  | 5 => ("RadioRoom$Tracking", "points", "I", false)
  | 6 => ("RadioRoom$Tracking", "gangAt", "[I", true)
  | 7 => ("RadioRoom$Tracking", "wantedAt", "[I", true)
  | 8 => ("RadioRoom$Tracking", "tunedBy", "[I", true)
  | _ => ("RadioRoom$Tracking", "coilOfTunedBy", "I", false)
def tyX5 : Nat → FieldType := fun k => match k with
  | 0 => .object "RadioRoom$Dial"
  | 1 => .array .int
  | 2 => .array .int
  | 3 => .int
  | 4 => .int
  | 5 => .int
  | 6 => .array .int
  | 7 => .array .int
  | 8 => .array .int
  | _ => .int
abbrev wsX50 : List Cond := u_ws RX5 TX5 10
theorem nmX5 : ∀ a, a < 10 → ∀ b, b < 10 → a ≠ b → (TX5 a).2.1 ≠ (TX5 b).2.1 := by decide +kernel
theorem tyX5_ok : ∀ k, k < 10 → parseFieldDescriptor (TX5 k).2.2.1 = some (tyX5 k) := by decide +kernel
abbrev cX5_init : ByteArray := prog_7_method_1_code
def yX5_init : MethodName := ⟨RX5, "<init>", "(LRadioRoom$Dial;)V"⟩
abbrev cX5_points : ByteArray := prog_7_method_2_code
def yX5_points : MethodName := ⟨RX5, "points", "()I"⟩
abbrev cX5_ownParts : ByteArray := prog_7_method_3_code
def yX5_ownParts : MethodName := ⟨RX5, "ownParts", "()[I"⟩
abbrev cX5_changeGang : ByteArray := prog_7_method_4_code
def yX5_changeGang : MethodName := ⟨RX5, "changeGang", "(II)I"⟩
abbrev cX5_changePart : ByteArray := prog_7_method_5_code
def yX5_changePart : MethodName := ⟨RX5, "changePart", "(II)I"⟩
abbrev cX5_tunedAt : ByteArray := prog_7_method_6_code
def yX5_tunedAt : MethodName := ⟨RX5, "tunedAt", "(II)I"⟩
abbrev cX5_errorAt : ByteArray := prog_7_method_7_code
def yX5_errorAt : MethodName := ⟨RX5, "errorAt", "([II)I"⟩
abbrev cX5_errorWith : ByteArray := prog_7_method_8_code
def yX5_errorWith : MethodName := ⟨RX5, "errorWith", "([II)I"⟩
abbrev cX5_changePoint : ByteArray := prog_7_method_9_code
def yX5_changePoint : MethodName := ⟨RX5, "changePoint", "(II)I"⟩
abbrev cX5_bestTrim : ByteArray := prog_7_method_10_code
def yX5_bestTrim : MethodName := ⟨RX5, "bestTrim", "(II)I"⟩
abbrev cX5_markOf : ByteArray := prog_7_method_11_code
def yX5_markOf : MethodName := ⟨RX5, "markOf", "(I)I"⟩
abbrev cX5_indexOfPoint : ByteArray := prog_7_method_12_code
def yX5_indexOfPoint : MethodName := ⟨RX5, "indexOfPoint", "(I)I"⟩
abbrev cX5_prepareTrim : ByteArray := prog_7_method_13_code
def yX5_prepareTrim : MethodName := ⟨RX5, "prepareTrim", "()V"⟩
abbrev cX5_rankOfTrim : ByteArray := prog_7_method_14_code
def yX5_rankOfTrim : MethodName := ⟨RX5, "rankOfTrim", "(II)J"⟩
abbrev cX5_capacityAt : ByteArray := prog_7_method_15_code
def yX5_capacityAt : MethodName := ⟨RX5, "capacityAt", "(I)I"⟩
abbrev cX5_signalTuned : ByteArray := prog_7_method_16_code
def yX5_signalTuned : MethodName := ⟨RX5, "signalTuned", "(I)I"⟩
abbrev cX5_padded : ByteArray := prog_7_method_17_code
def yX5_padded : MethodName := ⟨RX5, "padded", "(II)I"⟩
abbrev cX5_tunedTo : ByteArray := prog_7_method_18_code
def yX5_tunedTo : MethodName := ⟨RX5, "tunedTo", "(II)I"⟩
def RX6 : String := "RadioRoom"
def TX6 : u_T := fun k => match k with
  | 0 => ("RadioRoom", "dial", "LRadioRoom$Dial;", true)
  | 1 => ("RadioRoom", "tracking", "LRadioRoom$Tracking;", true)
  | 2 => ("RadioRoom", "bench", "LRadioRoom$Bench;", true)
  | _ => ("RadioRoom", "faultBook", "LRadioRoom$FaultBook;", true)
def tyX6 : Nat → FieldType := fun k => match k with
  | 0 => .object "RadioRoom$Dial"
  | 1 => .object "RadioRoom$Tracking"
  | 2 => .object "RadioRoom$Bench"
  | _ => .object "RadioRoom$FaultBook"
abbrev wsX60 : List Cond := u_ws RX6 TX6 4
theorem nmX6 : ∀ a, a < 4 → ∀ b, b < 4 → a ≠ b → (TX6 a).2.1 ≠ (TX6 b).2.1 := by decide +kernel
theorem tyX6_ok : ∀ k, k < 4 → parseFieldDescriptor (TX6 k).2.2.1 = some (tyX6 k) := by decide +kernel
abbrev cX6_init : ByteArray := prog_1_method_1_code
def yX6_init : MethodName := ⟨RX6, "<init>", "()V"⟩
abbrev cX6_station : ByteArray := prog_1_method_2_code
def yX6_station : MethodName := ⟨RX6, "station", "(II)I"⟩
abbrev cX6_plan : ByteArray := prog_1_method_3_code
def yX6_plan : MethodName := ⟨RX6, "plan", "(II)I"⟩
abbrev cX6_oscillator : ByteArray := prog_1_method_4_code
def yX6_oscillator : MethodName := ⟨RX6, "oscillator", "(I)I"⟩
abbrev cX6_spurs : ByteArray := prog_1_method_5_code
def yX6_spurs : MethodName := ⟨RX6, "spurs", "(I)I"⟩
abbrev cX6_spur : ByteArray := prog_1_method_6_code
def yX6_spur : MethodName := ⟨RX6, "spur", "(III)I"⟩
abbrev cX6_image : ByteArray := prog_1_method_7_code
def yX6_image : MethodName := ⟨RX6, "image", "(II)I"⟩
abbrev cX6_worst : ByteArray := prog_1_method_8_code
def yX6_worst : MethodName := ⟨RX6, "worst", "(I)I"⟩
abbrev cX6_birdies : ByteArray := prog_1_method_9_code
def yX6_birdies : MethodName := ⟨RX6, "birdies", "()I"⟩
abbrev cX6_load : ByteArray := prog_1_method_10_code
def yX6_load : MethodName := ⟨RX6, "load", "(I)I"⟩
abbrev cX6_best : ByteArray := prog_1_method_11_code
def yX6_best : MethodName := ⟨RX6, "best", "(III)I"⟩
abbrev cX6_gang : ByteArray := prog_1_method_12_code
def yX6_gang : MethodName := ⟨RX6, "gang", "(II)I"⟩
abbrev cX6_part : ByteArray := prog_1_method_13_code
def yX6_part : MethodName := ⟨RX6, "part", "(II)I"⟩
abbrev cX6_tuned : ByteArray := prog_1_method_14_code
def yX6_tuned : MethodName := ⟨RX6, "tuned", "(II)I"⟩
abbrev cX6_error : ByteArray := prog_1_method_15_code
def yX6_error : MethodName := ⟨RX6, "error", "(I)I"⟩
abbrev cX6_point : ByteArray := prog_1_method_16_code
def yX6_point : MethodName := ⟨RX6, "point", "(II)I"⟩
abbrev cX6_off : ByteArray := prog_1_method_17_code
def yX6_off : MethodName := ⟨RX6, "off", "()I"⟩
abbrev cX6_trimmed : ByteArray := prog_1_method_18_code
def yX6_trimmed : MethodName := ⟨RX6, "trimmed", "(II)I"⟩
abbrev cX6_mark : ByteArray := prog_1_method_19_code
def yX6_mark : MethodName := ⟨RX6, "mark", "(I)I"⟩
abbrev cX6_set : ByteArray := prog_1_method_20_code
def yX6_set : MethodName := ⟨RX6, "set", "()I"⟩
abbrev cX6_offBy : ByteArray := prog_1_method_21_code
def yX6_offBy : MethodName := ⟨RX6, "offBy", "(III)I"⟩
abbrev cX6_ofSet : ByteArray := prog_1_method_22_code
def yX6_ofSet : MethodName := ⟨RX6, "ofSet", "(III)I"⟩
abbrev cX6_errorOf : ByteArray := prog_1_method_23_code
def yX6_errorOf : MethodName := ⟨RX6, "errorOf", "(I)I"⟩
abbrev cX6_sheet : ByteArray := prog_1_method_24_code
def yX6_sheet : MethodName := ⟨RX6, "sheet", "(II)I"⟩
abbrev cX6_round : ByteArray := prog_1_method_25_code
def yX6_round : MethodName := ⟨RX6, "round", "(I)I"⟩
abbrev cX6_align : ByteArray := prog_1_method_26_code
def yX6_align : MethodName := ⟨RX6, "align", "(I)I"⟩
abbrev cX6_fault : ByteArray := prog_1_method_27_code
def yX6_fault : MethodName := ⟨RX6, "fault", "(I)I"⟩
abbrev cX6_test : ByteArray := prog_1_method_28_code
def yX6_test : MethodName := ⟨RX6, "test", "(I)I"⟩
abbrev cX6_reading : ByteArray := prog_1_method_29_code
def yX6_reading : MethodName := ⟨RX6, "reading", "(III)I"⟩
abbrev cX6_read : ByteArray := prog_1_method_30_code
def yX6_read : MethodName := ⟨RX6, "read", "(II)I"⟩
abbrev cX6_again : ByteArray := prog_1_method_31_code
def yX6_again : MethodName := ⟨RX6, "again", "()I"⟩
abbrev cX6_left : ByteArray := prog_1_method_32_code
def yX6_left : MethodName := ⟨RX6, "left", "(I)I"⟩
abbrev cX6_count : ByteArray := prog_1_method_33_code
def yX6_count : MethodName := ⟨RX6, "count", "(I)I"⟩
abbrev cX6_within : ByteArray := prog_1_method_34_code
def yX6_within : MethodName := ⟨RX6, "within", "(III)Z"⟩
abbrev cX6_isPlace : ByteArray := prog_1_method_35_code
def yX6_isPlace : MethodName := ⟨RX6, "isPlace", "(I)Z"⟩
def RX7 : String := "RadioRoomModel"
def TX7 : u_T := fun k => match k with
  | 0 => ("RadioRoomModel", "frequency", "[I", true)
  | 1 => ("RadioRoomModel", "strength", "[I", true)
  | 2 => ("RadioRoomModel", "stations", "I", false)
  | 3 => ("RadioRoomModel", "middle", "I", false)
  | 4 => ("RadioRoomModel", "over", "I", false)
  | 5 => ("RadioRoomModel", "order", "I", false)
  | 6 => ("RadioRoomModel", "pass", "I", false)
  | 7 => ("RadioRoomModel", "low", "I", false)
  | 8 => ("RadioRoomModel", "high", "I", false)
  | 9 => ("RadioRoomModel", "part", "[I", true)
  | 10 => ("RadioRoomModel", "points", "[I", true)
  | 11 => ("RadioRoomModel", "pointMany", "I", false)
  | 12 => ("RadioRoomModel", "built", "[I", true)
  | 13 => ("RadioRoomModel", "offBy", "[I", true)
  | 14 => ("RadioRoomModel", "turned", "[I", true)
  | 15 => ("RadioRoomModel", "sets", "I", false)
  | 16 => ("RadioRoomModel", "linePart", "[I", true)
  | 17 => ("RadioRoomModel", "lineStep", "[I", true)
  | 18 => ("RadioRoomModel", "lines", "I", false)
  | 19 => ("RadioRoomModel", "likelihood", "[I", true)
  | 20 => ("RadioRoomModel", "price", "[I", true)
  | 21 => ("RadioRoomModel", "reading", "[I", true)
  | 22 => ("RadioRoomModel", "faults", "I", false)
  | 23 => ("RadioRoomModel", "tests", "I", false)
  | 24 => ("RadioRoomModel", "left", "I", false)
  | 25 => ("RadioRoomModel", "few", "[I", true)
  | 26 => ("RadioRoomModel", "isDone", "[Z", true)
  | 27 => ("RadioRoomModel", "spurJ", "I", false)
  | 28 => ("RadioRoomModel", "spurP", "I", false)
  | 29 => ("RadioRoomModel", "spurQ", "I", false)
  | _ => ("RadioRoomModel", "spurHow", "I", false)
def tyX7 : Nat → FieldType := fun k => match k with
  | 0 => .array .int
  | 1 => .array .int
  | 2 => .int
  | 3 => .int
  | 4 => .int
  | 5 => .int
  | 6 => .int
  | 7 => .int
  | 8 => .int
  | 9 => .array .int
  | 10 => .array .int
  | 11 => .int
  | 12 => .array .int
  | 13 => .array .int
  | 14 => .array .int
  | 15 => .int
  | 16 => .array .int
  | 17 => .array .int
  | 18 => .int
  | 19 => .array .int
  | 20 => .array .int
  | 21 => .array .int
  | 22 => .int
  | 23 => .int
  | 24 => .int
  | 25 => .array .int
  | 26 => .array .boolean
  | 27 => .int
  | 28 => .int
  | 29 => .int
  | _ => .int
abbrev wsX70 : List Cond := u_ws RX7 TX7 31
theorem nmX7 : ∀ a, a < 31 → ∀ b, b < 31 → a ≠ b → (TX7 a).2.1 ≠ (TX7 b).2.1 := by decide +kernel
theorem tyX7_ok : ∀ k, k < 31 → parseFieldDescriptor (TX7 k).2.2.1 = some (tyX7 k) := by decide +kernel
abbrev cX7_init : ByteArray := prog_9_method_1_code
def yX7_init : MethodName := ⟨RX7, "<init>", "()V"⟩
abbrev cX7_within : ByteArray := prog_9_method_2_code
def yX7_within : MethodName := ⟨RX7, "within", "(III)Z"⟩
abbrev cX7_size : ByteArray := prog_9_method_3_code
def yX7_size : MethodName := ⟨RX7, "size", "(I)I"⟩
abbrev cX7_isStation : ByteArray := prog_9_method_4_code
def yX7_isStation : MethodName := ⟨RX7, "isStation", "(I)Z"⟩
abbrev cX7_station : ByteArray := prog_9_method_5_code
def yX7_station : MethodName := ⟨RX7, "station", "(II)I"⟩
abbrev cX7_isMiddle : ByteArray := prog_9_method_6_code
def yX7_isMiddle : MethodName := ⟨RX7, "isMiddle", "(I)Z"⟩
abbrev cX7_plan : ByteArray := prog_9_method_7_code
def yX7_plan : MethodName := ⟨RX7, "plan", "(II)I"⟩
abbrev cX7_oscillatorOf : ByteArray := prog_9_method_8_code
def yX7_oscillatorOf : MethodName := ⟨RX7, "oscillatorOf", "(II)I"⟩
abbrev cX7_oscillator : ByteArray := prog_9_method_9_code
def yX7_oscillator : MethodName := ⟨RX7, "oscillator", "(I)I"⟩
abbrev cX7_falls : ByteArray := prog_9_method_10_code
def yX7_falls : MethodName := ⟨RX7, "falls", "(IIIIII)Z"⟩
abbrev cX7_goSpurs : ByteArray := prog_9_method_11_code
def yX7_goSpurs : MethodName := ⟨RX7, "goSpurs", "(III)I"⟩
abbrev cX7_spurs : ByteArray := prog_9_method_12_code
def yX7_spurs : MethodName := ⟨RX7, "spurs", "(I)I"⟩
abbrev cX7_weightAtHand : ByteArray := prog_9_method_13_code
def yX7_weightAtHand : MethodName := ⟨RX7, "weightAtHand", "()I"⟩
abbrev cX7_spur : ByteArray := prog_9_method_14_code
def yX7_spur : MethodName := ⟨RX7, "spur", "(III)I"⟩
abbrev cX7_image : ByteArray := prog_9_method_15_code
def yX7_image : MethodName := ⟨RX7, "image", "(II)I"⟩
abbrev cX7_worst : ByteArray := prog_9_method_16_code
def yX7_worst : MethodName := ⟨RX7, "worst", "(I)I"⟩
abbrev cX7_birdiesOf : ByteArray := prog_9_method_17_code
def yX7_birdiesOf : MethodName := ⟨RX7, "birdiesOf", "(I)I"⟩
abbrev cX7_birdies : ByteArray := prog_9_method_18_code
def yX7_birdies : MethodName := ⟨RX7, "birdies", "()I"⟩
abbrev cX7_loadOf : ByteArray := prog_9_method_19_code
def yX7_loadOf : MethodName := ⟨RX7, "loadOf", "(I)I"⟩
abbrev cX7_load : ByteArray := prog_9_method_20_code
def yX7_load : MethodName := ⟨RX7, "load", "(I)I"⟩
abbrev cX7_best : ByteArray := prog_9_method_21_code
def yX7_best : MethodName := ⟨RX7, "best", "(III)I"⟩
abbrev cX7_isPlace : ByteArray := prog_9_method_22_code
def yX7_isPlace : MethodName := ⟨RX7, "isPlace", "(I)Z"⟩
abbrev cX7_gang : ByteArray := prog_9_method_23_code
def yX7_gang : MethodName := ⟨RX7, "gang", "(II)I"⟩
abbrev cX7_isPart : ByteArray := prog_9_method_24_code
def yX7_isPart : MethodName := ⟨RX7, "isPart", "(II)Z"⟩
abbrev cX7_part : ByteArray := prog_9_method_25_code
def yX7_part : MethodName := ⟨RX7, "part", "(II)I"⟩
abbrev cX7_gangAt : ByteArray := prog_9_method_26_code
def yX7_gangAt : MethodName := ⟨RX7, "gangAt", "(I)I"⟩
abbrev cX7_root : ByteArray := prog_9_method_27_code
def yX7_root : MethodName := ⟨RX7, "root", "(J)I"⟩
abbrev cX7_tunedTo : ByteArray := prog_9_method_28_code
def yX7_tunedTo : MethodName := ⟨RX7, "tunedTo", "(II)I"⟩
abbrev cX7_signalAt : ByteArray := prog_9_method_29_code
def yX7_signalAt : MethodName := ⟨RX7, "signalAt", "(III)I"⟩
abbrev cX7_oscillatorAt : ByteArray := prog_9_method_30_code
def yX7_oscillatorAt : MethodName := ⟨RX7, "oscillatorAt", "(IIII)I"⟩
abbrev cX7_errorBy : ByteArray := prog_9_method_31_code
def yX7_errorBy : MethodName := ⟨RX7, "errorBy", "(III)I"⟩
abbrev cX7_errorAt : ByteArray := prog_9_method_32_code
def yX7_errorAt : MethodName := ⟨RX7, "errorAt", "(IIIIIII)I"⟩
abbrev cX7_tuned : ByteArray := prog_9_method_33_code
def yX7_tuned : MethodName := ⟨RX7, "tuned", "(II)I"⟩
abbrev cX7_error : ByteArray := prog_9_method_34_code
def yX7_error : MethodName := ⟨RX7, "error", "(I)I"⟩
abbrev cX7_point : ByteArray := prog_9_method_35_code
def yX7_point : MethodName := ⟨RX7, "point", "(II)I"⟩
abbrev cX7_offWith : ByteArray := prog_9_method_36_code
def yX7_offWith : MethodName := ⟨RX7, "offWith", "(IIIIII)I"⟩
abbrev cX7_off : ByteArray := prog_9_method_37_code
def yX7_off : MethodName := ⟨RX7, "off", "()I"⟩
abbrev cX7_trimmed : ByteArray := prog_9_method_38_code
def yX7_trimmed : MethodName := ⟨RX7, "trimmed", "(II)I"⟩
abbrev cX7_mark : ByteArray := prog_9_method_39_code
def yX7_mark : MethodName := ⟨RX7, "mark", "(I)I"⟩
abbrev cX7_isSet : ByteArray := prog_9_method_40_code
def yX7_isSet : MethodName := ⟨RX7, "isSet", "(I)Z"⟩
abbrev cX7_set : ByteArray := prog_9_method_41_code
def yX7_set : MethodName := ⟨RX7, "set", "()I"⟩
abbrev cX7_offBy : ByteArray := prog_9_method_42_code
def yX7_offBy : MethodName := ⟨RX7, "offBy", "(III)I"⟩
abbrev cX7_valueOf : ByteArray := prog_9_method_43_code
def yX7_valueOf : MethodName := ⟨RX7, "valueOf", "(II)I"⟩
abbrev cX7_ofSet : ByteArray := prog_9_method_44_code
def yX7_ofSet : MethodName := ⟨RX7, "ofSet", "(III)I"⟩
abbrev cX7_errorNow : ByteArray := prog_9_method_45_code
def yX7_errorNow : MethodName := ⟨RX7, "errorNow", "(I)I"⟩
abbrev cX7_errorOf : ByteArray := prog_9_method_46_code
def yX7_errorOf : MethodName := ⟨RX7, "errorOf", "(I)I"⟩
abbrev cX7_sheet : ByteArray := prog_9_method_47_code
def yX7_sheet : MethodName := ⟨RX7, "sheet", "(II)I"⟩
abbrev cX7_turn : ByteArray := prog_9_method_48_code
def yX7_turn : MethodName := ⟨RX7, "turn", "(III)I"⟩
abbrev cX7_oneRound : ByteArray := prog_9_method_49_code
def yX7_oneRound : MethodName := ⟨RX7, "oneRound", "(I)I"⟩
abbrev cX7_round : ByteArray := prog_9_method_50_code
def yX7_round : MethodName := ⟨RX7, "round", "(I)I"⟩
abbrev cX7_align : ByteArray := prog_9_method_51_code
def yX7_align : MethodName := ⟨RX7, "align", "(I)I"⟩
abbrev cX7_fault : ByteArray := prog_9_method_52_code
def yX7_fault : MethodName := ⟨RX7, "fault", "(I)I"⟩
abbrev cX7_test : ByteArray := prog_9_method_53_code
def yX7_test : MethodName := ⟨RX7, "test", "(I)I"⟩
abbrev cX7_isTest : ByteArray := prog_9_method_54_code
def yX7_isTest : MethodName := ⟨RX7, "isTest", "(I)Z"⟩
abbrev cX7_reading : ByteArray := prog_9_method_55_code
def yX7_reading : MethodName := ⟨RX7, "reading", "(III)I"⟩
abbrev cX7_leaves : ByteArray := prog_9_method_56_code
def yX7_leaves : MethodName := ⟨RX7, "leaves", "(III)I"⟩
abbrev cX7_bitsOf : ByteArray := prog_9_method_57_code
def yX7_bitsOf : MethodName := ⟨RX7, "bitsOf", "(I)I"⟩
abbrev cX7_read : ByteArray := prog_9_method_58_code
def yX7_read : MethodName := ⟨RX7, "read", "(II)I"⟩
abbrev cX7_again : ByteArray := prog_9_method_59_code
def yX7_again : MethodName := ⟨RX7, "again", "()I"⟩
abbrev cX7_parts : ByteArray := prog_9_method_60_code
def yX7_parts : MethodName := ⟨RX7, "parts", "(II)Z"⟩
abbrev cX7_nextBest : ByteArray := prog_9_method_61_code
def yX7_nextBest : MethodName := ⟨RX7, "nextBest", "()I"⟩
abbrev cX7_least : ByteArray := prog_9_method_62_code
def yX7_least : MethodName := ⟨RX7, "least", "(IZ)I"⟩
abbrev cX7_left : ByteArray := prog_9_method_63_code
def yX7_left : MethodName := ⟨RX7, "left", "(I)I"⟩
abbrev cX7_count : ByteArray := prog_9_method_64_code
def yX7_count : MethodName := ⟨RX7, "count", "(I)I"⟩
def RJx8e188 : String := "java/lang/Cloneable"
def TJx8e188 : u_T := fun k => match k with
  | _ => ("", "", "", false)
def tyJx8e188 : Nat → FieldType := fun k => match k with
  | _ => .int
abbrev wsJx8e1880 : List Cond := u_ws RJx8e188 TJx8e188 0
theorem nmJx8e188 : ∀ a, a < 0 → ∀ b, b < 0 → a ≠ b → (TJx8e188 a).2.1 ≠ (TJx8e188 b).2.1 := by decide +kernel
theorem tyJx8e188_ok : ∀ k, k < 0 → parseFieldDescriptor (TJx8e188 k).2.2.1 = some (tyJx8e188 k) := by decide +kernel
def RJ6 : String := "java/lang/Integer"
def TJ6 : u_T := fun k => match k with
  | _ => ("", "", "", false)
def tyJ6 : Nat → FieldType := fun k => match k with
  | _ => .int
abbrev wsJ60 : List Cond := u_ws RJ6 TJ6 0
theorem nmJ6 : ∀ a, a < 0 → ∀ b, b < 0 → a ≠ b → (TJ6 a).2.1 ≠ (TJ6 b).2.1 := by decide +kernel
theorem tyJ6_ok : ∀ k, k < 0 → parseFieldDescriptor (TJ6 k).2.2.1 = some (tyJ6 k) := by decide +kernel
abbrev cJ6_bitCount_0f7a4 : ByteArray := prog_11_method_49_code
def yJ6_bitCount_0f7a4 : MethodName := ⟨RJ6, "bitCount", "(I)I"⟩
def RJ9 : String := "java/lang/Math"
def TJ9 : u_T := fun k => match k with
  | _ => ("", "", "", false)
def tyJ9 : Nat → FieldType := fun k => match k with
  | _ => .int
abbrev wsJ90 : List Cond := u_ws RJ9 TJ9 0
theorem nmJ9 : ∀ a, a < 0 → ∀ b, b < 0 → a ≠ b → (TJ9 a).2.1 ≠ (TJ9 b).2.1 := by decide +kernel
theorem tyJ9_ok : ∀ k, k < 0 → parseFieldDescriptor (TJ9 k).2.2.1 = some (tyJ9 k) := by decide +kernel
abbrev cJ9_abs_0f7a4 : ByteArray := prog_12_method_59_code
def yJ9_abs_0f7a4 : MethodName := ⟨RJ9, "abs", "(I)I"⟩
abbrev cJ9_max_7cf53 : ByteArray := prog_12_method_65_code
def yJ9_max_7cf53 : MethodName := ⟨RJ9, "max", "(II)I"⟩
abbrev cJ9_min_7cf53 : ByteArray := prog_12_method_69_code
def yJ9_min_7cf53 : MethodName := ⟨RJ9, "min", "(II)I"⟩
def RL : String := "RadioRoomLaw"
abbrev cL_law : ByteArray := code
def yL_law : MethodName := ⟨RL, "law", "([I)Z"⟩
abbrev vwCl : List vw_C := [(RX0, TX0, 6), (RX1, TX1, 5), (RX2, TX2, 7), (RX3, TX3, 4), (RX4, TX4, 6), (RX5, TX5, 10), (RX6, TX6, 4), (RX7, TX7, 31)]
end
section
theorem dX0_init_0 : decode cX0_init 0 = .ok (.aload_n 0, 1) := by decide +kernel
theorem dX0_init_1 : decode cX0_init 1 = .ok (.invokespecial 3, 3) := by decide +kernel
theorem dX0_init_4 : decode cX0_init 4 = .ok (.aload_n 0, 1) := by decide +kernel
theorem dX0_init_5 : decode cX0_init 5 = .ok (.bipush 10, 2) := by decide +kernel
theorem dX0_init_7 : decode cX0_init 7 = .ok (.anewarray 9, 3) := by decide +kernel
theorem dX0_init_10 : decode cX0_init 10 = .ok (.putfield 11, 3) := by decide +kernel
theorem dX0_init_13 : decode cX0_init 13 = .ok (.aload_n 0, 1) := by decide +kernel
theorem dX0_init_14 : decode cX0_init 14 = .ok (.bipush 8, 2) := by decide +kernel
theorem dX0_init_16 : decode cX0_init 16 = .ok (.newarray .int, 2) := by decide +kernel
theorem dX0_init_18 : decode cX0_init 18 = .ok (.putfield 17, 3) := by decide +kernel
theorem dX0_init_21 : decode cX0_init 21 = .ok (.aload_n 0, 1) := by decide +kernel
theorem dX0_init_22 : decode cX0_init 22 = .ok (.bipush 8, 2) := by decide +kernel
theorem dX0_init_24 : decode cX0_init 24 = .ok (.newarray .int, 2) := by decide +kernel
theorem dX0_init_26 : decode cX0_init 26 = .ok (.putfield 21, 3) := by decide +kernel
theorem dX0_init_29 : decode cX0_init 29 = .ok (.aload_n 0, 1) := by decide +kernel
theorem dX0_init_30 : decode cX0_init 30 = .ok (.iconst 0, 1) := by decide +kernel
theorem dX0_init_31 : decode cX0_init 31 = .ok (.putfield 24, 3) := by decide +kernel
theorem dX0_init_34 : decode cX0_init 34 = .ok (.aload_n 0, 1) := by decide +kernel
theorem dX0_init_35 : decode cX0_init 35 = .ok (.iconst 0, 1) := by decide +kernel
theorem dX0_init_36 : decode cX0_init 36 = .ok (.putfield 28, 3) := by decide +kernel
theorem dX0_init_39 : decode cX0_init 39 = .ok (.aload_n 0, 1) := by decide +kernel
theorem dX0_init_40 : decode cX0_init 40 = .ok (.aload_n 1, 1) := by decide +kernel
theorem dX0_init_41 : decode cX0_init 41 = .ok (.putfield 31, 3) := by decide +kernel
theorem dX0_init_44 : decode cX0_init 44 = .ok (.return_, 1) := by decide +kernel
theorem dX0_sets_0 : decode cX0_sets 0 = .ok (.aload_n 0, 1) := by decide +kernel
theorem dX0_sets_1 : decode cX0_sets 1 = .ok (.getfield 24, 3) := by decide +kernel
theorem dX0_sets_4 : decode cX0_sets 4 = .ok (.ireturn, 1) := by decide +kernel
theorem dX0_lines_0 : decode cX0_lines 0 = .ok (.aload_n 0, 1) := by decide +kernel
theorem dX0_lines_1 : decode cX0_lines 1 = .ok (.getfield 28, 3) := by decide +kernel
theorem dX0_lines_4 : decode cX0_lines 4 = .ok (.ireturn, 1) := by decide +kernel
theorem dX0_build_0 : decode cX0_build 0 = .ok (.aload_n 0, 1) := by decide +kernel
theorem dX0_build_1 : decode cX0_build 1 = .ok (.getfield 24, 3) := by decide +kernel
theorem dX0_build_4 : decode cX0_build 4 = .ok (.bipush 10, 2) := by decide +kernel
theorem dX0_build_6 : decode cX0_build 6 = .ok (.if_icmp .lt 6, 3) := by decide +kernel
theorem dX0_build_9 : decode cX0_build 9 = .ok (.bipush (-2), 2) := by decide +kernel
theorem dX0_build_11 : decode cX0_build 11 = .ok (.ireturn, 1) := by decide +kernel
theorem dX0_build_12 : decode cX0_build 12 = .ok (.aload_n 0, 1) := by decide +kernel
theorem dX0_build_13 : decode cX0_build 13 = .ok (.getfield 11, 3) := by decide +kernel
theorem dX0_build_16 : decode cX0_build 16 = .ok (.aload_n 0, 1) := by decide +kernel
theorem dX0_build_17 : decode cX0_build 17 = .ok (.getfield 24, 3) := by decide +kernel
theorem dX0_build_20 : decode cX0_build 20 = .ok (.new 9, 3) := by decide +kernel
theorem dX0_build_23 : decode cX0_build 23 = .ok (.dup, 1) := by decide +kernel
theorem dX0_build_24 : decode cX0_build 24 = .ok (.aload_n 0, 1) := by decide +kernel
theorem dX0_build_25 : decode cX0_build 25 = .ok (.getfield 31, 3) := by decide +kernel
theorem dX0_build_28 : decode cX0_build 28 = .ok (.invokevirtual 35, 3) := by decide +kernel
theorem dX0_build_31 : decode cX0_build 31 = .ok (.invokespecial 41, 3) := by decide +kernel
theorem dX0_build_34 : decode cX0_build 34 = .ok (.aastore, 1) := by decide +kernel
theorem dX0_build_35 : decode cX0_build 35 = .ok (.aload_n 0, 1) := by decide +kernel
theorem dX0_build_36 : decode cX0_build 36 = .ok (.dup, 1) := by decide +kernel
theorem dX0_build_37 : decode cX0_build 37 = .ok (.getfield 24, 3) := by decide +kernel
theorem dX0_build_40 : decode cX0_build 40 = .ok (.iconst 1, 1) := by decide +kernel
theorem dX0_build_41 : decode cX0_build 41 = .ok (.iadd, 1) := by decide +kernel
theorem dX0_build_42 : decode cX0_build 42 = .ok (.putfield 24, 3) := by decide +kernel
theorem dX0_build_45 : decode cX0_build 45 = .ok (.aload_n 0, 1) := by decide +kernel
theorem dX0_build_46 : decode cX0_build 46 = .ok (.getfield 24, 3) := by decide +kernel
theorem dX0_build_49 : decode cX0_build 49 = .ok (.iconst 1, 1) := by decide +kernel
theorem dX0_build_50 : decode cX0_build 50 = .ok (.isub, 1) := by decide +kernel
theorem dX0_build_51 : decode cX0_build 51 = .ok (.ireturn, 1) := by decide +kernel
theorem dX0_putOff_0 : decode cX0_putOff 0 = .ok (.aload_n 0, 1) := by decide +kernel
theorem dX0_putOff_1 : decode cX0_putOff 1 = .ok (.iload_n 1, 1) := by decide +kernel
theorem dX0_putOff_2 : decode cX0_putOff 2 = .ok (.invokevirtual 44, 3) := by decide +kernel
theorem dX0_putOff_5 : decode cX0_putOff 5 = .ok (.astore 4, 2) := by decide +kernel
theorem dX0_putOff_7 : decode cX0_putOff 7 = .ok (.aload 4, 2) := by decide +kernel
theorem dX0_putOff_9 : decode cX0_putOff 9 = .ok (.ifnull 21, 3) := by decide +kernel
theorem dX0_putOff_12 : decode cX0_putOff 12 = .ok (.iload_n 2, 1) := by decide +kernel
theorem dX0_putOff_13 : decode cX0_putOff 13 = .ok (.invokestatic 48, 3) := by decide +kernel
theorem dX0_putOff_16 : decode cX0_putOff 16 = .ok (.ifCond .eq 14, 3) := by decide +kernel
theorem dX0_putOff_19 : decode cX0_putOff 19 = .ok (.iload_n 3, 1) := by decide +kernel
theorem dX0_putOff_20 : decode cX0_putOff 20 = .ok (.bipush (-50), 2) := by decide +kernel
theorem dX0_putOff_22 : decode cX0_putOff 22 = .ok (.bipush 50, 2) := by decide +kernel
theorem dX0_putOff_24 : decode cX0_putOff 24 = .ok (.invokestatic 52, 3) := by decide +kernel
theorem dX0_putOff_27 : decode cX0_putOff 27 = .ok (.ifCond .ne 6, 3) := by decide +kernel
theorem dX0_putOff_30 : decode cX0_putOff 30 = .ok (.ldc 56, 2) := by decide +kernel
theorem dX0_putOff_32 : decode cX0_putOff 32 = .ok (.ireturn, 1) := by decide +kernel
theorem dX0_putOff_33 : decode cX0_putOff 33 = .ok (.aload 4, 2) := by decide +kernel
theorem dX0_putOff_35 : decode cX0_putOff 35 = .ok (.iload_n 2, 1) := by decide +kernel
theorem dX0_putOff_36 : decode cX0_putOff 36 = .ok (.iload_n 3, 1) := by decide +kernel
theorem dX0_putOff_37 : decode cX0_putOff 37 = .ok (.invokevirtual 57, 3) := by decide +kernel
theorem dX0_putOff_40 : decode cX0_putOff 40 = .ok (.ireturn, 1) := by decide +kernel
theorem dX0_ofPart_0 : decode cX0_ofPart 0 = .ok (.aload_n 0, 1) := by decide +kernel
theorem dX0_ofPart_1 : decode cX0_ofPart 1 = .ok (.iload_n 1, 1) := by decide +kernel
theorem dX0_ofPart_2 : decode cX0_ofPart 2 = .ok (.invokevirtual 44, 3) := by decide +kernel
theorem dX0_ofPart_5 : decode cX0_ofPart 5 = .ok (.astore 4, 2) := by decide +kernel
theorem dX0_ofPart_7 : decode cX0_ofPart 7 = .ok (.aload 4, 2) := by decide +kernel
theorem dX0_ofPart_9 : decode cX0_ofPart 9 = .ok (.ifnull 19, 3) := by decide +kernel
theorem dX0_ofPart_12 : decode cX0_ofPart 12 = .ok (.iload_n 2, 1) := by decide +kernel
theorem dX0_ofPart_13 : decode cX0_ofPart 13 = .ok (.invokestatic 48, 3) := by decide +kernel
theorem dX0_ofPart_16 : decode cX0_ofPart 16 = .ok (.ifCond .eq 12, 3) := by decide +kernel
theorem dX0_ofPart_19 : decode cX0_ofPart 19 = .ok (.iload_n 3, 1) := by decide +kernel
theorem dX0_ofPart_20 : decode cX0_ofPart 20 = .ok (.iconst 0, 1) := by decide +kernel
theorem dX0_ofPart_21 : decode cX0_ofPart 21 = .ok (.iconst 1, 1) := by decide +kernel
theorem dX0_ofPart_22 : decode cX0_ofPart 22 = .ok (.invokestatic 52, 3) := by decide +kernel
theorem dX0_ofPart_25 : decode cX0_ofPart 25 = .ok (.ifCond .ne 6, 3) := by decide +kernel
theorem dX0_ofPart_28 : decode cX0_ofPart 28 = .ok (.ldc 56, 2) := by decide +kernel
theorem dX0_ofPart_30 : decode cX0_ofPart 30 = .ok (.ireturn, 1) := by decide +kernel
theorem dX0_ofPart_31 : decode cX0_ofPart 31 = .ok (.iload_n 3, 1) := by decide +kernel
theorem dX0_ofPart_32 : decode cX0_ofPart 32 = .ok (.ifCond .ne 13, 3) := by decide +kernel
theorem dX0_ofPart_35 : decode cX0_ofPart 35 = .ok (.aload 4, 2) := by decide +kernel
theorem dX0_ofPart_37 : decode cX0_ofPart 37 = .ok (.invokevirtual 61, 3) := by decide +kernel
theorem dX0_ofPart_40 : decode cX0_ofPart 40 = .ok (.iload_n 2, 1) := by decide +kernel
theorem dX0_ofPart_41 : decode cX0_ofPart 41 = .ok (.iaload, 1) := by decide +kernel
theorem dX0_ofPart_42 : decode cX0_ofPart 42 = .ok (.goto 9, 3) := by decide +kernel
theorem dX0_ofPart_45 : decode cX0_ofPart 45 = .ok (.aload 4, 2) := by decide +kernel
theorem dX0_ofPart_47 : decode cX0_ofPart 47 = .ok (.iload_n 2, 1) := by decide +kernel
theorem dX0_ofPart_48 : decode cX0_ofPart 48 = .ok (.invokevirtual 64, 3) := by decide +kernel
theorem dX0_ofPart_51 : decode cX0_ofPart 51 = .ok (.ireturn, 1) := by decide +kernel
theorem dX0_errorOfNumber_0 : decode cX0_errorOfNumber 0 = .ok (.aload_n 0, 1) := by decide +kernel
theorem dX0_errorOfNumber_1 : decode cX0_errorOfNumber 1 = .ok (.iload_n 1, 1) := by decide +kernel
theorem dX0_errorOfNumber_2 : decode cX0_errorOfNumber 2 = .ok (.invokevirtual 44, 3) := by decide +kernel
theorem dX0_errorOfNumber_5 : decode cX0_errorOfNumber 5 = .ok (.astore_n 2, 1) := by decide +kernel
theorem dX0_errorOfNumber_6 : decode cX0_errorOfNumber 6 = .ok (.aload_n 2, 1) := by decide +kernel
theorem dX0_errorOfNumber_7 : decode cX0_errorOfNumber 7 = .ok (.ifnonnull 7, 3) := by decide +kernel
theorem dX0_errorOfNumber_10 : decode cX0_errorOfNumber 10 = .ok (.iconst (-1), 1) := by decide +kernel
theorem dX0_errorOfNumber_11 : decode cX0_errorOfNumber 11 = .ok (.goto 18, 3) := by decide +kernel
theorem dX0_errorOfNumber_14 : decode cX0_errorOfNumber 14 = .ok (.aload_n 0, 1) := by decide +kernel
theorem dX0_errorOfNumber_15 : decode cX0_errorOfNumber 15 = .ok (.getfield 31, 3) := by decide +kernel
theorem dX0_errorOfNumber_18 : decode cX0_errorOfNumber 18 = .ok (.aload_n 2, 1) := by decide +kernel
theorem dX0_errorOfNumber_19 : decode cX0_errorOfNumber 19 = .ok (.invokevirtual 61, 3) := by decide +kernel
theorem dX0_errorOfNumber_22 : decode cX0_errorOfNumber 22 = .ok (.aload_n 2, 1) := by decide +kernel
theorem dX0_errorOfNumber_23 : decode cX0_errorOfNumber 23 = .ok (.invokevirtual 68, 3) := by decide +kernel
theorem dX0_errorOfNumber_26 : decode cX0_errorOfNumber 26 = .ok (.invokevirtual 72, 3) := by decide +kernel
theorem dX0_errorOfNumber_29 : decode cX0_errorOfNumber 29 = .ok (.ireturn, 1) := by decide +kernel
theorem dX0_addLine_0 : decode cX0_addLine 0 = .ok (.iload_n 1, 1) := by decide +kernel
theorem dX0_addLine_1 : decode cX0_addLine 1 = .ok (.invokestatic 48, 3) := by decide +kernel
theorem dX0_addLine_4 : decode cX0_addLine 4 = .ok (.ifCond .eq 13, 3) := by decide +kernel
theorem dX0_addLine_7 : decode cX0_addLine 7 = .ok (.iload_n 2, 1) := by decide +kernel
theorem dX0_addLine_8 : decode cX0_addLine 8 = .ok (.iconst 1, 1) := by decide +kernel
theorem dX0_addLine_9 : decode cX0_addLine 9 = .ok (.bipush 20, 2) := by decide +kernel
theorem dX0_addLine_11 : decode cX0_addLine 11 = .ok (.invokestatic 52, 3) := by decide +kernel
theorem dX0_addLine_14 : decode cX0_addLine 14 = .ok (.ifCond .ne 5, 3) := by decide +kernel
theorem dX0_addLine_17 : decode cX0_addLine 17 = .ok (.iconst (-1), 1) := by decide +kernel
theorem dX0_addLine_18 : decode cX0_addLine 18 = .ok (.ireturn, 1) := by decide +kernel
theorem dX0_addLine_19 : decode cX0_addLine 19 = .ok (.aload_n 0, 1) := by decide +kernel
theorem dX0_addLine_20 : decode cX0_addLine 20 = .ok (.getfield 28, 3) := by decide +kernel
theorem dX0_addLine_23 : decode cX0_addLine 23 = .ok (.bipush 8, 2) := by decide +kernel
theorem dX0_addLine_25 : decode cX0_addLine 25 = .ok (.if_icmp .lt 6, 3) := by decide +kernel
theorem dX0_addLine_28 : decode cX0_addLine 28 = .ok (.bipush (-2), 2) := by decide +kernel
theorem dX0_addLine_30 : decode cX0_addLine 30 = .ok (.ireturn, 1) := by decide +kernel
theorem dX0_addLine_31 : decode cX0_addLine 31 = .ok (.aload_n 0, 1) := by decide +kernel
theorem dX0_addLine_32 : decode cX0_addLine 32 = .ok (.getfield 17, 3) := by decide +kernel
theorem dX0_addLine_35 : decode cX0_addLine 35 = .ok (.aload_n 0, 1) := by decide +kernel
theorem dX0_addLine_36 : decode cX0_addLine 36 = .ok (.getfield 28, 3) := by decide +kernel
theorem dX0_addLine_39 : decode cX0_addLine 39 = .ok (.iload_n 1, 1) := by decide +kernel
theorem dX0_addLine_40 : decode cX0_addLine 40 = .ok (.iastore, 1) := by decide +kernel
theorem dX0_addLine_41 : decode cX0_addLine 41 = .ok (.aload_n 0, 1) := by decide +kernel
theorem dX0_addLine_42 : decode cX0_addLine 42 = .ok (.getfield 21, 3) := by decide +kernel
theorem dX0_addLine_45 : decode cX0_addLine 45 = .ok (.aload_n 0, 1) := by decide +kernel
theorem dX0_addLine_46 : decode cX0_addLine 46 = .ok (.getfield 28, 3) := by decide +kernel
theorem dX0_addLine_49 : decode cX0_addLine 49 = .ok (.iload_n 2, 1) := by decide +kernel
theorem dX0_addLine_50 : decode cX0_addLine 50 = .ok (.iastore, 1) := by decide +kernel
theorem dX0_addLine_51 : decode cX0_addLine 51 = .ok (.aload_n 0, 1) := by decide +kernel
theorem dX0_addLine_52 : decode cX0_addLine 52 = .ok (.dup, 1) := by decide +kernel
theorem dX0_addLine_53 : decode cX0_addLine 53 = .ok (.getfield 28, 3) := by decide +kernel
theorem dX0_addLine_56 : decode cX0_addLine 56 = .ok (.iconst 1, 1) := by decide +kernel
theorem dX0_addLine_57 : decode cX0_addLine 57 = .ok (.iadd, 1) := by decide +kernel
theorem dX0_addLine_58 : decode cX0_addLine 58 = .ok (.putfield 28, 3) := by decide +kernel
theorem dX0_addLine_61 : decode cX0_addLine 61 = .ok (.aload_n 0, 1) := by decide +kernel
theorem dX0_addLine_62 : decode cX0_addLine 62 = .ok (.getfield 28, 3) := by decide +kernel
theorem dX0_addLine_65 : decode cX0_addLine 65 = .ok (.ireturn, 1) := by decide +kernel
theorem dX0_goRound_0 : decode cX0_goRound 0 = .ok (.aload_n 0, 1) := by decide +kernel
theorem dX0_goRound_1 : decode cX0_goRound 1 = .ok (.iload_n 1, 1) := by decide +kernel
theorem dX0_goRound_2 : decode cX0_goRound 2 = .ok (.invokevirtual 44, 3) := by decide +kernel
theorem dX0_goRound_5 : decode cX0_goRound 5 = .ok (.astore_n 2, 1) := by decide +kernel
theorem dX0_goRound_6 : decode cX0_goRound 6 = .ok (.aload_n 2, 1) := by decide +kernel
theorem dX0_goRound_7 : decode cX0_goRound 7 = .ok (.ifnonnull 5, 3) := by decide +kernel
theorem dX0_goRound_10 : decode cX0_goRound 10 = .ok (.iconst (-1), 1) := by decide +kernel
theorem dX0_goRound_11 : decode cX0_goRound 11 = .ok (.ireturn, 1) := by decide +kernel
theorem dX0_goRound_12 : decode cX0_goRound 12 = .ok (.aload_n 0, 1) := by decide +kernel
theorem dX0_goRound_13 : decode cX0_goRound 13 = .ok (.getfield 28, 3) := by decide +kernel
theorem dX0_goRound_16 : decode cX0_goRound 16 = .ok (.ifCond .ne 8, 3) := by decide +kernel
theorem dX0_goRound_19 : decode cX0_goRound 19 = .ok (.bipush (-3), 2) := by decide +kernel
theorem dX0_goRound_21 : decode cX0_goRound 21 = .ok (.goto 8, 3) := by decide +kernel
theorem dX0_goRound_24 : decode cX0_goRound 24 = .ok (.aload_n 0, 1) := by decide +kernel
theorem dX0_goRound_25 : decode cX0_goRound 25 = .ok (.aload_n 2, 1) := by decide +kernel
theorem dX0_goRound_26 : decode cX0_goRound 26 = .ok (.invokevirtual 76, 3) := by decide +kernel
theorem dX0_goRound_29 : decode cX0_goRound 29 = .ok (.ireturn, 1) := by decide +kernel
theorem dX0_goRounds_0 : decode cX0_goRounds 0 = .ok (.aload_n 0, 1) := by decide +kernel
theorem dX0_goRounds_1 : decode cX0_goRounds 1 = .ok (.iload_n 1, 1) := by decide +kernel
theorem dX0_goRounds_2 : decode cX0_goRounds 2 = .ok (.invokevirtual 44, 3) := by decide +kernel
theorem dX0_goRounds_5 : decode cX0_goRounds 5 = .ok (.astore_n 2, 1) := by decide +kernel
theorem dX0_goRounds_6 : decode cX0_goRounds 6 = .ok (.aload_n 2, 1) := by decide +kernel
theorem dX0_goRounds_7 : decode cX0_goRounds 7 = .ok (.ifnonnull 5, 3) := by decide +kernel
theorem dX0_goRounds_10 : decode cX0_goRounds 10 = .ok (.iconst (-1), 1) := by decide +kernel
theorem dX0_goRounds_11 : decode cX0_goRounds 11 = .ok (.ireturn, 1) := by decide +kernel
theorem dX0_goRounds_12 : decode cX0_goRounds 12 = .ok (.aload_n 0, 1) := by decide +kernel
theorem dX0_goRounds_13 : decode cX0_goRounds 13 = .ok (.getfield 28, 3) := by decide +kernel
theorem dX0_goRounds_16 : decode cX0_goRounds 16 = .ok (.ifCond .ne 6, 3) := by decide +kernel
theorem dX0_goRounds_19 : decode cX0_goRounds 19 = .ok (.bipush (-3), 2) := by decide +kernel
theorem dX0_goRounds_21 : decode cX0_goRounds 21 = .ok (.ireturn, 1) := by decide +kernel
theorem dX0_goRounds_22 : decode cX0_goRounds 22 = .ok (.iconst 1, 1) := by decide +kernel
theorem dX0_goRounds_23 : decode cX0_goRounds 23 = .ok (.istore_n 3, 1) := by decide +kernel
theorem dX0_goRounds_24 : decode cX0_goRounds 24 = .ok (.iload_n 3, 1) := by decide +kernel
theorem dX0_goRounds_25 : decode cX0_goRounds 25 = .ok (.bipush 50, 2) := by decide +kernel
theorem dX0_goRounds_27 : decode cX0_goRounds 27 = .ok (.if_icmp .ge 19, 3) := by decide +kernel
theorem dX0_goRounds_30 : decode cX0_goRounds 30 = .ok (.aload_n 0, 1) := by decide +kernel
theorem dX0_goRounds_31 : decode cX0_goRounds 31 = .ok (.aload_n 2, 1) := by decide +kernel
theorem dX0_goRounds_32 : decode cX0_goRounds 32 = .ok (.invokevirtual 76, 3) := by decide +kernel
theorem dX0_goRounds_35 : decode cX0_goRounds 35 = .ok (.ifCond .ne 5, 3) := by decide +kernel
theorem dX0_goRounds_38 : decode cX0_goRounds 38 = .ok (.iload_n 3, 1) := by decide +kernel
theorem dX0_goRounds_39 : decode cX0_goRounds 39 = .ok (.ireturn, 1) := by decide +kernel
theorem dX0_goRounds_40 : decode cX0_goRounds 40 = .ok (.iinc 3 1, 3) := by decide +kernel
theorem dX0_goRounds_43 : decode cX0_goRounds 43 = .ok (.goto (-19), 3) := by decide +kernel
theorem dX0_goRounds_46 : decode cX0_goRounds 46 = .ok (.aload_n 0, 1) := by decide +kernel
theorem dX0_goRounds_47 : decode cX0_goRounds 47 = .ok (.aload_n 2, 1) := by decide +kernel
theorem dX0_goRounds_48 : decode cX0_goRounds 48 = .ok (.invokevirtual 76, 3) := by decide +kernel
theorem dX0_goRounds_51 : decode cX0_goRounds 51 = .ok (.pop, 1) := by decide +kernel
theorem dX0_goRounds_52 : decode cX0_goRounds 52 = .ok (.bipush 50, 2) := by decide +kernel
theorem dX0_goRounds_54 : decode cX0_goRounds 54 = .ok (.ireturn, 1) := by decide +kernel
theorem dX0_find_0 : decode cX0_find 0 = .ok (.iload_n 1, 1) := by decide +kernel
theorem dX0_find_1 : decode cX0_find 1 = .ok (.iconst 0, 1) := by decide +kernel
theorem dX0_find_2 : decode cX0_find 2 = .ok (.aload_n 0, 1) := by decide +kernel
theorem dX0_find_3 : decode cX0_find 3 = .ok (.getfield 24, 3) := by decide +kernel
theorem dX0_find_6 : decode cX0_find 6 = .ok (.iconst 1, 1) := by decide +kernel
theorem dX0_find_7 : decode cX0_find 7 = .ok (.isub, 1) := by decide +kernel
theorem dX0_find_8 : decode cX0_find 8 = .ok (.invokestatic 52, 3) := by decide +kernel
theorem dX0_find_11 : decode cX0_find 11 = .ok (.ifCond .eq 12, 3) := by decide +kernel
theorem dX0_find_14 : decode cX0_find 14 = .ok (.aload_n 0, 1) := by decide +kernel
theorem dX0_find_15 : decode cX0_find 15 = .ok (.getfield 11, 3) := by decide +kernel
theorem dX0_find_18 : decode cX0_find 18 = .ok (.iload_n 1, 1) := by decide +kernel
theorem dX0_find_19 : decode cX0_find 19 = .ok (.aaload, 1) := by decide +kernel
theorem dX0_find_20 : decode cX0_find 20 = .ok (.goto 4, 3) := by decide +kernel
theorem dX0_find_23 : decode cX0_find 23 = .ok (.aconst_null, 1) := by decide +kernel
theorem dX0_find_24 : decode cX0_find 24 = .ok (.areturn, 1) := by decide +kernel
theorem dX0_isPart_0 : decode cX0_isPart 0 = .ok (.iload_n 0, 1) := by decide +kernel
theorem dX0_isPart_1 : decode cX0_isPart 1 = .ok (.iconst 0, 1) := by decide +kernel
theorem dX0_isPart_2 : decode cX0_isPart 2 = .ok (.iconst 5, 1) := by decide +kernel
theorem dX0_isPart_3 : decode cX0_isPart 3 = .ok (.invokestatic 52, 3) := by decide +kernel
theorem dX0_isPart_6 : decode cX0_isPart 6 = .ok (.ireturn, 1) := by decide +kernel
theorem dX0_turnByLines_0 : decode cX0_turnByLines 0 = .ok (.iconst 0, 1) := by decide +kernel
theorem dX0_turnByLines_1 : decode cX0_turnByLines 1 = .ok (.istore_n 2, 1) := by decide +kernel
theorem dX0_turnByLines_2 : decode cX0_turnByLines 2 = .ok (.iconst 0, 1) := by decide +kernel
theorem dX0_turnByLines_3 : decode cX0_turnByLines 3 = .ok (.istore_n 3, 1) := by decide +kernel
theorem dX0_turnByLines_4 : decode cX0_turnByLines 4 = .ok (.iload_n 3, 1) := by decide +kernel
theorem dX0_turnByLines_5 : decode cX0_turnByLines 5 = .ok (.aload_n 0, 1) := by decide +kernel
theorem dX0_turnByLines_6 : decode cX0_turnByLines 6 = .ok (.getfield 28, 3) := by decide +kernel
theorem dX0_turnByLines_9 : decode cX0_turnByLines 9 = .ok (.if_icmp .ge 58, 3) := by decide +kernel
theorem dX0_turnByLines_12 : decode cX0_turnByLines 12 = .ok (.aload_n 0, 1) := by decide +kernel
theorem dX0_turnByLines_13 : decode cX0_turnByLines 13 = .ok (.aload_n 1, 1) := by decide +kernel
theorem dX0_turnByLines_14 : decode cX0_turnByLines 14 = .ok (.aload_n 0, 1) := by decide +kernel
theorem dX0_turnByLines_15 : decode cX0_turnByLines 15 = .ok (.getfield 17, 3) := by decide +kernel
theorem dX0_turnByLines_18 : decode cX0_turnByLines 18 = .ok (.iload_n 3, 1) := by decide +kernel
theorem dX0_turnByLines_19 : decode cX0_turnByLines 19 = .ok (.iaload, 1) := by decide +kernel
theorem dX0_turnByLines_20 : decode cX0_turnByLines 20 = .ok (.aload_n 0, 1) := by decide +kernel
theorem dX0_turnByLines_21 : decode cX0_turnByLines 21 = .ok (.getfield 21, 3) := by decide +kernel
theorem dX0_turnByLines_24 : decode cX0_turnByLines 24 = .ok (.iload_n 3, 1) := by decide +kernel
theorem dX0_turnByLines_25 : decode cX0_turnByLines 25 = .ok (.iaload, 1) := by decide +kernel
theorem dX0_turnByLines_26 : decode cX0_turnByLines 26 = .ok (.invokevirtual 80, 3) := by decide +kernel
theorem dX0_turnByLines_29 : decode cX0_turnByLines 29 = .ok (.istore 4, 2) := by decide +kernel
theorem dX0_turnByLines_31 : decode cX0_turnByLines 31 = .ok (.iload 4, 2) := by decide +kernel
theorem dX0_turnByLines_33 : decode cX0_turnByLines 33 = .ok (.ifCond .ne 23, 3) := by decide +kernel
theorem dX0_turnByLines_36 : decode cX0_turnByLines 36 = .ok (.aload_n 0, 1) := by decide +kernel
theorem dX0_turnByLines_37 : decode cX0_turnByLines 37 = .ok (.aload_n 1, 1) := by decide +kernel
theorem dX0_turnByLines_38 : decode cX0_turnByLines 38 = .ok (.aload_n 0, 1) := by decide +kernel
theorem dX0_turnByLines_39 : decode cX0_turnByLines 39 = .ok (.getfield 17, 3) := by decide +kernel
theorem dX0_turnByLines_42 : decode cX0_turnByLines 42 = .ok (.iload_n 3, 1) := by decide +kernel
theorem dX0_turnByLines_43 : decode cX0_turnByLines 43 = .ok (.iaload, 1) := by decide +kernel
theorem dX0_turnByLines_44 : decode cX0_turnByLines 44 = .ok (.aload_n 0, 1) := by decide +kernel
theorem dX0_turnByLines_45 : decode cX0_turnByLines 45 = .ok (.getfield 21, 3) := by decide +kernel
theorem dX0_turnByLines_48 : decode cX0_turnByLines 48 = .ok (.iload_n 3, 1) := by decide +kernel
theorem dX0_turnByLines_49 : decode cX0_turnByLines 49 = .ok (.iaload, 1) := by decide +kernel
theorem dX0_turnByLines_50 : decode cX0_turnByLines 50 = .ok (.ineg, 1) := by decide +kernel
theorem dX0_turnByLines_51 : decode cX0_turnByLines 51 = .ok (.invokevirtual 80, 3) := by decide +kernel
theorem dX0_turnByLines_54 : decode cX0_turnByLines 54 = .ok (.istore 4, 2) := by decide +kernel
theorem dX0_turnByLines_56 : decode cX0_turnByLines 56 = .ok (.iload_n 2, 1) := by decide +kernel
theorem dX0_turnByLines_57 : decode cX0_turnByLines 57 = .ok (.iload 4, 2) := by decide +kernel
theorem dX0_turnByLines_59 : decode cX0_turnByLines 59 = .ok (.iadd, 1) := by decide +kernel
theorem dX0_turnByLines_60 : decode cX0_turnByLines 60 = .ok (.istore_n 2, 1) := by decide +kernel
theorem dX0_turnByLines_61 : decode cX0_turnByLines 61 = .ok (.iinc 3 1, 3) := by decide +kernel
theorem dX0_turnByLines_64 : decode cX0_turnByLines 64 = .ok (.goto (-60), 3) := by decide +kernel
theorem dX0_turnByLines_67 : decode cX0_turnByLines 67 = .ok (.iload_n 2, 1) := by decide +kernel
theorem dX0_turnByLines_68 : decode cX0_turnByLines 68 = .ok (.ireturn, 1) := by decide +kernel
theorem dX0_turnWhileLess_0 : decode cX0_turnWhileLess 0 = .ok (.aload_n 0, 1) := by decide +kernel
theorem dX0_turnWhileLess_1 : decode cX0_turnWhileLess 1 = .ok (.getfield 31, 3) := by decide +kernel
theorem dX0_turnWhileLess_4 : decode cX0_turnWhileLess 4 = .ok (.aload_n 1, 1) := by decide +kernel
theorem dX0_turnWhileLess_5 : decode cX0_turnWhileLess 5 = .ok (.invokevirtual 61, 3) := by decide +kernel
theorem dX0_turnWhileLess_8 : decode cX0_turnWhileLess 8 = .ok (.aload_n 1, 1) := by decide +kernel
theorem dX0_turnWhileLess_9 : decode cX0_turnWhileLess 9 = .ok (.invokevirtual 68, 3) := by decide +kernel
theorem dX0_turnWhileLess_12 : decode cX0_turnWhileLess 12 = .ok (.invokevirtual 72, 3) := by decide +kernel
theorem dX0_turnWhileLess_15 : decode cX0_turnWhileLess 15 = .ok (.istore 4, 2) := by decide +kernel
theorem dX0_turnWhileLess_17 : decode cX0_turnWhileLess 17 = .ok (.iconst 0, 1) := by decide +kernel
theorem dX0_turnWhileLess_18 : decode cX0_turnWhileLess 18 = .ok (.istore 5, 2) := by decide +kernel
theorem dX0_turnWhileLess_20 : decode cX0_turnWhileLess 20 = .ok (.iload 5, 2) := by decide +kernel
theorem dX0_turnWhileLess_22 : decode cX0_turnWhileLess 22 = .ok (.bipush 30, 2) := by decide +kernel
theorem dX0_turnWhileLess_24 : decode cX0_turnWhileLess 24 = .ok (.if_icmp .ge 53, 3) := by decide +kernel
theorem dX0_turnWhileLess_27 : decode cX0_turnWhileLess 27 = .ok (.aload_n 1, 1) := by decide +kernel
theorem dX0_turnWhileLess_28 : decode cX0_turnWhileLess 28 = .ok (.iload_n 2, 1) := by decide +kernel
theorem dX0_turnWhileLess_29 : decode cX0_turnWhileLess 29 = .ok (.iload_n 3, 1) := by decide +kernel
theorem dX0_turnWhileLess_30 : decode cX0_turnWhileLess 30 = .ok (.invokevirtual 84, 3) := by decide +kernel
theorem dX0_turnWhileLess_33 : decode cX0_turnWhileLess 33 = .ok (.aload_n 0, 1) := by decide +kernel
theorem dX0_turnWhileLess_34 : decode cX0_turnWhileLess 34 = .ok (.getfield 31, 3) := by decide +kernel
theorem dX0_turnWhileLess_37 : decode cX0_turnWhileLess 37 = .ok (.aload_n 1, 1) := by decide +kernel
theorem dX0_turnWhileLess_38 : decode cX0_turnWhileLess 38 = .ok (.invokevirtual 61, 3) := by decide +kernel
theorem dX0_turnWhileLess_41 : decode cX0_turnWhileLess 41 = .ok (.aload_n 1, 1) := by decide +kernel
theorem dX0_turnWhileLess_42 : decode cX0_turnWhileLess 42 = .ok (.invokevirtual 68, 3) := by decide +kernel
theorem dX0_turnWhileLess_45 : decode cX0_turnWhileLess 45 = .ok (.invokevirtual 72, 3) := by decide +kernel
theorem dX0_turnWhileLess_48 : decode cX0_turnWhileLess 48 = .ok (.istore 6, 2) := by decide +kernel
theorem dX0_turnWhileLess_50 : decode cX0_turnWhileLess 50 = .ok (.iload 6, 2) := by decide +kernel
theorem dX0_turnWhileLess_52 : decode cX0_turnWhileLess 52 = .ok (.iload 4, 2) := by decide +kernel
theorem dX0_turnWhileLess_54 : decode cX0_turnWhileLess 54 = .ok (.if_icmp .lt 13, 3) := by decide +kernel
theorem dX0_turnWhileLess_57 : decode cX0_turnWhileLess 57 = .ok (.aload_n 1, 1) := by decide +kernel
theorem dX0_turnWhileLess_58 : decode cX0_turnWhileLess 58 = .ok (.iload_n 2, 1) := by decide +kernel
theorem dX0_turnWhileLess_59 : decode cX0_turnWhileLess 59 = .ok (.iload_n 3, 1) := by decide +kernel
theorem dX0_turnWhileLess_60 : decode cX0_turnWhileLess 60 = .ok (.ineg, 1) := by decide +kernel
theorem dX0_turnWhileLess_61 : decode cX0_turnWhileLess 61 = .ok (.invokevirtual 84, 3) := by decide +kernel
theorem dX0_turnWhileLess_64 : decode cX0_turnWhileLess 64 = .ok (.iload 5, 2) := by decide +kernel
theorem dX0_turnWhileLess_66 : decode cX0_turnWhileLess 66 = .ok (.ireturn, 1) := by decide +kernel
theorem dX0_turnWhileLess_67 : decode cX0_turnWhileLess 67 = .ok (.iload 6, 2) := by decide +kernel
theorem dX0_turnWhileLess_69 : decode cX0_turnWhileLess 69 = .ok (.istore 4, 2) := by decide +kernel
theorem dX0_turnWhileLess_71 : decode cX0_turnWhileLess 71 = .ok (.iinc 5 1, 3) := by decide +kernel
theorem dX0_turnWhileLess_74 : decode cX0_turnWhileLess 74 = .ok (.goto (-54), 3) := by decide +kernel
theorem dX0_turnWhileLess_77 : decode cX0_turnWhileLess 77 = .ok (.bipush 30, 2) := by decide +kernel
theorem dX0_turnWhileLess_79 : decode cX0_turnWhileLess 79 = .ok (.ireturn, 1) := by decide +kernel
theorem dX1_init_0 : decode cX1_init 0 = .ok (.aload_n 0, 1) := by decide +kernel
theorem dX1_init_1 : decode cX1_init 1 = .ok (.invokespecial 3, 3) := by decide +kernel
theorem dX1_init_4 : decode cX1_init 4 = .ok (.aload_n 0, 1) := by decide +kernel
theorem dX1_init_5 : decode cX1_init 5 = .ok (.bipush 20, 2) := by decide +kernel
theorem dX1_init_7 : decode cX1_init 7 = .ok (.newarray .int, 2) := by decide +kernel
theorem dX1_init_9 : decode cX1_init 9 = .ok (.putfield 9, 3) := by decide +kernel
theorem dX1_init_12 : decode cX1_init 12 = .ok (.aload_n 0, 1) := by decide +kernel
theorem dX1_init_13 : decode cX1_init 13 = .ok (.bipush 20, 2) := by decide +kernel
theorem dX1_init_15 : decode cX1_init 15 = .ok (.newarray .int, 2) := by decide +kernel
theorem dX1_init_17 : decode cX1_init 17 = .ok (.putfield 15, 3) := by decide +kernel
theorem dX1_init_20 : decode cX1_init 20 = .ok (.aload_n 0, 1) := by decide +kernel
theorem dX1_init_21 : decode cX1_init 21 = .ok (.iconst 4, 1) := by decide +kernel
theorem dX1_init_22 : decode cX1_init 22 = .ok (.newarray .int, 2) := by decide +kernel
theorem dX1_init_24 : decode cX1_init 24 = .ok (.dup, 1) := by decide +kernel
theorem dX1_init_25 : decode cX1_init 25 = .ok (.iconst 0, 1) := by decide +kernel
theorem dX1_init_26 : decode cX1_init 26 = .ok (.sipush 450, 3) := by decide +kernel
theorem dX1_init_29 : decode cX1_init 29 = .ok (.iastore, 1) := by decide +kernel
theorem dX1_init_30 : decode cX1_init 30 = .ok (.dup, 1) := by decide +kernel
theorem dX1_init_31 : decode cX1_init 31 = .ok (.iconst 1, 1) := by decide +kernel
theorem dX1_init_32 : decode cX1_init 32 = .ok (.iconst 1, 1) := by decide +kernel
theorem dX1_init_33 : decode cX1_init 33 = .ok (.iastore, 1) := by decide +kernel
theorem dX1_init_34 : decode cX1_init 34 = .ok (.dup, 1) := by decide +kernel
theorem dX1_init_35 : decode cX1_init 35 = .ok (.iconst 2, 1) := by decide +kernel
theorem dX1_init_36 : decode cX1_init 36 = .ok (.iconst 2, 1) := by decide +kernel
theorem dX1_init_37 : decode cX1_init 37 = .ok (.iastore, 1) := by decide +kernel
theorem dX1_init_38 : decode cX1_init 38 = .ok (.dup, 1) := by decide +kernel
theorem dX1_init_39 : decode cX1_init 39 = .ok (.iconst 3, 1) := by decide +kernel
theorem dX1_init_40 : decode cX1_init 40 = .ok (.iconst 5, 1) := by decide +kernel
theorem dX1_init_41 : decode cX1_init 41 = .ok (.iastore, 1) := by decide +kernel
theorem dX1_init_42 : decode cX1_init 42 = .ok (.putfield 18, 3) := by decide +kernel
theorem dX1_init_45 : decode cX1_init 45 = .ok (.aload_n 0, 1) := by decide +kernel
theorem dX1_init_46 : decode cX1_init 46 = .ok (.new 21, 3) := by decide +kernel
theorem dX1_init_49 : decode cX1_init 49 = .ok (.dup, 1) := by decide +kernel
theorem dX1_init_50 : decode cX1_init 50 = .ok (.invokespecial 23, 3) := by decide +kernel
theorem dX1_init_53 : decode cX1_init 53 = .ok (.putfield 24, 3) := by decide +kernel
theorem dX1_init_56 : decode cX1_init 56 = .ok (.aload_n 0, 1) := by decide +kernel
theorem dX1_init_57 : decode cX1_init 57 = .ok (.iconst 0, 1) := by decide +kernel
theorem dX1_init_58 : decode cX1_init 58 = .ok (.putfield 28, 3) := by decide +kernel
theorem dX1_init_61 : decode cX1_init 61 = .ok (.return_, 1) := by decide +kernel
theorem dX1_stations_0 : decode cX1_stations 0 = .ok (.aload_n 0, 1) := by decide +kernel
theorem dX1_stations_1 : decode cX1_stations 1 = .ok (.getfield 28, 3) := by decide +kernel
theorem dX1_stations_4 : decode cX1_stations 4 = .ok (.ireturn, 1) := by decide +kernel
theorem dX1_hasStation_0 : decode cX1_hasStation 0 = .ok (.iload_n 1, 1) := by decide +kernel
theorem dX1_hasStation_1 : decode cX1_hasStation 1 = .ok (.iconst 0, 1) := by decide +kernel
theorem dX1_hasStation_2 : decode cX1_hasStation 2 = .ok (.aload_n 0, 1) := by decide +kernel
theorem dX1_hasStation_3 : decode cX1_hasStation 3 = .ok (.getfield 28, 3) := by decide +kernel
theorem dX1_hasStation_6 : decode cX1_hasStation 6 = .ok (.iconst 1, 1) := by decide +kernel
theorem dX1_hasStation_7 : decode cX1_hasStation 7 = .ok (.isub, 1) := by decide +kernel
theorem dX1_hasStation_8 : decode cX1_hasStation 8 = .ok (.invokestatic 32, 3) := by decide +kernel
theorem dX1_hasStation_11 : decode cX1_hasStation 11 = .ok (.ireturn, 1) := by decide +kernel
theorem dX1_middle_0 : decode cX1_middle 0 = .ok (.aload_n 0, 1) := by decide +kernel
theorem dX1_middle_1 : decode cX1_middle 1 = .ok (.getfield 18, 3) := by decide +kernel
theorem dX1_middle_4 : decode cX1_middle 4 = .ok (.iconst 0, 1) := by decide +kernel
theorem dX1_middle_5 : decode cX1_middle 5 = .ok (.iaload, 1) := by decide +kernel
theorem dX1_middle_6 : decode cX1_middle 6 = .ok (.ireturn, 1) := by decide +kernel
theorem dX1_isOver_0 : decode cX1_isOver 0 = .ok (.aload_n 0, 1) := by decide +kernel
theorem dX1_isOver_1 : decode cX1_isOver 1 = .ok (.getfield 18, 3) := by decide +kernel
theorem dX1_isOver_4 : decode cX1_isOver 4 = .ok (.iconst 1, 1) := by decide +kernel
theorem dX1_isOver_5 : decode cX1_isOver 5 = .ok (.iaload, 1) := by decide +kernel
theorem dX1_isOver_6 : decode cX1_isOver 6 = .ok (.iconst 1, 1) := by decide +kernel
theorem dX1_isOver_7 : decode cX1_isOver 7 = .ok (.if_icmp .ne 7, 3) := by decide +kernel
theorem dX1_isOver_10 : decode cX1_isOver 10 = .ok (.iconst 1, 1) := by decide +kernel
theorem dX1_isOver_11 : decode cX1_isOver 11 = .ok (.goto 4, 3) := by decide +kernel
theorem dX1_isOver_14 : decode cX1_isOver 14 = .ok (.iconst 0, 1) := by decide +kernel
theorem dX1_isOver_15 : decode cX1_isOver 15 = .ok (.ireturn, 1) := by decide +kernel
theorem dX1_addStation_0 : decode cX1_addStation 0 = .ok (.iload_n 1, 1) := by decide +kernel
theorem dX1_addStation_1 : decode cX1_addStation 1 = .ok (.bipush 100, 2) := by decide +kernel
theorem dX1_addStation_3 : decode cX1_addStation 3 = .ok (.sipush 3000, 3) := by decide +kernel
theorem dX1_addStation_6 : decode cX1_addStation 6 = .ok (.invokestatic 32, 3) := by decide +kernel
theorem dX1_addStation_9 : decode cX1_addStation 9 = .ok (.ifCond .eq 14, 3) := by decide +kernel
theorem dX1_addStation_12 : decode cX1_addStation 12 = .ok (.iload_n 2, 1) := by decide +kernel
theorem dX1_addStation_13 : decode cX1_addStation 13 = .ok (.iconst 1, 1) := by decide +kernel
theorem dX1_addStation_14 : decode cX1_addStation 14 = .ok (.sipush 999, 3) := by decide +kernel
theorem dX1_addStation_17 : decode cX1_addStation 17 = .ok (.invokestatic 32, 3) := by decide +kernel
theorem dX1_addStation_20 : decode cX1_addStation 20 = .ok (.ifCond .ne 5, 3) := by decide +kernel
theorem dX1_addStation_23 : decode cX1_addStation 23 = .ok (.iconst (-1), 1) := by decide +kernel
theorem dX1_addStation_24 : decode cX1_addStation 24 = .ok (.ireturn, 1) := by decide +kernel
theorem dX1_addStation_25 : decode cX1_addStation 25 = .ok (.aload_n 0, 1) := by decide +kernel
theorem dX1_addStation_26 : decode cX1_addStation 26 = .ok (.getfield 28, 3) := by decide +kernel
theorem dX1_addStation_29 : decode cX1_addStation 29 = .ok (.bipush 20, 2) := by decide +kernel
theorem dX1_addStation_31 : decode cX1_addStation 31 = .ok (.if_icmp .lt 6, 3) := by decide +kernel
theorem dX1_addStation_34 : decode cX1_addStation 34 = .ok (.bipush (-2), 2) := by decide +kernel
theorem dX1_addStation_36 : decode cX1_addStation 36 = .ok (.ireturn, 1) := by decide +kernel
theorem dX1_addStation_37 : decode cX1_addStation 37 = .ok (.aload_n 0, 1) := by decide +kernel
theorem dX1_addStation_38 : decode cX1_addStation 38 = .ok (.getfield 9, 3) := by decide +kernel
theorem dX1_addStation_41 : decode cX1_addStation 41 = .ok (.aload_n 0, 1) := by decide +kernel
theorem dX1_addStation_42 : decode cX1_addStation 42 = .ok (.getfield 28, 3) := by decide +kernel
theorem dX1_addStation_45 : decode cX1_addStation 45 = .ok (.iload_n 1, 1) := by decide +kernel
theorem dX1_addStation_46 : decode cX1_addStation 46 = .ok (.iastore, 1) := by decide +kernel
theorem dX1_addStation_47 : decode cX1_addStation 47 = .ok (.aload_n 0, 1) := by decide +kernel
theorem dX1_addStation_48 : decode cX1_addStation 48 = .ok (.getfield 15, 3) := by decide +kernel
theorem dX1_addStation_51 : decode cX1_addStation 51 = .ok (.aload_n 0, 1) := by decide +kernel
theorem dX1_addStation_52 : decode cX1_addStation 52 = .ok (.getfield 28, 3) := by decide +kernel
theorem dX1_addStation_55 : decode cX1_addStation 55 = .ok (.iload_n 2, 1) := by decide +kernel
theorem dX1_addStation_56 : decode cX1_addStation 56 = .ok (.iastore, 1) := by decide +kernel
theorem dX1_addStation_57 : decode cX1_addStation 57 = .ok (.aload_n 0, 1) := by decide +kernel
theorem dX1_addStation_58 : decode cX1_addStation 58 = .ok (.dup, 1) := by decide +kernel
theorem dX1_addStation_59 : decode cX1_addStation 59 = .ok (.getfield 28, 3) := by decide +kernel
theorem dX1_addStation_62 : decode cX1_addStation 62 = .ok (.iconst 1, 1) := by decide +kernel
theorem dX1_addStation_63 : decode cX1_addStation 63 = .ok (.iadd, 1) := by decide +kernel
theorem dX1_addStation_64 : decode cX1_addStation 64 = .ok (.putfield 28, 3) := by decide +kernel
theorem dX1_addStation_67 : decode cX1_addStation 67 = .ok (.aload_n 0, 1) := by decide +kernel
theorem dX1_addStation_68 : decode cX1_addStation 68 = .ok (.getfield 28, 3) := by decide +kernel
theorem dX1_addStation_71 : decode cX1_addStation 71 = .ok (.iconst 1, 1) := by decide +kernel
theorem dX1_addStation_72 : decode cX1_addStation 72 = .ok (.isub, 1) := by decide +kernel
theorem dX1_addStation_73 : decode cX1_addStation 73 = .ok (.ireturn, 1) := by decide +kernel
theorem dX1_change_0 : decode cX1_change 0 = .ok (.iload_n 1, 1) := by decide +kernel
theorem dX1_change_1 : decode cX1_change 1 = .ok (.iconst 0, 1) := by decide +kernel
theorem dX1_change_2 : decode cX1_change 2 = .ok (.iconst 3, 1) := by decide +kernel
theorem dX1_change_3 : decode cX1_change 3 = .ok (.invokestatic 32, 3) := by decide +kernel
theorem dX1_change_6 : decode cX1_change 6 = .ok (.ifCond .eq 20, 3) := by decide +kernel
theorem dX1_change_9 : decode cX1_change 9 = .ok (.iload_n 2, 1) := by decide +kernel
theorem dX1_change_10 : decode cX1_change 10 = .ok (.getstatic 36, 3) := by decide +kernel
theorem dX1_change_13 : decode cX1_change 13 = .ok (.iload_n 1, 1) := by decide +kernel
theorem dX1_change_14 : decode cX1_change 14 = .ok (.iaload, 1) := by decide +kernel
theorem dX1_change_15 : decode cX1_change 15 = .ok (.getstatic 39, 3) := by decide +kernel
theorem dX1_change_18 : decode cX1_change 18 = .ok (.iload_n 1, 1) := by decide +kernel
theorem dX1_change_19 : decode cX1_change 19 = .ok (.iaload, 1) := by decide +kernel
theorem dX1_change_20 : decode cX1_change 20 = .ok (.invokestatic 32, 3) := by decide +kernel
theorem dX1_change_23 : decode cX1_change 23 = .ok (.ifCond .ne 5, 3) := by decide +kernel
theorem dX1_change_26 : decode cX1_change 26 = .ok (.iconst (-1), 1) := by decide +kernel
theorem dX1_change_27 : decode cX1_change 27 = .ok (.ireturn, 1) := by decide +kernel
theorem dX1_change_28 : decode cX1_change 28 = .ok (.aload_n 0, 1) := by decide +kernel
theorem dX1_change_29 : decode cX1_change 29 = .ok (.getfield 18, 3) := by decide +kernel
theorem dX1_change_32 : decode cX1_change 32 = .ok (.iload_n 1, 1) := by decide +kernel
theorem dX1_change_33 : decode cX1_change 33 = .ok (.iaload, 1) := by decide +kernel
theorem dX1_change_34 : decode cX1_change 34 = .ok (.istore_n 3, 1) := by decide +kernel
theorem dX1_change_35 : decode cX1_change 35 = .ok (.aload_n 0, 1) := by decide +kernel
theorem dX1_change_36 : decode cX1_change 36 = .ok (.getfield 18, 3) := by decide +kernel
theorem dX1_change_39 : decode cX1_change 39 = .ok (.iload_n 1, 1) := by decide +kernel
theorem dX1_change_40 : decode cX1_change 40 = .ok (.iload_n 2, 1) := by decide +kernel
theorem dX1_change_41 : decode cX1_change 41 = .ok (.iastore, 1) := by decide +kernel
theorem dX1_change_42 : decode cX1_change 42 = .ok (.iload_n 3, 1) := by decide +kernel
theorem dX1_change_43 : decode cX1_change 43 = .ok (.ireturn, 1) := by decide +kernel
theorem dX1_oscillatorFor_0 : decode cX1_oscillatorFor 0 = .ok (.aload_n 0, 1) := by decide +kernel
theorem dX1_oscillatorFor_1 : decode cX1_oscillatorFor 1 = .ok (.invokevirtual 42, 3) := by decide +kernel
theorem dX1_oscillatorFor_4 : decode cX1_oscillatorFor 4 = .ok (.ifCond .eq 14, 3) := by decide +kernel
theorem dX1_oscillatorFor_7 : decode cX1_oscillatorFor 7 = .ok (.aload_n 0, 1) := by decide +kernel
theorem dX1_oscillatorFor_8 : decode cX1_oscillatorFor 8 = .ok (.getfield 9, 3) := by decide +kernel
theorem dX1_oscillatorFor_11 : decode cX1_oscillatorFor 11 = .ok (.iload_n 1, 1) := by decide +kernel
theorem dX1_oscillatorFor_12 : decode cX1_oscillatorFor 12 = .ok (.iaload, 1) := by decide +kernel
theorem dX1_oscillatorFor_13 : decode cX1_oscillatorFor 13 = .ok (.iload_n 2, 1) := by decide +kernel
theorem dX1_oscillatorFor_14 : decode cX1_oscillatorFor 14 = .ok (.iadd, 1) := by decide +kernel
theorem dX1_oscillatorFor_15 : decode cX1_oscillatorFor 15 = .ok (.goto 11, 3) := by decide +kernel
theorem dX1_oscillatorFor_18 : decode cX1_oscillatorFor 18 = .ok (.aload_n 0, 1) := by decide +kernel
theorem dX1_oscillatorFor_19 : decode cX1_oscillatorFor 19 = .ok (.getfield 9, 3) := by decide +kernel
theorem dX1_oscillatorFor_22 : decode cX1_oscillatorFor 22 = .ok (.iload_n 1, 1) := by decide +kernel
theorem dX1_oscillatorFor_23 : decode cX1_oscillatorFor 23 = .ok (.iaload, 1) := by decide +kernel
theorem dX1_oscillatorFor_24 : decode cX1_oscillatorFor 24 = .ok (.iload_n 2, 1) := by decide +kernel
theorem dX1_oscillatorFor_25 : decode cX1_oscillatorFor 25 = .ok (.isub, 1) := by decide +kernel
theorem dX1_oscillatorFor_26 : decode cX1_oscillatorFor 26 = .ok (.ireturn, 1) := by decide +kernel
theorem dX1_spursOf_0 : decode cX1_spursOf 0 = .ok (.aload_n 0, 1) := by decide +kernel
theorem dX1_spursOf_1 : decode cX1_spursOf 1 = .ok (.iload_n 1, 1) := by decide +kernel
theorem dX1_spursOf_2 : decode cX1_spursOf 2 = .ok (.aload_n 0, 1) := by decide +kernel
theorem dX1_spursOf_3 : decode cX1_spursOf 3 = .ok (.invokevirtual 46, 3) := by decide +kernel
theorem dX1_spursOf_6 : decode cX1_spursOf 6 = .ok (.iconst (-1), 1) := by decide +kernel
theorem dX1_spursOf_7 : decode cX1_spursOf 7 = .ok (.invokevirtual 50, 3) := by decide +kernel
theorem dX1_spursOf_10 : decode cX1_spursOf 10 = .ok (.aload_n 0, 1) := by decide +kernel
theorem dX1_spursOf_11 : decode cX1_spursOf 11 = .ok (.getfield 24, 3) := by decide +kernel
theorem dX1_spursOf_14 : decode cX1_spursOf 14 = .ok (.invokevirtual 54, 3) := by decide +kernel
theorem dX1_spursOf_17 : decode cX1_spursOf 17 = .ok (.ireturn, 1) := by decide +kernel
theorem dX1_spursOfAll_0 : decode cX1_spursOfAll 0 = .ok (.iconst 0, 1) := by decide +kernel
theorem dX1_spursOfAll_1 : decode cX1_spursOfAll 1 = .ok (.istore_n 1, 1) := by decide +kernel
theorem dX1_spursOfAll_2 : decode cX1_spursOfAll 2 = .ok (.iconst 0, 1) := by decide +kernel
theorem dX1_spursOfAll_3 : decode cX1_spursOfAll 3 = .ok (.istore_n 2, 1) := by decide +kernel
theorem dX1_spursOfAll_4 : decode cX1_spursOfAll 4 = .ok (.iload_n 2, 1) := by decide +kernel
theorem dX1_spursOfAll_5 : decode cX1_spursOfAll 5 = .ok (.aload_n 0, 1) := by decide +kernel
theorem dX1_spursOfAll_6 : decode cX1_spursOfAll 6 = .ok (.getfield 28, 3) := by decide +kernel
theorem dX1_spursOfAll_9 : decode cX1_spursOfAll 9 = .ok (.if_icmp .ge 17, 3) := by decide +kernel
theorem dX1_spursOfAll_12 : decode cX1_spursOfAll 12 = .ok (.iload_n 1, 1) := by decide +kernel
theorem dX1_spursOfAll_13 : decode cX1_spursOfAll 13 = .ok (.aload_n 0, 1) := by decide +kernel
theorem dX1_spursOfAll_14 : decode cX1_spursOfAll 14 = .ok (.iload_n 2, 1) := by decide +kernel
theorem dX1_spursOfAll_15 : decode cX1_spursOfAll 15 = .ok (.invokevirtual 57, 3) := by decide +kernel
theorem dX1_spursOfAll_18 : decode cX1_spursOfAll 18 = .ok (.iadd, 1) := by decide +kernel
theorem dX1_spursOfAll_19 : decode cX1_spursOfAll 19 = .ok (.istore_n 1, 1) := by decide +kernel
theorem dX1_spursOfAll_20 : decode cX1_spursOfAll 20 = .ok (.iinc 2 1, 3) := by decide +kernel
theorem dX1_spursOfAll_23 : decode cX1_spursOfAll 23 = .ok (.goto (-19), 3) := by decide +kernel
theorem dX1_spursOfAll_26 : decode cX1_spursOfAll 26 = .ok (.iload_n 1, 1) := by decide +kernel
theorem dX1_spursOfAll_27 : decode cX1_spursOfAll 27 = .ok (.ireturn, 1) := by decide +kernel
theorem dX1_ofSpur_0 : decode cX1_ofSpur 0 = .ok (.iload_n 2, 1) := by decide +kernel
theorem dX1_ofSpur_1 : decode cX1_ofSpur 1 = .ok (.ifCond .lt 12, 3) := by decide +kernel
theorem dX1_ofSpur_4 : decode cX1_ofSpur 4 = .ok (.iload_n 3, 1) := by decide +kernel
theorem dX1_ofSpur_5 : decode cX1_ofSpur 5 = .ok (.iconst 0, 1) := by decide +kernel
theorem dX1_ofSpur_6 : decode cX1_ofSpur 6 = .ok (.iconst 4, 1) := by decide +kernel
theorem dX1_ofSpur_7 : decode cX1_ofSpur 7 = .ok (.invokestatic 32, 3) := by decide +kernel
theorem dX1_ofSpur_10 : decode cX1_ofSpur 10 = .ok (.ifCond .ne 5, 3) := by decide +kernel
theorem dX1_ofSpur_13 : decode cX1_ofSpur 13 = .ok (.iconst (-1), 1) := by decide +kernel
theorem dX1_ofSpur_14 : decode cX1_ofSpur 14 = .ok (.ireturn, 1) := by decide +kernel
theorem dX1_ofSpur_15 : decode cX1_ofSpur 15 = .ok (.aload_n 0, 1) := by decide +kernel
theorem dX1_ofSpur_16 : decode cX1_ofSpur 16 = .ok (.iload_n 1, 1) := by decide +kernel
theorem dX1_ofSpur_17 : decode cX1_ofSpur 17 = .ok (.aload_n 0, 1) := by decide +kernel
theorem dX1_ofSpur_18 : decode cX1_ofSpur 18 = .ok (.invokevirtual 46, 3) := by decide +kernel
theorem dX1_ofSpur_21 : decode cX1_ofSpur 21 = .ok (.iload_n 2, 1) := by decide +kernel
theorem dX1_ofSpur_22 : decode cX1_ofSpur 22 = .ok (.invokevirtual 50, 3) := by decide +kernel
theorem dX1_ofSpur_25 : decode cX1_ofSpur 25 = .ok (.iload_n 2, 1) := by decide +kernel
theorem dX1_ofSpur_26 : decode cX1_ofSpur 26 = .ok (.aload_n 0, 1) := by decide +kernel
theorem dX1_ofSpur_27 : decode cX1_ofSpur 27 = .ok (.getfield 24, 3) := by decide +kernel
theorem dX1_ofSpur_30 : decode cX1_ofSpur 30 = .ok (.invokevirtual 54, 3) := by decide +kernel
theorem dX1_ofSpur_33 : decode cX1_ofSpur 33 = .ok (.if_icmp .ge 14, 3) := by decide +kernel
theorem dX1_ofSpur_36 : decode cX1_ofSpur 36 = .ok (.aload_n 0, 1) := by decide +kernel
theorem dX1_ofSpur_37 : decode cX1_ofSpur 37 = .ok (.getfield 24, 3) := by decide +kernel
theorem dX1_ofSpur_40 : decode cX1_ofSpur 40 = .ok (.iload_n 3, 1) := by decide +kernel
theorem dX1_ofSpur_41 : decode cX1_ofSpur 41 = .ok (.invokevirtual 61, 3) := by decide +kernel
theorem dX1_ofSpur_44 : decode cX1_ofSpur 44 = .ok (.goto 4, 3) := by decide +kernel
theorem dX1_ofSpur_47 : decode cX1_ofSpur 47 = .ok (.iconst (-1), 1) := by decide +kernel
theorem dX1_ofSpur_48 : decode cX1_ofSpur 48 = .ok (.ireturn, 1) := by decide +kernel
theorem dX1_worstOf_0 : decode cX1_worstOf 0 = .ok (.aload_n 0, 1) := by decide +kernel
theorem dX1_worstOf_1 : decode cX1_worstOf 1 = .ok (.iload_n 1, 1) := by decide +kernel
theorem dX1_worstOf_2 : decode cX1_worstOf 2 = .ok (.aload_n 0, 1) := by decide +kernel
theorem dX1_worstOf_3 : decode cX1_worstOf 3 = .ok (.invokevirtual 46, 3) := by decide +kernel
theorem dX1_worstOf_6 : decode cX1_worstOf 6 = .ok (.iconst (-1), 1) := by decide +kernel
theorem dX1_worstOf_7 : decode cX1_worstOf 7 = .ok (.invokevirtual 50, 3) := by decide +kernel
theorem dX1_worstOf_10 : decode cX1_worstOf 10 = .ok (.aload_n 0, 1) := by decide +kernel
theorem dX1_worstOf_11 : decode cX1_worstOf 11 = .ok (.getfield 24, 3) := by decide +kernel
theorem dX1_worstOf_14 : decode cX1_worstOf 14 = .ok (.invokevirtual 54, 3) := by decide +kernel
theorem dX1_worstOf_17 : decode cX1_worstOf 17 = .ok (.ifCond .ne 8, 3) := by decide +kernel
theorem dX1_worstOf_20 : decode cX1_worstOf 20 = .ok (.bipush (-4), 2) := by decide +kernel
theorem dX1_worstOf_22 : decode cX1_worstOf 22 = .ok (.goto 10, 3) := by decide +kernel
theorem dX1_worstOf_25 : decode cX1_worstOf 25 = .ok (.aload_n 0, 1) := by decide +kernel
theorem dX1_worstOf_26 : decode cX1_worstOf 26 = .ok (.getfield 24, 3) := by decide +kernel
theorem dX1_worstOf_29 : decode cX1_worstOf 29 = .ok (.invokevirtual 64, 3) := by decide +kernel
theorem dX1_worstOf_32 : decode cX1_worstOf 32 = .ok (.ireturn, 1) := by decide +kernel
theorem dX1_isImage_0 : decode cX1_isImage 0 = .ok (.aload_n 0, 1) := by decide +kernel
theorem dX1_isImage_1 : decode cX1_isImage 1 = .ok (.iload_n 1, 1) := by decide +kernel
theorem dX1_isImage_2 : decode cX1_isImage 2 = .ok (.aload_n 0, 1) := by decide +kernel
theorem dX1_isImage_3 : decode cX1_isImage 3 = .ok (.invokevirtual 46, 3) := by decide +kernel
theorem dX1_isImage_6 : decode cX1_isImage 6 = .ok (.invokevirtual 67, 3) := by decide +kernel
theorem dX1_isImage_9 : decode cX1_isImage 9 = .ok (.istore_n 3, 1) := by decide +kernel
theorem dX1_isImage_10 : decode cX1_isImage 10 = .ok (.iload_n 1, 1) := by decide +kernel
theorem dX1_isImage_11 : decode cX1_isImage 11 = .ok (.iload_n 2, 1) := by decide +kernel
theorem dX1_isImage_12 : decode cX1_isImage 12 = .ok (.if_icmp .eq 30, 3) := by decide +kernel
theorem dX1_isImage_15 : decode cX1_isImage 15 = .ok (.iload_n 3, 1) := by decide +kernel
theorem dX1_isImage_16 : decode cX1_isImage 16 = .ok (.ifCond .le 26, 3) := by decide +kernel
theorem dX1_isImage_19 : decode cX1_isImage 19 = .ok (.aload_n 0, 1) := by decide +kernel
theorem dX1_isImage_20 : decode cX1_isImage 20 = .ok (.aload_n 0, 1) := by decide +kernel
theorem dX1_isImage_21 : decode cX1_isImage 21 = .ok (.getfield 9, 3) := by decide +kernel
theorem dX1_isImage_24 : decode cX1_isImage 24 = .ok (.iload_n 2, 1) := by decide +kernel
theorem dX1_isImage_25 : decode cX1_isImage 25 = .ok (.iaload, 1) := by decide +kernel
theorem dX1_isImage_26 : decode cX1_isImage 26 = .ok (.iload_n 3, 1) := by decide +kernel
theorem dX1_isImage_27 : decode cX1_isImage 27 = .ok (.isub, 1) := by decide +kernel
theorem dX1_isImage_28 : decode cX1_isImage 28 = .ok (.aload_n 0, 1) := by decide +kernel
theorem dX1_isImage_29 : decode cX1_isImage 29 = .ok (.invokevirtual 46, 3) := by decide +kernel
theorem dX1_isImage_32 : decode cX1_isImage 32 = .ok (.invokevirtual 71, 3) := by decide +kernel
theorem dX1_isImage_35 : decode cX1_isImage 35 = .ok (.ifCond .eq 7, 3) := by decide +kernel
theorem dX1_isImage_38 : decode cX1_isImage 38 = .ok (.iconst 1, 1) := by decide +kernel
theorem dX1_isImage_39 : decode cX1_isImage 39 = .ok (.goto 4, 3) := by decide +kernel
theorem dX1_isImage_42 : decode cX1_isImage 42 = .ok (.iconst 0, 1) := by decide +kernel
theorem dX1_isImage_43 : decode cX1_isImage 43 = .ok (.ireturn, 1) := by decide +kernel
theorem dX1_birdiesFor_0 : decode cX1_birdiesFor 0 = .ok (.iconst 0, 1) := by decide +kernel
theorem dX1_birdiesFor_1 : decode cX1_birdiesFor 1 = .ok (.istore_n 2, 1) := by decide +kernel
theorem dX1_birdiesFor_2 : decode cX1_birdiesFor 2 = .ok (.iconst 0, 1) := by decide +kernel
theorem dX1_birdiesFor_3 : decode cX1_birdiesFor 3 = .ok (.istore_n 3, 1) := by decide +kernel
theorem dX1_birdiesFor_4 : decode cX1_birdiesFor 4 = .ok (.iload_n 3, 1) := by decide +kernel
theorem dX1_birdiesFor_5 : decode cX1_birdiesFor 5 = .ok (.aload_n 0, 1) := by decide +kernel
theorem dX1_birdiesFor_6 : decode cX1_birdiesFor 6 = .ok (.getfield 28, 3) := by decide +kernel
theorem dX1_birdiesFor_9 : decode cX1_birdiesFor 9 = .ok (.if_icmp .ge 57, 3) := by decide +kernel
theorem dX1_birdiesFor_12 : decode cX1_birdiesFor 12 = .ok (.iconst 2, 1) := by decide +kernel
theorem dX1_birdiesFor_13 : decode cX1_birdiesFor 13 = .ok (.istore 4, 2) := by decide +kernel
theorem dX1_birdiesFor_15 : decode cX1_birdiesFor 15 = .ok (.iload 4, 2) := by decide +kernel
theorem dX1_birdiesFor_17 : decode cX1_birdiesFor 17 = .ok (.aload_n 0, 1) := by decide +kernel
theorem dX1_birdiesFor_18 : decode cX1_birdiesFor 18 = .ok (.getfield 18, 3) := by decide +kernel
theorem dX1_birdiesFor_21 : decode cX1_birdiesFor 21 = .ok (.iconst 2, 1) := by decide +kernel
theorem dX1_birdiesFor_22 : decode cX1_birdiesFor 22 = .ok (.iaload, 1) := by decide +kernel
theorem dX1_birdiesFor_23 : decode cX1_birdiesFor 23 = .ok (.iconst 3, 1) := by decide +kernel
theorem dX1_birdiesFor_24 : decode cX1_birdiesFor 24 = .ok (.iadd, 1) := by decide +kernel
theorem dX1_birdiesFor_25 : decode cX1_birdiesFor 25 = .ok (.if_icmp .gt 35, 3) := by decide +kernel
theorem dX1_birdiesFor_28 : decode cX1_birdiesFor 28 = .ok (.iload 4, 2) := by decide +kernel
theorem dX1_birdiesFor_30 : decode cX1_birdiesFor 30 = .ok (.iload_n 1, 1) := by decide +kernel
theorem dX1_birdiesFor_31 : decode cX1_birdiesFor 31 = .ok (.imul, 1) := by decide +kernel
theorem dX1_birdiesFor_32 : decode cX1_birdiesFor 32 = .ok (.aload_n 0, 1) := by decide +kernel
theorem dX1_birdiesFor_33 : decode cX1_birdiesFor 33 = .ok (.getfield 9, 3) := by decide +kernel
theorem dX1_birdiesFor_36 : decode cX1_birdiesFor 36 = .ok (.iload_n 3, 1) := by decide +kernel
theorem dX1_birdiesFor_37 : decode cX1_birdiesFor 37 = .ok (.iaload, 1) := by decide +kernel
theorem dX1_birdiesFor_38 : decode cX1_birdiesFor 38 = .ok (.isub, 1) := by decide +kernel
theorem dX1_birdiesFor_39 : decode cX1_birdiesFor 39 = .ok (.invokestatic 75, 3) := by decide +kernel
theorem dX1_birdiesFor_42 : decode cX1_birdiesFor 42 = .ok (.aload_n 0, 1) := by decide +kernel
theorem dX1_birdiesFor_43 : decode cX1_birdiesFor 43 = .ok (.getfield 18, 3) := by decide +kernel
theorem dX1_birdiesFor_46 : decode cX1_birdiesFor 46 = .ok (.iconst 3, 1) := by decide +kernel
theorem dX1_birdiesFor_47 : decode cX1_birdiesFor 47 = .ok (.iaload, 1) := by decide +kernel
theorem dX1_birdiesFor_48 : decode cX1_birdiesFor 48 = .ok (.if_icmp .gt 6, 3) := by decide +kernel
theorem dX1_birdiesFor_51 : decode cX1_birdiesFor 51 = .ok (.iinc 2 1, 3) := by decide +kernel
theorem dX1_birdiesFor_54 : decode cX1_birdiesFor 54 = .ok (.iinc 4 1, 3) := by decide +kernel
theorem dX1_birdiesFor_57 : decode cX1_birdiesFor 57 = .ok (.goto (-42), 3) := by decide +kernel
theorem dX1_birdiesFor_60 : decode cX1_birdiesFor 60 = .ok (.iinc 3 1, 3) := by decide +kernel
theorem dX1_birdiesFor_63 : decode cX1_birdiesFor 63 = .ok (.goto (-59), 3) := by decide +kernel
theorem dX1_birdiesFor_66 : decode cX1_birdiesFor 66 = .ok (.iload_n 2, 1) := by decide +kernel
theorem dX1_birdiesFor_67 : decode cX1_birdiesFor 67 = .ok (.ireturn, 1) := by decide +kernel
theorem dX1_loadFor_0 : decode cX1_loadFor 0 = .ok (.bipush 10, 2) := by decide +kernel
theorem dX1_loadFor_2 : decode cX1_loadFor 2 = .ok (.aload_n 0, 1) := by decide +kernel
theorem dX1_loadFor_3 : decode cX1_loadFor 3 = .ok (.iload_n 1, 1) := by decide +kernel
theorem dX1_loadFor_4 : decode cX1_loadFor 4 = .ok (.invokevirtual 80, 3) := by decide +kernel
theorem dX1_loadFor_7 : decode cX1_loadFor 7 = .ok (.imul, 1) := by decide +kernel
theorem dX1_loadFor_8 : decode cX1_loadFor 8 = .ok (.istore_n 2, 1) := by decide +kernel
theorem dX1_loadFor_9 : decode cX1_loadFor 9 = .ok (.iconst 0, 1) := by decide +kernel
theorem dX1_loadFor_10 : decode cX1_loadFor 10 = .ok (.istore_n 3, 1) := by decide +kernel
theorem dX1_loadFor_11 : decode cX1_loadFor 11 = .ok (.iload_n 3, 1) := by decide +kernel
theorem dX1_loadFor_12 : decode cX1_loadFor 12 = .ok (.aload_n 0, 1) := by decide +kernel
theorem dX1_loadFor_13 : decode cX1_loadFor 13 = .ok (.getfield 28, 3) := by decide +kernel
theorem dX1_loadFor_16 : decode cX1_loadFor 16 = .ok (.if_icmp .ge 41, 3) := by decide +kernel
theorem dX1_loadFor_19 : decode cX1_loadFor 19 = .ok (.aload_n 0, 1) := by decide +kernel
theorem dX1_loadFor_20 : decode cX1_loadFor 20 = .ok (.iload_n 3, 1) := by decide +kernel
theorem dX1_loadFor_21 : decode cX1_loadFor 21 = .ok (.iload_n 1, 1) := by decide +kernel
theorem dX1_loadFor_22 : decode cX1_loadFor 22 = .ok (.invokevirtual 67, 3) := by decide +kernel
theorem dX1_loadFor_25 : decode cX1_loadFor 25 = .ok (.ifCond .gt 9, 3) := by decide +kernel
theorem dX1_loadFor_28 : decode cX1_loadFor 28 = .ok (.iinc 2 100, 3) := by decide +kernel
theorem dX1_loadFor_31 : decode cX1_loadFor 31 = .ok (.goto 20, 3) := by decide +kernel
theorem dX1_loadFor_34 : decode cX1_loadFor 34 = .ok (.aload_n 0, 1) := by decide +kernel
theorem dX1_loadFor_35 : decode cX1_loadFor 35 = .ok (.iload_n 3, 1) := by decide +kernel
theorem dX1_loadFor_36 : decode cX1_loadFor 36 = .ok (.iload_n 1, 1) := by decide +kernel
theorem dX1_loadFor_37 : decode cX1_loadFor 37 = .ok (.iconst (-1), 1) := by decide +kernel
theorem dX1_loadFor_38 : decode cX1_loadFor 38 = .ok (.invokevirtual 50, 3) := by decide +kernel
theorem dX1_loadFor_41 : decode cX1_loadFor 41 = .ok (.iload_n 2, 1) := by decide +kernel
theorem dX1_loadFor_42 : decode cX1_loadFor 42 = .ok (.aload_n 0, 1) := by decide +kernel
theorem dX1_loadFor_43 : decode cX1_loadFor 43 = .ok (.getfield 24, 3) := by decide +kernel
theorem dX1_loadFor_46 : decode cX1_loadFor 46 = .ok (.invokevirtual 83, 3) := by decide +kernel
theorem dX1_loadFor_49 : decode cX1_loadFor 49 = .ok (.iadd, 1) := by decide +kernel
theorem dX1_loadFor_50 : decode cX1_loadFor 50 = .ok (.istore_n 2, 1) := by decide +kernel
theorem dX1_loadFor_51 : decode cX1_loadFor 51 = .ok (.iinc 3 1, 3) := by decide +kernel
theorem dX1_loadFor_54 : decode cX1_loadFor 54 = .ok (.goto (-43), 3) := by decide +kernel
theorem dX1_loadFor_57 : decode cX1_loadFor 57 = .ok (.iload_n 2, 1) := by decide +kernel
theorem dX1_loadFor_58 : decode cX1_loadFor 58 = .ok (.ireturn, 1) := by decide +kernel
theorem dX1_bestMiddle_0 : decode cX1_bestMiddle 0 = .ok (.iload_n 1, 1) := by decide +kernel
theorem dX1_bestMiddle_1 : decode cX1_bestMiddle 1 = .ok (.bipush 20, 2) := by decide +kernel
theorem dX1_bestMiddle_3 : decode cX1_bestMiddle 3 = .ok (.sipush 900, 3) := by decide +kernel
theorem dX1_bestMiddle_6 : decode cX1_bestMiddle 6 = .ok (.invokestatic 32, 3) := by decide +kernel
theorem dX1_bestMiddle_9 : decode cX1_bestMiddle 9 = .ok (.ifCond .eq 37, 3) := by decide +kernel
theorem dX1_bestMiddle_12 : decode cX1_bestMiddle 12 = .ok (.iload_n 2, 1) := by decide +kernel
theorem dX1_bestMiddle_13 : decode cX1_bestMiddle 13 = .ok (.iconst 1, 1) := by decide +kernel
theorem dX1_bestMiddle_14 : decode cX1_bestMiddle 14 = .ok (.bipush 99, 2) := by decide +kernel
theorem dX1_bestMiddle_16 : decode cX1_bestMiddle 16 = .ok (.invokestatic 32, 3) := by decide +kernel
theorem dX1_bestMiddle_19 : decode cX1_bestMiddle 19 = .ok (.ifCond .eq 27, 3) := by decide +kernel
theorem dX1_bestMiddle_22 : decode cX1_bestMiddle 22 = .ok (.iload_n 3, 1) := by decide +kernel
theorem dX1_bestMiddle_23 : decode cX1_bestMiddle 23 = .ok (.iconst 1, 1) := by decide +kernel
theorem dX1_bestMiddle_24 : decode cX1_bestMiddle 24 = .ok (.sipush 200, 3) := by decide +kernel
theorem dX1_bestMiddle_27 : decode cX1_bestMiddle 27 = .ok (.invokestatic 32, 3) := by decide +kernel
theorem dX1_bestMiddle_30 : decode cX1_bestMiddle 30 = .ok (.ifCond .eq 16, 3) := by decide +kernel
theorem dX1_bestMiddle_33 : decode cX1_bestMiddle 33 = .ok (.iload_n 1, 1) := by decide +kernel
theorem dX1_bestMiddle_34 : decode cX1_bestMiddle 34 = .ok (.iload_n 2, 1) := by decide +kernel
theorem dX1_bestMiddle_35 : decode cX1_bestMiddle 35 = .ok (.iload_n 3, 1) := by decide +kernel
theorem dX1_bestMiddle_36 : decode cX1_bestMiddle 36 = .ok (.iconst 1, 1) := by decide +kernel
theorem dX1_bestMiddle_37 : decode cX1_bestMiddle 37 = .ok (.isub, 1) := by decide +kernel
theorem dX1_bestMiddle_38 : decode cX1_bestMiddle 38 = .ok (.imul, 1) := by decide +kernel
theorem dX1_bestMiddle_39 : decode cX1_bestMiddle 39 = .ok (.iadd, 1) := by decide +kernel
theorem dX1_bestMiddle_40 : decode cX1_bestMiddle 40 = .ok (.sipush 900, 3) := by decide +kernel
theorem dX1_bestMiddle_43 : decode cX1_bestMiddle 43 = .ok (.if_icmp .le 5, 3) := by decide +kernel
theorem dX1_bestMiddle_46 : decode cX1_bestMiddle 46 = .ok (.iconst (-1), 1) := by decide +kernel
theorem dX1_bestMiddle_47 : decode cX1_bestMiddle 47 = .ok (.ireturn, 1) := by decide +kernel
theorem dX1_bestMiddle_48 : decode cX1_bestMiddle 48 = .ok (.iload_n 1, 1) := by decide +kernel
theorem dX1_bestMiddle_49 : decode cX1_bestMiddle 49 = .ok (.istore 4, 2) := by decide +kernel
theorem dX1_bestMiddle_51 : decode cX1_bestMiddle 51 = .ok (.aload_n 0, 1) := by decide +kernel
theorem dX1_bestMiddle_52 : decode cX1_bestMiddle 52 = .ok (.iload_n 1, 1) := by decide +kernel
theorem dX1_bestMiddle_53 : decode cX1_bestMiddle 53 = .ok (.invokevirtual 86, 3) := by decide +kernel
theorem dX1_bestMiddle_56 : decode cX1_bestMiddle 56 = .ok (.istore 5, 2) := by decide +kernel
theorem dX1_bestMiddle_58 : decode cX1_bestMiddle 58 = .ok (.iconst 1, 1) := by decide +kernel
theorem dX1_bestMiddle_59 : decode cX1_bestMiddle 59 = .ok (.istore 6, 2) := by decide +kernel
theorem dX1_bestMiddle_61 : decode cX1_bestMiddle 61 = .ok (.iload 6, 2) := by decide +kernel
theorem dX1_bestMiddle_63 : decode cX1_bestMiddle 63 = .ok (.iload_n 3, 1) := by decide +kernel
theorem dX1_bestMiddle_64 : decode cX1_bestMiddle 64 = .ok (.if_icmp .ge 40, 3) := by decide +kernel
theorem dX1_bestMiddle_67 : decode cX1_bestMiddle 67 = .ok (.aload_n 0, 1) := by decide +kernel
theorem dX1_bestMiddle_68 : decode cX1_bestMiddle 68 = .ok (.iload_n 1, 1) := by decide +kernel
theorem dX1_bestMiddle_69 : decode cX1_bestMiddle 69 = .ok (.iload_n 2, 1) := by decide +kernel
theorem dX1_bestMiddle_70 : decode cX1_bestMiddle 70 = .ok (.iload 6, 2) := by decide +kernel
theorem dX1_bestMiddle_72 : decode cX1_bestMiddle 72 = .ok (.imul, 1) := by decide +kernel
theorem dX1_bestMiddle_73 : decode cX1_bestMiddle 73 = .ok (.iadd, 1) := by decide +kernel
theorem dX1_bestMiddle_74 : decode cX1_bestMiddle 74 = .ok (.invokevirtual 86, 3) := by decide +kernel
theorem dX1_bestMiddle_77 : decode cX1_bestMiddle 77 = .ok (.istore 7, 2) := by decide +kernel
theorem dX1_bestMiddle_79 : decode cX1_bestMiddle 79 = .ok (.iload 7, 2) := by decide +kernel
theorem dX1_bestMiddle_81 : decode cX1_bestMiddle 81 = .ok (.iload 5, 2) := by decide +kernel
theorem dX1_bestMiddle_83 : decode cX1_bestMiddle 83 = .ok (.if_icmp .ge 15, 3) := by decide +kernel
theorem dX1_bestMiddle_86 : decode cX1_bestMiddle 86 = .ok (.iload 7, 2) := by decide +kernel
theorem dX1_bestMiddle_88 : decode cX1_bestMiddle 88 = .ok (.istore 5, 2) := by decide +kernel
theorem dX1_bestMiddle_90 : decode cX1_bestMiddle 90 = .ok (.iload_n 1, 1) := by decide +kernel
theorem dX1_bestMiddle_91 : decode cX1_bestMiddle 91 = .ok (.iload_n 2, 1) := by decide +kernel
theorem dX1_bestMiddle_92 : decode cX1_bestMiddle 92 = .ok (.iload 6, 2) := by decide +kernel
theorem dX1_bestMiddle_94 : decode cX1_bestMiddle 94 = .ok (.imul, 1) := by decide +kernel
theorem dX1_bestMiddle_95 : decode cX1_bestMiddle 95 = .ok (.iadd, 1) := by decide +kernel
theorem dX1_bestMiddle_96 : decode cX1_bestMiddle 96 = .ok (.istore 4, 2) := by decide +kernel
theorem dX1_bestMiddle_98 : decode cX1_bestMiddle 98 = .ok (.iinc 6 1, 3) := by decide +kernel
theorem dX1_bestMiddle_101 : decode cX1_bestMiddle 101 = .ok (.goto (-40), 3) := by decide +kernel
theorem dX1_bestMiddle_104 : decode cX1_bestMiddle 104 = .ok (.iload 4, 2) := by decide +kernel
theorem dX1_bestMiddle_106 : decode cX1_bestMiddle 106 = .ok (.ireturn, 1) := by decide +kernel
theorem dX1_gather_0 : decode cX1_gather 0 = .ok (.aload_n 0, 1) := by decide +kernel
theorem dX1_gather_1 : decode cX1_gather 1 = .ok (.getfield 24, 3) := by decide +kernel
theorem dX1_gather_4 : decode cX1_gather 4 = .ok (.iload_n 3, 1) := by decide +kernel
theorem dX1_gather_5 : decode cX1_gather 5 = .ok (.invokevirtual 89, 3) := by decide +kernel
theorem dX1_gather_8 : decode cX1_gather 8 = .ok (.aload_n 0, 1) := by decide +kernel
theorem dX1_gather_9 : decode cX1_gather 9 = .ok (.iload_n 1, 1) := by decide +kernel
theorem dX1_gather_10 : decode cX1_gather 10 = .ok (.iload_n 2, 1) := by decide +kernel
theorem dX1_gather_11 : decode cX1_gather 11 = .ok (.invokevirtual 67, 3) := by decide +kernel
theorem dX1_gather_14 : decode cX1_gather 14 = .ok (.istore 4, 2) := by decide +kernel
theorem dX1_gather_16 : decode cX1_gather 16 = .ok (.iload 4, 2) := by decide +kernel
theorem dX1_gather_18 : decode cX1_gather 18 = .ok (.ifCond .gt 4, 3) := by decide +kernel
theorem dX1_gather_21 : decode cX1_gather 21 = .ok (.return_, 1) := by decide +kernel
theorem dX1_gather_22 : decode cX1_gather 22 = .ok (.iconst 0, 1) := by decide +kernel
theorem dX1_gather_23 : decode cX1_gather 23 = .ok (.istore 5, 2) := by decide +kernel
theorem dX1_gather_25 : decode cX1_gather 25 = .ok (.iload 5, 2) := by decide +kernel
theorem dX1_gather_27 : decode cX1_gather 27 = .ok (.aload_n 0, 1) := by decide +kernel
theorem dX1_gather_28 : decode cX1_gather 28 = .ok (.getfield 28, 3) := by decide +kernel
theorem dX1_gather_31 : decode cX1_gather 31 = .ok (.if_icmp .ge 61, 3) := by decide +kernel
theorem dX1_gather_34 : decode cX1_gather 34 = .ok (.iconst 1, 1) := by decide +kernel
theorem dX1_gather_35 : decode cX1_gather 35 = .ok (.istore 6, 2) := by decide +kernel
theorem dX1_gather_37 : decode cX1_gather 37 = .ok (.iload 6, 2) := by decide +kernel
theorem dX1_gather_39 : decode cX1_gather 39 = .ok (.aload_n 0, 1) := by decide +kernel
theorem dX1_gather_40 : decode cX1_gather 40 = .ok (.getfield 18, 3) := by decide +kernel
theorem dX1_gather_43 : decode cX1_gather 43 = .ok (.iconst 2, 1) := by decide +kernel
theorem dX1_gather_44 : decode cX1_gather 44 = .ok (.iaload, 1) := by decide +kernel
theorem dX1_gather_45 : decode cX1_gather 45 = .ok (.if_icmp .gt 41, 3) := by decide +kernel
theorem dX1_gather_48 : decode cX1_gather 48 = .ok (.iload 5, 2) := by decide +kernel
theorem dX1_gather_50 : decode cX1_gather 50 = .ok (.iload_n 1, 1) := by decide +kernel
theorem dX1_gather_51 : decode cX1_gather 51 = .ok (.if_icmp .ne 13, 3) := by decide +kernel
theorem dX1_gather_54 : decode cX1_gather 54 = .ok (.iload 6, 2) := by decide +kernel
theorem dX1_gather_56 : decode cX1_gather 56 = .ok (.iconst 1, 1) := by decide +kernel
theorem dX1_gather_57 : decode cX1_gather 57 = .ok (.if_icmp .ne 7, 3) := by decide +kernel
theorem dX1_gather_60 : decode cX1_gather 60 = .ok (.iconst 2, 1) := by decide +kernel
theorem dX1_gather_61 : decode cX1_gather 61 = .ok (.goto 4, 3) := by decide +kernel
theorem dX1_gather_64 : decode cX1_gather 64 = .ok (.iconst 1, 1) := by decide +kernel
theorem dX1_gather_65 : decode cX1_gather 65 = .ok (.istore 7, 2) := by decide +kernel
theorem dX1_gather_67 : decode cX1_gather 67 = .ok (.aload_n 0, 1) := by decide +kernel
theorem dX1_gather_68 : decode cX1_gather 68 = .ok (.iload 5, 2) := by decide +kernel
theorem dX1_gather_70 : decode cX1_gather 70 = .ok (.iload 6, 2) := by decide +kernel
theorem dX1_gather_72 : decode cX1_gather 72 = .ok (.iload 7, 2) := by decide +kernel
theorem dX1_gather_74 : decode cX1_gather 74 = .ok (.iload 4, 2) := by decide +kernel
theorem dX1_gather_76 : decode cX1_gather 76 = .ok (.iload_n 2, 1) := by decide +kernel
theorem dX1_gather_77 : decode cX1_gather 77 = .ok (.invokevirtual 93, 3) := by decide +kernel
theorem dX1_gather_80 : decode cX1_gather 80 = .ok (.iinc 6 1, 3) := by decide +kernel
theorem dX1_gather_83 : decode cX1_gather 83 = .ok (.goto (-46), 3) := by decide +kernel
theorem dX1_gather_86 : decode cX1_gather 86 = .ok (.iinc 5 1, 3) := by decide +kernel
theorem dX1_gather_89 : decode cX1_gather 89 = .ok (.goto (-64), 3) := by decide +kernel
theorem dX1_gather_92 : decode cX1_gather 92 = .ok (.return_, 1) := by decide +kernel
theorem dX1_gatherSums_0 : decode cX1_gatherSums 0 = .ok (.iload_n 2, 1) := by decide +kernel
theorem dX1_gatherSums_1 : decode cX1_gatherSums 1 = .ok (.aload_n 0, 1) := by decide +kernel
theorem dX1_gatherSums_2 : decode cX1_gatherSums 2 = .ok (.getfield 9, 3) := by decide +kernel
theorem dX1_gatherSums_5 : decode cX1_gatherSums 5 = .ok (.iload_n 1, 1) := by decide +kernel
theorem dX1_gatherSums_6 : decode cX1_gatherSums 6 = .ok (.iaload, 1) := by decide +kernel
theorem dX1_gatherSums_7 : decode cX1_gatherSums 7 = .ok (.imul, 1) := by decide +kernel
theorem dX1_gatherSums_8 : decode cX1_gatherSums 8 = .ok (.istore 6, 2) := by decide +kernel
theorem dX1_gatherSums_10 : decode cX1_gatherSums 10 = .ok (.iload 5, 2) := by decide +kernel
theorem dX1_gatherSums_12 : decode cX1_gatherSums 12 = .ok (.aload_n 0, 1) := by decide +kernel
theorem dX1_gatherSums_13 : decode cX1_gatherSums 13 = .ok (.getfield 18, 3) := by decide +kernel
theorem dX1_gatherSums_16 : decode cX1_gatherSums 16 = .ok (.iconst 3, 1) := by decide +kernel
theorem dX1_gatherSums_17 : decode cX1_gatherSums 17 = .ok (.iaload, 1) := by decide +kernel
theorem dX1_gatherSums_18 : decode cX1_gatherSums 18 = .ok (.iadd, 1) := by decide +kernel
theorem dX1_gatherSums_19 : decode cX1_gatherSums 19 = .ok (.istore 7, 2) := by decide +kernel
theorem dX1_gatherSums_21 : decode cX1_gatherSums 21 = .ok (.iload_n 3, 1) := by decide +kernel
theorem dX1_gatherSums_22 : decode cX1_gatherSums 22 = .ok (.istore 8, 2) := by decide +kernel
theorem dX1_gatherSums_24 : decode cX1_gatherSums 24 = .ok (.iload 8, 2) := by decide +kernel
theorem dX1_gatherSums_26 : decode cX1_gatherSums 26 = .ok (.aload_n 0, 1) := by decide +kernel
theorem dX1_gatherSums_27 : decode cX1_gatherSums 27 = .ok (.getfield 18, 3) := by decide +kernel
theorem dX1_gatherSums_30 : decode cX1_gatherSums 30 = .ok (.iconst 2, 1) := by decide +kernel
theorem dX1_gatherSums_31 : decode cX1_gatherSums 31 = .ok (.iaload, 1) := by decide +kernel
theorem dX1_gatherSums_32 : decode cX1_gatherSums 32 = .ok (.if_icmp .gt 103, 3) := by decide +kernel
theorem dX1_gatherSums_35 : decode cX1_gatherSums 35 = .ok (.iload 8, 2) := by decide +kernel
theorem dX1_gatherSums_37 : decode cX1_gatherSums 37 = .ok (.iload 4, 2) := by decide +kernel
theorem dX1_gatherSums_39 : decode cX1_gatherSums 39 = .ok (.imul, 1) := by decide +kernel
theorem dX1_gatherSums_40 : decode cX1_gatherSums 40 = .ok (.istore 9, 2) := by decide +kernel
theorem dX1_gatherSums_42 : decode cX1_gatherSums 42 = .ok (.iload 9, 2) := by decide +kernel
theorem dX1_gatherSums_44 : decode cX1_gatherSums 44 = .ok (.iload 6, 2) := by decide +kernel
theorem dX1_gatherSums_46 : decode cX1_gatherSums 46 = .ok (.isub, 1) := by decide +kernel
theorem dX1_gatherSums_47 : decode cX1_gatherSums 47 = .ok (.iload 7, 2) := by decide +kernel
theorem dX1_gatherSums_49 : decode cX1_gatherSums 49 = .ok (.if_icmp .le 6, 3) := by decide +kernel
theorem dX1_gatherSums_52 : decode cX1_gatherSums 52 = .ok (.goto 83, 3) := by decide +kernel
theorem dX1_gatherSums_55 : decode cX1_gatherSums 55 = .ok (.aload_n 0, 1) := by decide +kernel
theorem dX1_gatherSums_56 : decode cX1_gatherSums 56 = .ok (.iload 6, 2) := by decide +kernel
theorem dX1_gatherSums_58 : decode cX1_gatherSums 58 = .ok (.iload 9, 2) := by decide +kernel
theorem dX1_gatherSums_60 : decode cX1_gatherSums 60 = .ok (.iadd, 1) := by decide +kernel
theorem dX1_gatherSums_61 : decode cX1_gatherSums 61 = .ok (.iload 5, 2) := by decide +kernel
theorem dX1_gatherSums_63 : decode cX1_gatherSums 63 = .ok (.invokevirtual 71, 3) := by decide +kernel
theorem dX1_gatherSums_66 : decode cX1_gatherSums 66 = .ok (.ifCond .eq 26, 3) := by decide +kernel
theorem dX1_gatherSums_69 : decode cX1_gatherSums 69 = .ok (.aload_n 0, 1) := by decide +kernel
theorem dX1_gatherSums_70 : decode cX1_gatherSums 70 = .ok (.getfield 24, 3) := by decide +kernel
theorem dX1_gatherSums_73 : decode cX1_gatherSums 73 = .ok (.iload_n 1, 1) := by decide +kernel
theorem dX1_gatherSums_74 : decode cX1_gatherSums 74 = .ok (.iload_n 2, 1) := by decide +kernel
theorem dX1_gatherSums_75 : decode cX1_gatherSums 75 = .ok (.iload 8, 2) := by decide +kernel
theorem dX1_gatherSums_77 : decode cX1_gatherSums 77 = .ok (.iconst 1, 1) := by decide +kernel
theorem dX1_gatherSums_78 : decode cX1_gatherSums 78 = .ok (.aload_n 0, 1) := by decide +kernel
theorem dX1_gatherSums_79 : decode cX1_gatherSums 79 = .ok (.getfield 15, 3) := by decide +kernel
theorem dX1_gatherSums_82 : decode cX1_gatherSums 82 = .ok (.iload_n 1, 1) := by decide +kernel
theorem dX1_gatherSums_83 : decode cX1_gatherSums 83 = .ok (.iaload, 1) := by decide +kernel
theorem dX1_gatherSums_84 : decode cX1_gatherSums 84 = .ok (.iload_n 2, 1) := by decide +kernel
theorem dX1_gatherSums_85 : decode cX1_gatherSums 85 = .ok (.iload 8, 2) := by decide +kernel
theorem dX1_gatherSums_87 : decode cX1_gatherSums 87 = .ok (.imul, 1) := by decide +kernel
theorem dX1_gatherSums_88 : decode cX1_gatherSums 88 = .ok (.idiv, 1) := by decide +kernel
theorem dX1_gatherSums_89 : decode cX1_gatherSums 89 = .ok (.invokevirtual 97, 3) := by decide +kernel
theorem dX1_gatherSums_92 : decode cX1_gatherSums 92 = .ok (.aload_n 0, 1) := by decide +kernel
theorem dX1_gatherSums_93 : decode cX1_gatherSums 93 = .ok (.iload 6, 2) := by decide +kernel
theorem dX1_gatherSums_95 : decode cX1_gatherSums 95 = .ok (.iload 9, 2) := by decide +kernel
theorem dX1_gatherSums_97 : decode cX1_gatherSums 97 = .ok (.isub, 1) := by decide +kernel
theorem dX1_gatherSums_98 : decode cX1_gatherSums 98 = .ok (.iload 5, 2) := by decide +kernel
end
section
theorem dX1_gatherSums_100 : decode cX1_gatherSums 100 = .ok (.invokevirtual 71, 3) := by decide +kernel
theorem dX1_gatherSums_103 : decode cX1_gatherSums 103 = .ok (.ifCond .eq 26, 3) := by decide +kernel
theorem dX1_gatherSums_106 : decode cX1_gatherSums 106 = .ok (.aload_n 0, 1) := by decide +kernel
theorem dX1_gatherSums_107 : decode cX1_gatherSums 107 = .ok (.getfield 24, 3) := by decide +kernel
theorem dX1_gatherSums_110 : decode cX1_gatherSums 110 = .ok (.iload_n 1, 1) := by decide +kernel
theorem dX1_gatherSums_111 : decode cX1_gatherSums 111 = .ok (.iload_n 2, 1) := by decide +kernel
theorem dX1_gatherSums_112 : decode cX1_gatherSums 112 = .ok (.iload 8, 2) := by decide +kernel
theorem dX1_gatherSums_114 : decode cX1_gatherSums 114 = .ok (.iconst 0, 1) := by decide +kernel
theorem dX1_gatherSums_115 : decode cX1_gatherSums 115 = .ok (.aload_n 0, 1) := by decide +kernel
theorem dX1_gatherSums_116 : decode cX1_gatherSums 116 = .ok (.getfield 15, 3) := by decide +kernel
theorem dX1_gatherSums_119 : decode cX1_gatherSums 119 = .ok (.iload_n 1, 1) := by decide +kernel
theorem dX1_gatherSums_120 : decode cX1_gatherSums 120 = .ok (.iaload, 1) := by decide +kernel
theorem dX1_gatherSums_121 : decode cX1_gatherSums 121 = .ok (.iload_n 2, 1) := by decide +kernel
theorem dX1_gatherSums_122 : decode cX1_gatherSums 122 = .ok (.iload 8, 2) := by decide +kernel
theorem dX1_gatherSums_124 : decode cX1_gatherSums 124 = .ok (.imul, 1) := by decide +kernel
theorem dX1_gatherSums_125 : decode cX1_gatherSums 125 = .ok (.idiv, 1) := by decide +kernel
theorem dX1_gatherSums_126 : decode cX1_gatherSums 126 = .ok (.invokevirtual 97, 3) := by decide +kernel
theorem dX1_gatherSums_129 : decode cX1_gatherSums 129 = .ok (.iinc 8 1, 3) := by decide +kernel
theorem dX1_gatherSums_132 : decode cX1_gatherSums 132 = .ok (.goto (-108), 3) := by decide +kernel
theorem dX1_gatherSums_135 : decode cX1_gatherSums 135 = .ok (.return_, 1) := by decide +kernel
theorem dX1_fallsOn_0 : decode cX1_fallsOn 0 = .ok (.iload_n 1, 1) := by decide +kernel
theorem dX1_fallsOn_1 : decode cX1_fallsOn 1 = .ok (.invokestatic 75, 3) := by decide +kernel
theorem dX1_fallsOn_4 : decode cX1_fallsOn 4 = .ok (.iload_n 2, 1) := by decide +kernel
theorem dX1_fallsOn_5 : decode cX1_fallsOn 5 = .ok (.isub, 1) := by decide +kernel
theorem dX1_fallsOn_6 : decode cX1_fallsOn 6 = .ok (.invokestatic 75, 3) := by decide +kernel
theorem dX1_fallsOn_9 : decode cX1_fallsOn 9 = .ok (.aload_n 0, 1) := by decide +kernel
theorem dX1_fallsOn_10 : decode cX1_fallsOn 10 = .ok (.getfield 18, 3) := by decide +kernel
theorem dX1_fallsOn_13 : decode cX1_fallsOn 13 = .ok (.iconst 3, 1) := by decide +kernel
theorem dX1_fallsOn_14 : decode cX1_fallsOn 14 = .ok (.iaload, 1) := by decide +kernel
theorem dX1_fallsOn_15 : decode cX1_fallsOn 15 = .ok (.if_icmp .gt 7, 3) := by decide +kernel
theorem dX1_fallsOn_18 : decode cX1_fallsOn 18 = .ok (.iconst 1, 1) := by decide +kernel
theorem dX1_fallsOn_19 : decode cX1_fallsOn 19 = .ok (.goto 4, 3) := by decide +kernel
theorem dX1_fallsOn_22 : decode cX1_fallsOn 22 = .ok (.iconst 0, 1) := by decide +kernel
theorem dX1_fallsOn_23 : decode cX1_fallsOn 23 = .ok (.ireturn, 1) := by decide +kernel
theorem dX3_init_0 : decode cX3_init 0 = .ok (.aload_n 0, 1) := by decide +kernel
theorem dX3_init_1 : decode cX3_init 1 = .ok (.invokespecial 3, 3) := by decide +kernel
theorem dX3_init_4 : decode cX3_init 4 = .ok (.aload_n 0, 1) := by decide +kernel
theorem dX3_init_5 : decode cX3_init 5 = .ok (.bipush 6, 2) := by decide +kernel
theorem dX3_init_7 : decode cX3_init 7 = .ok (.newarray .int, 2) := by decide +kernel
theorem dX3_init_9 : decode cX3_init 9 = .ok (.putfield 9, 3) := by decide +kernel
theorem dX3_init_12 : decode cX3_init 12 = .ok (.aload_n 0, 1) := by decide +kernel
theorem dX3_init_13 : decode cX3_init 13 = .ok (.bipush 6, 2) := by decide +kernel
theorem dX3_init_15 : decode cX3_init 15 = .ok (.newarray .int, 2) := by decide +kernel
theorem dX3_init_17 : decode cX3_init 17 = .ok (.putfield 15, 3) := by decide +kernel
theorem dX3_init_20 : decode cX3_init 20 = .ok (.aload_n 0, 1) := by decide +kernel
theorem dX3_init_21 : decode cX3_init 21 = .ok (.aload_n 1, 1) := by decide +kernel
theorem dX3_init_22 : decode cX3_init 22 = .ok (.invokevirtual 18, 3) := by decide +kernel
theorem dX3_init_25 : decode cX3_init 25 = .ok (.checkcast 19, 3) := by decide +kernel
theorem dX3_init_28 : decode cX3_init 28 = .ok (.putfield 23, 3) := by decide +kernel
theorem dX3_init_31 : decode cX3_init 31 = .ok (.aload_n 0, 1) := by decide +kernel
theorem dX3_init_32 : decode cX3_init 32 = .ok (.aload_n 1, 1) := by decide +kernel
theorem dX3_init_33 : decode cX3_init 33 = .ok (.invokevirtual 18, 3) := by decide +kernel
theorem dX3_init_36 : decode cX3_init 36 = .ok (.checkcast 19, 3) := by decide +kernel
theorem dX3_init_39 : decode cX3_init 39 = .ok (.putfield 26, 3) := by decide +kernel
theorem dX3_init_42 : decode cX3_init 42 = .ok (.return_, 1) := by decide +kernel
theorem dX3_partsNow_0 : decode cX3_partsNow 0 = .ok (.aload_n 0, 1) := by decide +kernel
theorem dX3_partsNow_1 : decode cX3_partsNow 1 = .ok (.getfield 26, 3) := by decide +kernel
theorem dX3_partsNow_4 : decode cX3_partsNow 4 = .ok (.areturn, 1) := by decide +kernel
theorem dX3_builtMiddle_0 : decode cX3_builtMiddle 0 = .ok (.aload_n 0, 1) := by decide +kernel
theorem dX3_builtMiddle_1 : decode cX3_builtMiddle 1 = .ok (.getfield 23, 3) := by decide +kernel
theorem dX3_builtMiddle_4 : decode cX3_builtMiddle 4 = .ok (.iconst 5, 1) := by decide +kernel
theorem dX3_builtMiddle_5 : decode cX3_builtMiddle 5 = .ok (.iaload, 1) := by decide +kernel
theorem dX3_builtMiddle_6 : decode cX3_builtMiddle 6 = .ok (.ireturn, 1) := by decide +kernel
theorem dX3_turnedBy_0 : decode cX3_turnedBy 0 = .ok (.aload_n 0, 1) := by decide +kernel
theorem dX3_turnedBy_1 : decode cX3_turnedBy 1 = .ok (.getfield 15, 3) := by decide +kernel
theorem dX3_turnedBy_4 : decode cX3_turnedBy 4 = .ok (.iload_n 1, 1) := by decide +kernel
theorem dX3_turnedBy_5 : decode cX3_turnedBy 5 = .ok (.iaload, 1) := by decide +kernel
theorem dX3_turnedBy_6 : decode cX3_turnedBy 6 = .ok (.ireturn, 1) := by decide +kernel
theorem dX3_turn_0 : decode cX3_turn 0 = .ok (.aload_n 0, 1) := by decide +kernel
theorem dX3_turn_1 : decode cX3_turn 1 = .ok (.getfield 15, 3) := by decide +kernel
theorem dX3_turn_4 : decode cX3_turn 4 = .ok (.iload_n 1, 1) := by decide +kernel
theorem dX3_turn_5 : decode cX3_turn 5 = .ok (.dup2, 1) := by decide +kernel
theorem dX3_turn_6 : decode cX3_turn 6 = .ok (.iaload, 1) := by decide +kernel
theorem dX3_turn_7 : decode cX3_turn 7 = .ok (.iload_n 2, 1) := by decide +kernel
theorem dX3_turn_8 : decode cX3_turn 8 = .ok (.iadd, 1) := by decide +kernel
theorem dX3_turn_9 : decode cX3_turn 9 = .ok (.iastore, 1) := by decide +kernel
theorem dX3_turn_10 : decode cX3_turn 10 = .ok (.aload_n 0, 1) := by decide +kernel
theorem dX3_turn_11 : decode cX3_turn 11 = .ok (.iload_n 1, 1) := by decide +kernel
theorem dX3_turn_12 : decode cX3_turn 12 = .ok (.invokevirtual 29, 3) := by decide +kernel
theorem dX3_turn_15 : decode cX3_turn 15 = .ok (.return_, 1) := by decide +kernel
theorem dX3_changeOffset_0 : decode cX3_changeOffset 0 = .ok (.aload_n 0, 1) := by decide +kernel
theorem dX3_changeOffset_1 : decode cX3_changeOffset 1 = .ok (.getfield 9, 3) := by decide +kernel
theorem dX3_changeOffset_4 : decode cX3_changeOffset 4 = .ok (.iload_n 1, 1) := by decide +kernel
theorem dX3_changeOffset_5 : decode cX3_changeOffset 5 = .ok (.iaload, 1) := by decide +kernel
theorem dX3_changeOffset_6 : decode cX3_changeOffset 6 = .ok (.istore_n 3, 1) := by decide +kernel
theorem dX3_changeOffset_7 : decode cX3_changeOffset 7 = .ok (.aload_n 0, 1) := by decide +kernel
theorem dX3_changeOffset_8 : decode cX3_changeOffset 8 = .ok (.getfield 9, 3) := by decide +kernel
theorem dX3_changeOffset_11 : decode cX3_changeOffset 11 = .ok (.iload_n 1, 1) := by decide +kernel
theorem dX3_changeOffset_12 : decode cX3_changeOffset 12 = .ok (.iload_n 2, 1) := by decide +kernel
theorem dX3_changeOffset_13 : decode cX3_changeOffset 13 = .ok (.iastore, 1) := by decide +kernel
theorem dX3_changeOffset_14 : decode cX3_changeOffset 14 = .ok (.aload_n 0, 1) := by decide +kernel
theorem dX3_changeOffset_15 : decode cX3_changeOffset 15 = .ok (.iload_n 1, 1) := by decide +kernel
theorem dX3_changeOffset_16 : decode cX3_changeOffset 16 = .ok (.invokevirtual 29, 3) := by decide +kernel
theorem dX3_changeOffset_19 : decode cX3_changeOffset 19 = .ok (.iload_n 3, 1) := by decide +kernel
theorem dX3_changeOffset_20 : decode cX3_changeOffset 20 = .ok (.ireturn, 1) := by decide +kernel
theorem dX3_settle_0 : decode cX3_settle 0 = .ok (.aload_n 0, 1) := by decide +kernel
theorem dX3_settle_1 : decode cX3_settle 1 = .ok (.getfield 23, 3) := by decide +kernel
theorem dX3_settle_4 : decode cX3_settle 4 = .ok (.iload_n 1, 1) := by decide +kernel
theorem dX3_settle_5 : decode cX3_settle 5 = .ok (.iaload, 1) := by decide +kernel
theorem dX3_settle_6 : decode cX3_settle 6 = .ok (.aload_n 0, 1) := by decide +kernel
theorem dX3_settle_7 : decode cX3_settle 7 = .ok (.getfield 9, 3) := by decide +kernel
theorem dX3_settle_10 : decode cX3_settle 10 = .ok (.iload_n 1, 1) := by decide +kernel
theorem dX3_settle_11 : decode cX3_settle 11 = .ok (.iaload, 1) := by decide +kernel
theorem dX3_settle_12 : decode cX3_settle 12 = .ok (.iadd, 1) := by decide +kernel
theorem dX3_settle_13 : decode cX3_settle 13 = .ok (.aload_n 0, 1) := by decide +kernel
theorem dX3_settle_14 : decode cX3_settle 14 = .ok (.getfield 15, 3) := by decide +kernel
theorem dX3_settle_17 : decode cX3_settle 17 = .ok (.iload_n 1, 1) := by decide +kernel
theorem dX3_settle_18 : decode cX3_settle 18 = .ok (.iaload, 1) := by decide +kernel
theorem dX3_settle_19 : decode cX3_settle 19 = .ok (.iadd, 1) := by decide +kernel
theorem dX3_settle_20 : decode cX3_settle 20 = .ok (.istore_n 2, 1) := by decide +kernel
theorem dX3_settle_21 : decode cX3_settle 21 = .ok (.aload_n 0, 1) := by decide +kernel
theorem dX3_settle_22 : decode cX3_settle 22 = .ok (.getfield 26, 3) := by decide +kernel
theorem dX3_settle_25 : decode cX3_settle 25 = .ok (.iload_n 1, 1) := by decide +kernel
theorem dX3_settle_26 : decode cX3_settle 26 = .ok (.getstatic 33, 3) := by decide +kernel
theorem dX3_settle_29 : decode cX3_settle 29 = .ok (.iload_n 1, 1) := by decide +kernel
theorem dX3_settle_30 : decode cX3_settle 30 = .ok (.iaload, 1) := by decide +kernel
theorem dX3_settle_31 : decode cX3_settle 31 = .ok (.getstatic 36, 3) := by decide +kernel
theorem dX3_settle_34 : decode cX3_settle 34 = .ok (.iload_n 1, 1) := by decide +kernel
theorem dX3_settle_35 : decode cX3_settle 35 = .ok (.iaload, 1) := by decide +kernel
theorem dX3_settle_36 : decode cX3_settle 36 = .ok (.iload_n 2, 1) := by decide +kernel
theorem dX3_settle_37 : decode cX3_settle 37 = .ok (.invokestatic 39, 3) := by decide +kernel
theorem dX3_settle_40 : decode cX3_settle 40 = .ok (.invokestatic 45, 3) := by decide +kernel
theorem dX3_settle_43 : decode cX3_settle 43 = .ok (.iastore, 1) := by decide +kernel
theorem dX3_settle_44 : decode cX3_settle 44 = .ok (.return_, 1) := by decide +kernel
end
section
theorem dX2_init_0 : decode cX2_init 0 = .ok (.aload_n 0, 1) := by decide +kernel
theorem dX2_init_1 : decode cX2_init 1 = .ok (.invokespecial 3, 3) := by decide +kernel
theorem dX2_init_4 : decode cX2_init 4 = .ok (.aload_n 0, 1) := by decide +kernel
theorem dX2_init_5 : decode cX2_init 5 = .ok (.bipush 12, 2) := by decide +kernel
theorem dX2_init_7 : decode cX2_init 7 = .ok (.newarray .int, 2) := by decide +kernel
theorem dX2_init_9 : decode cX2_init 9 = .ok (.putfield 9, 3) := by decide +kernel
theorem dX2_init_12 : decode cX2_init 12 = .ok (.aload_n 0, 1) := by decide +kernel
theorem dX2_init_13 : decode cX2_init 13 = .ok (.bipush 12, 2) := by decide +kernel
theorem dX2_init_15 : decode cX2_init 15 = .ok (.newarray .int, 2) := by decide +kernel
theorem dX2_init_17 : decode cX2_init 17 = .ok (.putfield 15, 3) := by decide +kernel
theorem dX2_init_20 : decode cX2_init 20 = .ok (.aload_n 0, 1) := by decide +kernel
theorem dX2_init_21 : decode cX2_init 21 = .ok (.bipush 48, 2) := by decide +kernel
theorem dX2_init_23 : decode cX2_init 23 = .ok (.newarray .int, 2) := by decide +kernel
theorem dX2_init_25 : decode cX2_init 25 = .ok (.putfield 18, 3) := by decide +kernel
theorem dX2_init_28 : decode cX2_init 28 = .ok (.aload_n 0, 1) := by decide +kernel
theorem dX2_init_29 : decode cX2_init 29 = .ok (.sipush 4096, 3) := by decide +kernel
theorem dX2_init_32 : decode cX2_init 32 = .ok (.newarray .int, 2) := by decide +kernel
theorem dX2_init_34 : decode cX2_init 34 = .ok (.putfield 21, 3) := by decide +kernel
theorem dX2_init_37 : decode cX2_init 37 = .ok (.aload_n 0, 1) := by decide +kernel
theorem dX2_init_38 : decode cX2_init 38 = .ok (.iconst 0, 1) := by decide +kernel
theorem dX2_init_39 : decode cX2_init 39 = .ok (.putfield 24, 3) := by decide +kernel
theorem dX2_init_42 : decode cX2_init 42 = .ok (.aload_n 0, 1) := by decide +kernel
theorem dX2_init_43 : decode cX2_init 43 = .ok (.iconst 0, 1) := by decide +kernel
theorem dX2_init_44 : decode cX2_init 44 = .ok (.putfield 28, 3) := by decide +kernel
theorem dX2_init_47 : decode cX2_init 47 = .ok (.aload_n 0, 1) := by decide +kernel
theorem dX2_init_48 : decode cX2_init 48 = .ok (.iconst 0, 1) := by decide +kernel
theorem dX2_init_49 : decode cX2_init 49 = .ok (.putfield 31, 3) := by decide +kernel
theorem dX2_init_52 : decode cX2_init 52 = .ok (.iconst 0, 1) := by decide +kernel
theorem dX2_init_53 : decode cX2_init 53 = .ok (.istore_n 1, 1) := by decide +kernel
theorem dX2_init_54 : decode cX2_init 54 = .ok (.iload_n 1, 1) := by decide +kernel
theorem dX2_init_55 : decode cX2_init 55 = .ok (.bipush 12, 2) := by decide +kernel
theorem dX2_init_57 : decode cX2_init 57 = .ok (.if_icmp .ge 20, 3) := by decide +kernel
theorem dX2_init_60 : decode cX2_init 60 = .ok (.aload_n 0, 1) := by decide +kernel
theorem dX2_init_61 : decode cX2_init 61 = .ok (.getfield 18, 3) := by decide +kernel
theorem dX2_init_64 : decode cX2_init 64 = .ok (.iload_n 1, 1) := by decide +kernel
theorem dX2_init_65 : decode cX2_init 65 = .ok (.iconst 4, 1) := by decide +kernel
theorem dX2_init_66 : decode cX2_init 66 = .ok (.imul, 1) := by decide +kernel
theorem dX2_init_67 : decode cX2_init 67 = .ok (.sipush 4095, 3) := by decide +kernel
theorem dX2_init_70 : decode cX2_init 70 = .ok (.iastore, 1) := by decide +kernel
theorem dX2_init_71 : decode cX2_init 71 = .ok (.iinc 1 1, 3) := by decide +kernel
theorem dX2_init_74 : decode cX2_init 74 = .ok (.goto (-20), 3) := by decide +kernel
theorem dX2_init_77 : decode cX2_init 77 = .ok (.return_, 1) := by decide +kernel
theorem dX2_faults_0 : decode cX2_faults 0 = .ok (.aload_n 0, 1) := by decide +kernel
theorem dX2_faults_1 : decode cX2_faults 1 = .ok (.getfield 24, 3) := by decide +kernel
theorem dX2_faults_4 : decode cX2_faults 4 = .ok (.ireturn, 1) := by decide +kernel
theorem dX2_tests_0 : decode cX2_tests 0 = .ok (.aload_n 0, 1) := by decide +kernel
theorem dX2_tests_1 : decode cX2_tests 1 = .ok (.getfield 28, 3) := by decide +kernel
theorem dX2_tests_4 : decode cX2_tests 4 = .ok (.ireturn, 1) := by decide +kernel
theorem dX2_leftBits_0 : decode cX2_leftBits 0 = .ok (.aload_n 0, 1) := by decide +kernel
theorem dX2_leftBits_1 : decode cX2_leftBits 1 = .ok (.getfield 31, 3) := by decide +kernel
theorem dX2_leftBits_4 : decode cX2_leftBits 4 = .ok (.ireturn, 1) := by decide +kernel
theorem dX2_addFault_0 : decode cX2_addFault 0 = .ok (.iload_n 1, 1) := by decide +kernel
theorem dX2_addFault_1 : decode cX2_addFault 1 = .ok (.iconst 1, 1) := by decide +kernel
theorem dX2_addFault_2 : decode cX2_addFault 2 = .ok (.bipush 99, 2) := by decide +kernel
theorem dX2_addFault_4 : decode cX2_addFault 4 = .ok (.invokestatic 34, 3) := by decide +kernel
theorem dX2_addFault_7 : decode cX2_addFault 7 = .ok (.ifCond .ne 5, 3) := by decide +kernel
theorem dX2_addFault_10 : decode cX2_addFault 10 = .ok (.iconst (-1), 1) := by decide +kernel
theorem dX2_addFault_11 : decode cX2_addFault 11 = .ok (.ireturn, 1) := by decide +kernel
theorem dX2_addFault_12 : decode cX2_addFault 12 = .ok (.aload_n 0, 1) := by decide +kernel
theorem dX2_addFault_13 : decode cX2_addFault 13 = .ok (.getfield 24, 3) := by decide +kernel
theorem dX2_addFault_16 : decode cX2_addFault 16 = .ok (.bipush 12, 2) := by decide +kernel
theorem dX2_addFault_18 : decode cX2_addFault 18 = .ok (.if_icmp .lt 6, 3) := by decide +kernel
theorem dX2_addFault_21 : decode cX2_addFault 21 = .ok (.bipush (-2), 2) := by decide +kernel
theorem dX2_addFault_23 : decode cX2_addFault 23 = .ok (.ireturn, 1) := by decide +kernel
theorem dX2_addFault_24 : decode cX2_addFault 24 = .ok (.aload_n 0, 1) := by decide +kernel
theorem dX2_addFault_25 : decode cX2_addFault 25 = .ok (.getfield 9, 3) := by decide +kernel
theorem dX2_addFault_28 : decode cX2_addFault 28 = .ok (.aload_n 0, 1) := by decide +kernel
theorem dX2_addFault_29 : decode cX2_addFault 29 = .ok (.getfield 24, 3) := by decide +kernel
theorem dX2_addFault_32 : decode cX2_addFault 32 = .ok (.iload_n 1, 1) := by decide +kernel
theorem dX2_addFault_33 : decode cX2_addFault 33 = .ok (.iastore, 1) := by decide +kernel
theorem dX2_addFault_34 : decode cX2_addFault 34 = .ok (.aload_n 0, 1) := by decide +kernel
theorem dX2_addFault_35 : decode cX2_addFault 35 = .ok (.dup, 1) := by decide +kernel
theorem dX2_addFault_36 : decode cX2_addFault 36 = .ok (.getfield 31, 3) := by decide +kernel
theorem dX2_addFault_39 : decode cX2_addFault 39 = .ok (.iconst 1, 1) := by decide +kernel
theorem dX2_addFault_40 : decode cX2_addFault 40 = .ok (.aload_n 0, 1) := by decide +kernel
theorem dX2_addFault_41 : decode cX2_addFault 41 = .ok (.getfield 24, 3) := by decide +kernel
theorem dX2_addFault_44 : decode cX2_addFault 44 = .ok (.ishl, 1) := by decide +kernel
theorem dX2_addFault_45 : decode cX2_addFault 45 = .ok (.ior, 1) := by decide +kernel
theorem dX2_addFault_46 : decode cX2_addFault 46 = .ok (.putfield 31, 3) := by decide +kernel
theorem dX2_addFault_49 : decode cX2_addFault 49 = .ok (.aload_n 0, 1) := by decide +kernel
theorem dX2_addFault_50 : decode cX2_addFault 50 = .ok (.dup, 1) := by decide +kernel
theorem dX2_addFault_51 : decode cX2_addFault 51 = .ok (.getfield 24, 3) := by decide +kernel
theorem dX2_addFault_54 : decode cX2_addFault 54 = .ok (.iconst 1, 1) := by decide +kernel
theorem dX2_addFault_55 : decode cX2_addFault 55 = .ok (.iadd, 1) := by decide +kernel
theorem dX2_addFault_56 : decode cX2_addFault 56 = .ok (.putfield 24, 3) := by decide +kernel
theorem dX2_addFault_59 : decode cX2_addFault 59 = .ok (.aload_n 0, 1) := by decide +kernel
theorem dX2_addFault_60 : decode cX2_addFault 60 = .ok (.getfield 24, 3) := by decide +kernel
theorem dX2_addFault_63 : decode cX2_addFault 63 = .ok (.iconst 1, 1) := by decide +kernel
theorem dX2_addFault_64 : decode cX2_addFault 64 = .ok (.isub, 1) := by decide +kernel
theorem dX2_addFault_65 : decode cX2_addFault 65 = .ok (.ireturn, 1) := by decide +kernel
theorem dX2_addTest_0 : decode cX2_addTest 0 = .ok (.iload_n 1, 1) := by decide +kernel
theorem dX2_addTest_1 : decode cX2_addTest 1 = .ok (.iconst 1, 1) := by decide +kernel
theorem dX2_addTest_2 : decode cX2_addTest 2 = .ok (.bipush 99, 2) := by decide +kernel
theorem dX2_addTest_4 : decode cX2_addTest 4 = .ok (.invokestatic 34, 3) := by decide +kernel
theorem dX2_addTest_7 : decode cX2_addTest 7 = .ok (.ifCond .ne 5, 3) := by decide +kernel
theorem dX2_addTest_10 : decode cX2_addTest 10 = .ok (.iconst (-1), 1) := by decide +kernel
theorem dX2_addTest_11 : decode cX2_addTest 11 = .ok (.ireturn, 1) := by decide +kernel
theorem dX2_addTest_12 : decode cX2_addTest 12 = .ok (.aload_n 0, 1) := by decide +kernel
theorem dX2_addTest_13 : decode cX2_addTest 13 = .ok (.getfield 28, 3) := by decide +kernel
theorem dX2_addTest_16 : decode cX2_addTest 16 = .ok (.bipush 12, 2) := by decide +kernel
theorem dX2_addTest_18 : decode cX2_addTest 18 = .ok (.if_icmp .lt 6, 3) := by decide +kernel
theorem dX2_addTest_21 : decode cX2_addTest 21 = .ok (.bipush (-2), 2) := by decide +kernel
theorem dX2_addTest_23 : decode cX2_addTest 23 = .ok (.ireturn, 1) := by decide +kernel
theorem dX2_addTest_24 : decode cX2_addTest 24 = .ok (.aload_n 0, 1) := by decide +kernel
theorem dX2_addTest_25 : decode cX2_addTest 25 = .ok (.getfield 15, 3) := by decide +kernel
theorem dX2_addTest_28 : decode cX2_addTest 28 = .ok (.aload_n 0, 1) := by decide +kernel
theorem dX2_addTest_29 : decode cX2_addTest 29 = .ok (.getfield 28, 3) := by decide +kernel
theorem dX2_addTest_32 : decode cX2_addTest 32 = .ok (.iload_n 1, 1) := by decide +kernel
theorem dX2_addTest_33 : decode cX2_addTest 33 = .ok (.iastore, 1) := by decide +kernel
theorem dX2_addTest_34 : decode cX2_addTest 34 = .ok (.aload_n 0, 1) := by decide +kernel
theorem dX2_addTest_35 : decode cX2_addTest 35 = .ok (.dup, 1) := by decide +kernel
theorem dX2_addTest_36 : decode cX2_addTest 36 = .ok (.getfield 28, 3) := by decide +kernel
theorem dX2_addTest_39 : decode cX2_addTest 39 = .ok (.iconst 1, 1) := by decide +kernel
theorem dX2_addTest_40 : decode cX2_addTest 40 = .ok (.iadd, 1) := by decide +kernel
theorem dX2_addTest_41 : decode cX2_addTest 41 = .ok (.putfield 28, 3) := by decide +kernel
theorem dX2_addTest_44 : decode cX2_addTest 44 = .ok (.aload_n 0, 1) := by decide +kernel
theorem dX2_addTest_45 : decode cX2_addTest 45 = .ok (.getfield 28, 3) := by decide +kernel
theorem dX2_addTest_48 : decode cX2_addTest 48 = .ok (.iconst 1, 1) := by decide +kernel
theorem dX2_addTest_49 : decode cX2_addTest 49 = .ok (.isub, 1) := by decide +kernel
theorem dX2_addTest_50 : decode cX2_addTest 50 = .ok (.ireturn, 1) := by decide +kernel
theorem dX2_changeReading_0 : decode cX2_changeReading 0 = .ok (.aload_n 0, 1) := by decide +kernel
theorem dX2_changeReading_1 : decode cX2_changeReading 1 = .ok (.iload_n 1, 1) := by decide +kernel
theorem dX2_changeReading_2 : decode cX2_changeReading 2 = .ok (.invokevirtual 38, 3) := by decide +kernel
theorem dX2_changeReading_5 : decode cX2_changeReading 5 = .ok (.ifCond .eq 24, 3) := by decide +kernel
theorem dX2_changeReading_8 : decode cX2_changeReading 8 = .ok (.iload_n 2, 1) := by decide +kernel
theorem dX2_changeReading_9 : decode cX2_changeReading 9 = .ok (.iconst 0, 1) := by decide +kernel
theorem dX2_changeReading_10 : decode cX2_changeReading 10 = .ok (.aload_n 0, 1) := by decide +kernel
theorem dX2_changeReading_11 : decode cX2_changeReading 11 = .ok (.getfield 24, 3) := by decide +kernel
theorem dX2_changeReading_14 : decode cX2_changeReading 14 = .ok (.iconst 1, 1) := by decide +kernel
theorem dX2_changeReading_15 : decode cX2_changeReading 15 = .ok (.isub, 1) := by decide +kernel
theorem dX2_changeReading_16 : decode cX2_changeReading 16 = .ok (.invokestatic 34, 3) := by decide +kernel
theorem dX2_changeReading_19 : decode cX2_changeReading 19 = .ok (.ifCond .eq 10, 3) := by decide +kernel
theorem dX2_changeReading_22 : decode cX2_changeReading 22 = .ok (.iload_n 3, 1) := by decide +kernel
theorem dX2_changeReading_23 : decode cX2_changeReading 23 = .ok (.invokestatic 42, 3) := by decide +kernel
theorem dX2_changeReading_26 : decode cX2_changeReading 26 = .ok (.ifCond .ne 5, 3) := by decide +kernel
theorem dX2_changeReading_29 : decode cX2_changeReading 29 = .ok (.iconst (-1), 1) := by decide +kernel
theorem dX2_changeReading_30 : decode cX2_changeReading 30 = .ok (.ireturn, 1) := by decide +kernel
theorem dX2_changeReading_31 : decode cX2_changeReading 31 = .ok (.iconst 1, 1) := by decide +kernel
theorem dX2_changeReading_32 : decode cX2_changeReading 32 = .ok (.iload_n 2, 1) := by decide +kernel
theorem dX2_changeReading_33 : decode cX2_changeReading 33 = .ok (.ishl, 1) := by decide +kernel
theorem dX2_changeReading_34 : decode cX2_changeReading 34 = .ok (.istore 4, 2) := by decide +kernel
theorem dX2_changeReading_36 : decode cX2_changeReading 36 = .ok (.iconst 0, 1) := by decide +kernel
theorem dX2_changeReading_37 : decode cX2_changeReading 37 = .ok (.istore 5, 2) := by decide +kernel
theorem dX2_changeReading_39 : decode cX2_changeReading 39 = .ok (.iconst 0, 1) := by decide +kernel
theorem dX2_changeReading_40 : decode cX2_changeReading 40 = .ok (.istore 6, 2) := by decide +kernel
theorem dX2_changeReading_42 : decode cX2_changeReading 42 = .ok (.iload 6, 2) := by decide +kernel
theorem dX2_changeReading_44 : decode cX2_changeReading 44 = .ok (.iconst 4, 1) := by decide +kernel
theorem dX2_changeReading_45 : decode cX2_changeReading 45 = .ok (.if_icmp .ge 30, 3) := by decide +kernel
theorem dX2_changeReading_48 : decode cX2_changeReading 48 = .ok (.aload_n 0, 1) := by decide +kernel
theorem dX2_changeReading_49 : decode cX2_changeReading 49 = .ok (.getfield 18, 3) := by decide +kernel
theorem dX2_changeReading_52 : decode cX2_changeReading 52 = .ok (.iload_n 1, 1) := by decide +kernel
theorem dX2_changeReading_53 : decode cX2_changeReading 53 = .ok (.iconst 4, 1) := by decide +kernel
theorem dX2_changeReading_54 : decode cX2_changeReading 54 = .ok (.imul, 1) := by decide +kernel
theorem dX2_changeReading_55 : decode cX2_changeReading 55 = .ok (.iload 6, 2) := by decide +kernel
theorem dX2_changeReading_57 : decode cX2_changeReading 57 = .ok (.iadd, 1) := by decide +kernel
theorem dX2_changeReading_58 : decode cX2_changeReading 58 = .ok (.iaload, 1) := by decide +kernel
theorem dX2_changeReading_59 : decode cX2_changeReading 59 = .ok (.iload 4, 2) := by decide +kernel
theorem dX2_changeReading_61 : decode cX2_changeReading 61 = .ok (.iand, 1) := by decide +kernel
theorem dX2_changeReading_62 : decode cX2_changeReading 62 = .ok (.ifCond .eq 7, 3) := by decide +kernel
theorem dX2_changeReading_65 : decode cX2_changeReading 65 = .ok (.iload 6, 2) := by decide +kernel
theorem dX2_changeReading_67 : decode cX2_changeReading 67 = .ok (.istore 5, 2) := by decide +kernel
theorem dX2_changeReading_69 : decode cX2_changeReading 69 = .ok (.iinc 6 1, 3) := by decide +kernel
theorem dX2_changeReading_72 : decode cX2_changeReading 72 = .ok (.goto (-30), 3) := by decide +kernel
theorem dX2_changeReading_75 : decode cX2_changeReading 75 = .ok (.aload_n 0, 1) := by decide +kernel
theorem dX2_changeReading_76 : decode cX2_changeReading 76 = .ok (.getfield 18, 3) := by decide +kernel
theorem dX2_changeReading_79 : decode cX2_changeReading 79 = .ok (.iload_n 1, 1) := by decide +kernel
theorem dX2_changeReading_80 : decode cX2_changeReading 80 = .ok (.iconst 4, 1) := by decide +kernel
theorem dX2_changeReading_81 : decode cX2_changeReading 81 = .ok (.imul, 1) := by decide +kernel
theorem dX2_changeReading_82 : decode cX2_changeReading 82 = .ok (.iload 5, 2) := by decide +kernel
theorem dX2_changeReading_84 : decode cX2_changeReading 84 = .ok (.iadd, 1) := by decide +kernel
theorem dX2_changeReading_85 : decode cX2_changeReading 85 = .ok (.dup2, 1) := by decide +kernel
theorem dX2_changeReading_86 : decode cX2_changeReading 86 = .ok (.iaload, 1) := by decide +kernel
theorem dX2_changeReading_87 : decode cX2_changeReading 87 = .ok (.iload 4, 2) := by decide +kernel
theorem dX2_changeReading_89 : decode cX2_changeReading 89 = .ok (.iconst (-1), 1) := by decide +kernel
theorem dX2_changeReading_90 : decode cX2_changeReading 90 = .ok (.ixor, 1) := by decide +kernel
theorem dX2_changeReading_91 : decode cX2_changeReading 91 = .ok (.iand, 1) := by decide +kernel
theorem dX2_changeReading_92 : decode cX2_changeReading 92 = .ok (.iastore, 1) := by decide +kernel
theorem dX2_changeReading_93 : decode cX2_changeReading 93 = .ok (.aload_n 0, 1) := by decide +kernel
theorem dX2_changeReading_94 : decode cX2_changeReading 94 = .ok (.getfield 18, 3) := by decide +kernel
theorem dX2_changeReading_97 : decode cX2_changeReading 97 = .ok (.iload_n 1, 1) := by decide +kernel
theorem dX2_changeReading_98 : decode cX2_changeReading 98 = .ok (.iconst 4, 1) := by decide +kernel
theorem dX2_changeReading_99 : decode cX2_changeReading 99 = .ok (.imul, 1) := by decide +kernel
theorem dX2_changeReading_100 : decode cX2_changeReading 100 = .ok (.iload_n 3, 1) := by decide +kernel
theorem dX2_changeReading_101 : decode cX2_changeReading 101 = .ok (.iadd, 1) := by decide +kernel
theorem dX2_changeReading_102 : decode cX2_changeReading 102 = .ok (.dup2, 1) := by decide +kernel
theorem dX2_changeReading_103 : decode cX2_changeReading 103 = .ok (.iaload, 1) := by decide +kernel
theorem dX2_changeReading_104 : decode cX2_changeReading 104 = .ok (.iload 4, 2) := by decide +kernel
theorem dX2_changeReading_106 : decode cX2_changeReading 106 = .ok (.ior, 1) := by decide +kernel
theorem dX2_changeReading_107 : decode cX2_changeReading 107 = .ok (.iastore, 1) := by decide +kernel
theorem dX2_changeReading_108 : decode cX2_changeReading 108 = .ok (.iload 5, 2) := by decide +kernel
theorem dX2_changeReading_110 : decode cX2_changeReading 110 = .ok (.ireturn, 1) := by decide +kernel
theorem dX2_takeReading_0 : decode cX2_takeReading 0 = .ok (.aload_n 0, 1) := by decide +kernel
theorem dX2_takeReading_1 : decode cX2_takeReading 1 = .ok (.iload_n 1, 1) := by decide +kernel
theorem dX2_takeReading_2 : decode cX2_takeReading 2 = .ok (.invokevirtual 38, 3) := by decide +kernel
theorem dX2_takeReading_5 : decode cX2_takeReading 5 = .ok (.ifCond .eq 10, 3) := by decide +kernel
theorem dX2_takeReading_8 : decode cX2_takeReading 8 = .ok (.iload_n 2, 1) := by decide +kernel
theorem dX2_takeReading_9 : decode cX2_takeReading 9 = .ok (.invokestatic 42, 3) := by decide +kernel
theorem dX2_takeReading_12 : decode cX2_takeReading 12 = .ok (.ifCond .ne 5, 3) := by decide +kernel
theorem dX2_takeReading_15 : decode cX2_takeReading 15 = .ok (.iconst (-1), 1) := by decide +kernel
theorem dX2_takeReading_16 : decode cX2_takeReading 16 = .ok (.ireturn, 1) := by decide +kernel
theorem dX2_takeReading_17 : decode cX2_takeReading 17 = .ok (.aload_n 0, 1) := by decide +kernel
theorem dX2_takeReading_18 : decode cX2_takeReading 18 = .ok (.getfield 31, 3) := by decide +kernel
theorem dX2_takeReading_21 : decode cX2_takeReading 21 = .ok (.aload_n 0, 1) := by decide +kernel
theorem dX2_takeReading_22 : decode cX2_takeReading 22 = .ok (.getfield 18, 3) := by decide +kernel
theorem dX2_takeReading_25 : decode cX2_takeReading 25 = .ok (.iload_n 1, 1) := by decide +kernel
theorem dX2_takeReading_26 : decode cX2_takeReading 26 = .ok (.iconst 4, 1) := by decide +kernel
theorem dX2_takeReading_27 : decode cX2_takeReading 27 = .ok (.imul, 1) := by decide +kernel
theorem dX2_takeReading_28 : decode cX2_takeReading 28 = .ok (.iload_n 2, 1) := by decide +kernel
theorem dX2_takeReading_29 : decode cX2_takeReading 29 = .ok (.iadd, 1) := by decide +kernel
theorem dX2_takeReading_30 : decode cX2_takeReading 30 = .ok (.iaload, 1) := by decide +kernel
theorem dX2_takeReading_31 : decode cX2_takeReading 31 = .ok (.iand, 1) := by decide +kernel
theorem dX2_takeReading_32 : decode cX2_takeReading 32 = .ok (.istore_n 3, 1) := by decide +kernel
theorem dX2_takeReading_33 : decode cX2_takeReading 33 = .ok (.iload_n 3, 1) := by decide +kernel
theorem dX2_takeReading_34 : decode cX2_takeReading 34 = .ok (.ifCond .ne 6, 3) := by decide +kernel
theorem dX2_takeReading_37 : decode cX2_takeReading 37 = .ok (.bipush (-3), 2) := by decide +kernel
theorem dX2_takeReading_39 : decode cX2_takeReading 39 = .ok (.ireturn, 1) := by decide +kernel
theorem dX2_takeReading_40 : decode cX2_takeReading 40 = .ok (.aload_n 0, 1) := by decide +kernel
theorem dX2_takeReading_41 : decode cX2_takeReading 41 = .ok (.iload_n 3, 1) := by decide +kernel
theorem dX2_takeReading_42 : decode cX2_takeReading 42 = .ok (.putfield 31, 3) := by decide +kernel
theorem dX2_takeReading_45 : decode cX2_takeReading 45 = .ok (.aload_n 0, 1) := by decide +kernel
theorem dX2_takeReading_46 : decode cX2_takeReading 46 = .ok (.getfield 31, 3) := by decide +kernel
theorem dX2_takeReading_49 : decode cX2_takeReading 49 = .ok (.invokestatic 45, 3) := by decide +kernel
theorem dX2_takeReading_52 : decode cX2_takeReading 52 = .ok (.ireturn, 1) := by decide +kernel
theorem dX2_startAgain_0 : decode cX2_startAgain 0 = .ok (.aload_n 0, 1) := by decide +kernel
theorem dX2_startAgain_1 : decode cX2_startAgain 1 = .ok (.getfield 31, 3) := by decide +kernel
theorem dX2_startAgain_4 : decode cX2_startAgain 4 = .ok (.invokestatic 45, 3) := by decide +kernel
theorem dX2_startAgain_7 : decode cX2_startAgain 7 = .ok (.istore_n 1, 1) := by decide +kernel
theorem dX2_startAgain_8 : decode cX2_startAgain 8 = .ok (.aload_n 0, 1) := by decide +kernel
theorem dX2_startAgain_9 : decode cX2_startAgain 9 = .ok (.iconst 1, 1) := by decide +kernel
theorem dX2_startAgain_10 : decode cX2_startAgain 10 = .ok (.aload_n 0, 1) := by decide +kernel
theorem dX2_startAgain_11 : decode cX2_startAgain 11 = .ok (.getfield 24, 3) := by decide +kernel
theorem dX2_startAgain_14 : decode cX2_startAgain 14 = .ok (.ishl, 1) := by decide +kernel
theorem dX2_startAgain_15 : decode cX2_startAgain 15 = .ok (.iconst 1, 1) := by decide +kernel
theorem dX2_startAgain_16 : decode cX2_startAgain 16 = .ok (.isub, 1) := by decide +kernel
theorem dX2_startAgain_17 : decode cX2_startAgain 17 = .ok (.putfield 31, 3) := by decide +kernel
theorem dX2_startAgain_20 : decode cX2_startAgain 20 = .ok (.iload_n 1, 1) := by decide +kernel
theorem dX2_startAgain_21 : decode cX2_startAgain 21 = .ok (.ireturn, 1) := by decide +kernel
theorem dX2_nextBest_0 : decode cX2_nextBest 0 = .ok (.bipush (-4), 2) := by decide +kernel
theorem dX2_nextBest_2 : decode cX2_nextBest 2 = .ok (.istore_n 1, 1) := by decide +kernel
theorem dX2_nextBest_3 : decode cX2_nextBest 3 = .ok (.ldc 51, 2) := by decide +kernel
theorem dX2_nextBest_5 : decode cX2_nextBest 5 = .ok (.istore_n 2, 1) := by decide +kernel
theorem dX2_nextBest_6 : decode cX2_nextBest 6 = .ok (.ldc 51, 2) := by decide +kernel
theorem dX2_nextBest_8 : decode cX2_nextBest 8 = .ok (.istore_n 3, 1) := by decide +kernel
theorem dX2_nextBest_9 : decode cX2_nextBest 9 = .ok (.iconst 0, 1) := by decide +kernel
theorem dX2_nextBest_10 : decode cX2_nextBest 10 = .ok (.istore 4, 2) := by decide +kernel
theorem dX2_nextBest_12 : decode cX2_nextBest 12 = .ok (.iload 4, 2) := by decide +kernel
theorem dX2_nextBest_14 : decode cX2_nextBest 14 = .ok (.aload_n 0, 1) := by decide +kernel
theorem dX2_nextBest_15 : decode cX2_nextBest 15 = .ok (.getfield 28, 3) := by decide +kernel
theorem dX2_nextBest_18 : decode cX2_nextBest 18 = .ok (.if_icmp .ge 70, 3) := by decide +kernel
theorem dX2_nextBest_21 : decode cX2_nextBest 21 = .ok (.aload_n 0, 1) := by decide +kernel
theorem dX2_nextBest_22 : decode cX2_nextBest 22 = .ok (.iload 4, 2) := by decide +kernel
theorem dX2_nextBest_24 : decode cX2_nextBest 24 = .ok (.aload_n 0, 1) := by decide +kernel
theorem dX2_nextBest_25 : decode cX2_nextBest 25 = .ok (.getfield 31, 3) := by decide +kernel
theorem dX2_nextBest_28 : decode cX2_nextBest 28 = .ok (.invokevirtual 52, 3) := by decide +kernel
theorem dX2_nextBest_31 : decode cX2_nextBest 31 = .ok (.ifCond .ne 6, 3) := by decide +kernel
theorem dX2_nextBest_34 : decode cX2_nextBest 34 = .ok (.goto 48, 3) := by decide +kernel
theorem dX2_nextBest_37 : decode cX2_nextBest 37 = .ok (.aload_n 0, 1) := by decide +kernel
theorem dX2_nextBest_38 : decode cX2_nextBest 38 = .ok (.iload 4, 2) := by decide +kernel
theorem dX2_nextBest_40 : decode cX2_nextBest 40 = .ok (.invokevirtual 56, 3) := by decide +kernel
theorem dX2_nextBest_43 : decode cX2_nextBest 43 = .ok (.istore 5, 2) := by decide +kernel
theorem dX2_nextBest_45 : decode cX2_nextBest 45 = .ok (.iload 5, 2) := by decide +kernel
theorem dX2_nextBest_47 : decode cX2_nextBest 47 = .ok (.iload_n 2, 1) := by decide +kernel
theorem dX2_nextBest_48 : decode cX2_nextBest 48 = .ok (.if_icmp .lt 20, 3) := by decide +kernel
theorem dX2_nextBest_51 : decode cX2_nextBest 51 = .ok (.iload 5, 2) := by decide +kernel
theorem dX2_nextBest_53 : decode cX2_nextBest 53 = .ok (.iload_n 2, 1) := by decide +kernel
theorem dX2_nextBest_54 : decode cX2_nextBest 54 = .ok (.if_icmp .ne 28, 3) := by decide +kernel
theorem dX2_nextBest_57 : decode cX2_nextBest 57 = .ok (.aload_n 0, 1) := by decide +kernel
theorem dX2_nextBest_58 : decode cX2_nextBest 58 = .ok (.getfield 15, 3) := by decide +kernel
theorem dX2_nextBest_61 : decode cX2_nextBest 61 = .ok (.iload 4, 2) := by decide +kernel
theorem dX2_nextBest_63 : decode cX2_nextBest 63 = .ok (.iaload, 1) := by decide +kernel
theorem dX2_nextBest_64 : decode cX2_nextBest 64 = .ok (.iload_n 3, 1) := by decide +kernel
theorem dX2_nextBest_65 : decode cX2_nextBest 65 = .ok (.if_icmp .ge 17, 3) := by decide +kernel
theorem dX2_nextBest_68 : decode cX2_nextBest 68 = .ok (.iload 4, 2) := by decide +kernel
theorem dX2_nextBest_70 : decode cX2_nextBest 70 = .ok (.istore_n 1, 1) := by decide +kernel
theorem dX2_nextBest_71 : decode cX2_nextBest 71 = .ok (.iload 5, 2) := by decide +kernel
theorem dX2_nextBest_73 : decode cX2_nextBest 73 = .ok (.istore_n 2, 1) := by decide +kernel
theorem dX2_nextBest_74 : decode cX2_nextBest 74 = .ok (.aload_n 0, 1) := by decide +kernel
theorem dX2_nextBest_75 : decode cX2_nextBest 75 = .ok (.getfield 15, 3) := by decide +kernel
theorem dX2_nextBest_78 : decode cX2_nextBest 78 = .ok (.iload 4, 2) := by decide +kernel
theorem dX2_nextBest_80 : decode cX2_nextBest 80 = .ok (.iaload, 1) := by decide +kernel
theorem dX2_nextBest_81 : decode cX2_nextBest 81 = .ok (.istore_n 3, 1) := by decide +kernel
theorem dX2_nextBest_82 : decode cX2_nextBest 82 = .ok (.iinc 4 1, 3) := by decide +kernel
theorem dX2_nextBest_85 : decode cX2_nextBest 85 = .ok (.goto (-73), 3) := by decide +kernel
theorem dX2_nextBest_88 : decode cX2_nextBest 88 = .ok (.iload_n 1, 1) := by decide +kernel
theorem dX2_nextBest_89 : decode cX2_nextBest 89 = .ok (.ireturn, 1) := by decide +kernel
theorem dX2_leastCost_0 : decode cX2_leastCost 0 = .ok (.iconst 0, 1) := by decide +kernel
theorem dX2_leastCost_1 : decode cX2_leastCost 1 = .ok (.istore_n 2, 1) := by decide +kernel
theorem dX2_leastCost_2 : decode cX2_leastCost 2 = .ok (.iconst 0, 1) := by decide +kernel
theorem dX2_leastCost_3 : decode cX2_leastCost 3 = .ok (.istore_n 3, 1) := by decide +kernel
theorem dX2_leastCost_4 : decode cX2_leastCost 4 = .ok (.iload_n 3, 1) := by decide +kernel
theorem dX2_leastCost_5 : decode cX2_leastCost 5 = .ok (.sipush 4095, 3) := by decide +kernel
theorem dX2_leastCost_8 : decode cX2_leastCost 8 = .ok (.if_icmp .ge 41, 3) := by decide +kernel
theorem dX2_leastCost_11 : decode cX2_leastCost 11 = .ok (.iload_n 2, 1) := by decide +kernel
theorem dX2_leastCost_12 : decode cX2_leastCost 12 = .ok (.aload_n 0, 1) := by decide +kernel
theorem dX2_leastCost_13 : decode cX2_leastCost 13 = .ok (.getfield 31, 3) := by decide +kernel
theorem dX2_leastCost_16 : decode cX2_leastCost 16 = .ok (.if_icmp .eq 33, 3) := by decide +kernel
theorem dX2_leastCost_19 : decode cX2_leastCost 19 = .ok (.aload_n 0, 1) := by decide +kernel
theorem dX2_leastCost_20 : decode cX2_leastCost 20 = .ok (.getfield 21, 3) := by decide +kernel
theorem dX2_leastCost_23 : decode cX2_leastCost 23 = .ok (.iload_n 2, 1) := by decide +kernel
theorem dX2_leastCost_24 : decode cX2_leastCost 24 = .ok (.aload_n 0, 1) := by decide +kernel
theorem dX2_leastCost_25 : decode cX2_leastCost 25 = .ok (.iload_n 2, 1) := by decide +kernel
theorem dX2_leastCost_26 : decode cX2_leastCost 26 = .ok (.iload_n 1, 1) := by decide +kernel
theorem dX2_leastCost_27 : decode cX2_leastCost 27 = .ok (.invokevirtual 59, 3) := by decide +kernel
theorem dX2_leastCost_30 : decode cX2_leastCost 30 = .ok (.iastore, 1) := by decide +kernel
theorem dX2_leastCost_31 : decode cX2_leastCost 31 = .ok (.iload_n 2, 1) := by decide +kernel
theorem dX2_leastCost_32 : decode cX2_leastCost 32 = .ok (.aload_n 0, 1) := by decide +kernel
theorem dX2_leastCost_33 : decode cX2_leastCost 33 = .ok (.getfield 31, 3) := by decide +kernel
theorem dX2_leastCost_36 : decode cX2_leastCost 36 = .ok (.isub, 1) := by decide +kernel
theorem dX2_leastCost_37 : decode cX2_leastCost 37 = .ok (.aload_n 0, 1) := by decide +kernel
theorem dX2_leastCost_38 : decode cX2_leastCost 38 = .ok (.getfield 31, 3) := by decide +kernel
theorem dX2_leastCost_41 : decode cX2_leastCost 41 = .ok (.iand, 1) := by decide +kernel
theorem dX2_leastCost_42 : decode cX2_leastCost 42 = .ok (.istore_n 2, 1) := by decide +kernel
theorem dX2_leastCost_43 : decode cX2_leastCost 43 = .ok (.iinc 3 1, 3) := by decide +kernel
theorem dX2_leastCost_46 : decode cX2_leastCost 46 = .ok (.goto (-42), 3) := by decide +kernel
theorem dX2_leastCost_49 : decode cX2_leastCost 49 = .ok (.aload_n 0, 1) := by decide +kernel
theorem dX2_leastCost_50 : decode cX2_leastCost 50 = .ok (.aload_n 0, 1) := by decide +kernel
theorem dX2_leastCost_51 : decode cX2_leastCost 51 = .ok (.getfield 31, 3) := by decide +kernel
theorem dX2_leastCost_54 : decode cX2_leastCost 54 = .ok (.iload_n 1, 1) := by decide +kernel
theorem dX2_leastCost_55 : decode cX2_leastCost 55 = .ok (.invokevirtual 59, 3) := by decide +kernel
theorem dX2_leastCost_58 : decode cX2_leastCost 58 = .ok (.ireturn, 1) := by decide +kernel
theorem dX2_isTest_0 : decode cX2_isTest 0 = .ok (.iload_n 1, 1) := by decide +kernel
theorem dX2_isTest_1 : decode cX2_isTest 1 = .ok (.iconst 0, 1) := by decide +kernel
theorem dX2_isTest_2 : decode cX2_isTest 2 = .ok (.aload_n 0, 1) := by decide +kernel
theorem dX2_isTest_3 : decode cX2_isTest 3 = .ok (.getfield 28, 3) := by decide +kernel
theorem dX2_isTest_6 : decode cX2_isTest 6 = .ok (.iconst 1, 1) := by decide +kernel
theorem dX2_isTest_7 : decode cX2_isTest 7 = .ok (.isub, 1) := by decide +kernel
theorem dX2_isTest_8 : decode cX2_isTest 8 = .ok (.invokestatic 34, 3) := by decide +kernel
theorem dX2_isTest_11 : decode cX2_isTest 11 = .ok (.ireturn, 1) := by decide +kernel
theorem dX2_isReading_0 : decode cX2_isReading 0 = .ok (.iload_n 0, 1) := by decide +kernel
theorem dX2_isReading_1 : decode cX2_isReading 1 = .ok (.iconst 0, 1) := by decide +kernel
theorem dX2_isReading_2 : decode cX2_isReading 2 = .ok (.iconst 3, 1) := by decide +kernel
theorem dX2_isReading_3 : decode cX2_isReading 3 = .ok (.invokestatic 34, 3) := by decide +kernel
theorem dX2_isReading_6 : decode cX2_isReading 6 = .ok (.ireturn, 1) := by decide +kernel
theorem dX2_partsSet_0 : decode cX2_partsSet 0 = .ok (.iconst 0, 1) := by decide +kernel
theorem dX2_partsSet_1 : decode cX2_partsSet 1 = .ok (.istore_n 3, 1) := by decide +kernel
theorem dX2_partsSet_2 : decode cX2_partsSet 2 = .ok (.iload_n 3, 1) := by decide +kernel
theorem dX2_partsSet_3 : decode cX2_partsSet 3 = .ok (.iconst 4, 1) := by decide +kernel
theorem dX2_partsSet_4 : decode cX2_partsSet 4 = .ok (.if_icmp .ge 27, 3) := by decide +kernel
theorem dX2_partsSet_7 : decode cX2_partsSet 7 = .ok (.aload_n 0, 1) := by decide +kernel
theorem dX2_partsSet_8 : decode cX2_partsSet 8 = .ok (.getfield 18, 3) := by decide +kernel
theorem dX2_partsSet_11 : decode cX2_partsSet 11 = .ok (.iload_n 1, 1) := by decide +kernel
theorem dX2_partsSet_12 : decode cX2_partsSet 12 = .ok (.iconst 4, 1) := by decide +kernel
theorem dX2_partsSet_13 : decode cX2_partsSet 13 = .ok (.imul, 1) := by decide +kernel
theorem dX2_partsSet_14 : decode cX2_partsSet 14 = .ok (.iload_n 3, 1) := by decide +kernel
theorem dX2_partsSet_15 : decode cX2_partsSet 15 = .ok (.iadd, 1) := by decide +kernel
theorem dX2_partsSet_16 : decode cX2_partsSet 16 = .ok (.iaload, 1) := by decide +kernel
theorem dX2_partsSet_17 : decode cX2_partsSet 17 = .ok (.iload_n 2, 1) := by decide +kernel
theorem dX2_partsSet_18 : decode cX2_partsSet 18 = .ok (.iand, 1) := by decide +kernel
theorem dX2_partsSet_19 : decode cX2_partsSet 19 = .ok (.iload_n 2, 1) := by decide +kernel
theorem dX2_partsSet_20 : decode cX2_partsSet 20 = .ok (.if_icmp .ne 5, 3) := by decide +kernel
theorem dX2_partsSet_23 : decode cX2_partsSet 23 = .ok (.iconst 0, 1) := by decide +kernel
theorem dX2_partsSet_24 : decode cX2_partsSet 24 = .ok (.ireturn, 1) := by decide +kernel
theorem dX2_partsSet_25 : decode cX2_partsSet 25 = .ok (.iinc 3 1, 3) := by decide +kernel
theorem dX2_partsSet_28 : decode cX2_partsSet 28 = .ok (.goto (-26), 3) := by decide +kernel
theorem dX2_partsSet_31 : decode cX2_partsSet 31 = .ok (.iconst 1, 1) := by decide +kernel
theorem dX2_partsSet_32 : decode cX2_partsSet 32 = .ok (.ireturn, 1) := by decide +kernel
theorem dX2_greatestLikelihood_0 : decode cX2_greatestLikelihood 0 = .ok (.iconst 0, 1) := by decide +kernel
theorem dX2_greatestLikelihood_1 : decode cX2_greatestLikelihood 1 = .ok (.istore_n 2, 1) := by decide +kernel
theorem dX2_greatestLikelihood_2 : decode cX2_greatestLikelihood 2 = .ok (.iconst 0, 1) := by decide +kernel
theorem dX2_greatestLikelihood_3 : decode cX2_greatestLikelihood 3 = .ok (.istore_n 3, 1) := by decide +kernel
theorem dX2_greatestLikelihood_4 : decode cX2_greatestLikelihood 4 = .ok (.iload_n 3, 1) := by decide +kernel
theorem dX2_greatestLikelihood_5 : decode cX2_greatestLikelihood 5 = .ok (.iconst 4, 1) := by decide +kernel
theorem dX2_greatestLikelihood_6 : decode cX2_greatestLikelihood 6 = .ok (.if_icmp .ge 33, 3) := by decide +kernel
theorem dX2_greatestLikelihood_9 : decode cX2_greatestLikelihood 9 = .ok (.iload_n 2, 1) := by decide +kernel
theorem dX2_greatestLikelihood_10 : decode cX2_greatestLikelihood 10 = .ok (.aload_n 0, 1) := by decide +kernel
theorem dX2_greatestLikelihood_11 : decode cX2_greatestLikelihood 11 = .ok (.aload_n 0, 1) := by decide +kernel
theorem dX2_greatestLikelihood_12 : decode cX2_greatestLikelihood 12 = .ok (.getfield 18, 3) := by decide +kernel
theorem dX2_greatestLikelihood_15 : decode cX2_greatestLikelihood 15 = .ok (.iload_n 1, 1) := by decide +kernel
theorem dX2_greatestLikelihood_16 : decode cX2_greatestLikelihood 16 = .ok (.iconst 4, 1) := by decide +kernel
theorem dX2_greatestLikelihood_17 : decode cX2_greatestLikelihood 17 = .ok (.imul, 1) := by decide +kernel
theorem dX2_greatestLikelihood_18 : decode cX2_greatestLikelihood 18 = .ok (.iload_n 3, 1) := by decide +kernel
theorem dX2_greatestLikelihood_19 : decode cX2_greatestLikelihood 19 = .ok (.iadd, 1) := by decide +kernel
theorem dX2_greatestLikelihood_20 : decode cX2_greatestLikelihood 20 = .ok (.iaload, 1) := by decide +kernel
theorem dX2_greatestLikelihood_21 : decode cX2_greatestLikelihood 21 = .ok (.aload_n 0, 1) := by decide +kernel
theorem dX2_greatestLikelihood_22 : decode cX2_greatestLikelihood 22 = .ok (.getfield 31, 3) := by decide +kernel
theorem dX2_greatestLikelihood_25 : decode cX2_greatestLikelihood 25 = .ok (.iand, 1) := by decide +kernel
theorem dX2_greatestLikelihood_26 : decode cX2_greatestLikelihood 26 = .ok (.invokevirtual 63, 3) := by decide +kernel
theorem dX2_greatestLikelihood_29 : decode cX2_greatestLikelihood 29 = .ok (.invokestatic 66, 3) := by decide +kernel
theorem dX2_greatestLikelihood_32 : decode cX2_greatestLikelihood 32 = .ok (.istore_n 2, 1) := by decide +kernel
theorem dX2_greatestLikelihood_33 : decode cX2_greatestLikelihood 33 = .ok (.iinc 3 1, 3) := by decide +kernel
theorem dX2_greatestLikelihood_36 : decode cX2_greatestLikelihood 36 = .ok (.goto (-32), 3) := by decide +kernel
theorem dX2_greatestLikelihood_39 : decode cX2_greatestLikelihood 39 = .ok (.iload_n 2, 1) := by decide +kernel
theorem dX2_greatestLikelihood_40 : decode cX2_greatestLikelihood 40 = .ok (.ireturn, 1) := by decide +kernel
theorem dX2_likelihoodOf_0 : decode cX2_likelihoodOf 0 = .ok (.iconst 0, 1) := by decide +kernel
theorem dX2_likelihoodOf_1 : decode cX2_likelihoodOf 1 = .ok (.istore_n 2, 1) := by decide +kernel
theorem dX2_likelihoodOf_2 : decode cX2_likelihoodOf 2 = .ok (.iconst 0, 1) := by decide +kernel
theorem dX2_likelihoodOf_3 : decode cX2_likelihoodOf 3 = .ok (.istore_n 3, 1) := by decide +kernel
theorem dX2_likelihoodOf_4 : decode cX2_likelihoodOf 4 = .ok (.iload_n 3, 1) := by decide +kernel
theorem dX2_likelihoodOf_5 : decode cX2_likelihoodOf 5 = .ok (.aload_n 0, 1) := by decide +kernel
theorem dX2_likelihoodOf_6 : decode cX2_likelihoodOf 6 = .ok (.getfield 24, 3) := by decide +kernel
theorem dX2_likelihoodOf_9 : decode cX2_likelihoodOf 9 = .ok (.if_icmp .ge 27, 3) := by decide +kernel
theorem dX2_likelihoodOf_12 : decode cX2_likelihoodOf 12 = .ok (.iload_n 1, 1) := by decide +kernel
theorem dX2_likelihoodOf_13 : decode cX2_likelihoodOf 13 = .ok (.iload_n 3, 1) := by decide +kernel
theorem dX2_likelihoodOf_14 : decode cX2_likelihoodOf 14 = .ok (.ishr, 1) := by decide +kernel
theorem dX2_likelihoodOf_15 : decode cX2_likelihoodOf 15 = .ok (.iconst 1, 1) := by decide +kernel
theorem dX2_likelihoodOf_16 : decode cX2_likelihoodOf 16 = .ok (.iand, 1) := by decide +kernel
theorem dX2_likelihoodOf_17 : decode cX2_likelihoodOf 17 = .ok (.iconst 1, 1) := by decide +kernel
theorem dX2_likelihoodOf_18 : decode cX2_likelihoodOf 18 = .ok (.if_icmp .ne 12, 3) := by decide +kernel
theorem dX2_likelihoodOf_21 : decode cX2_likelihoodOf 21 = .ok (.iload_n 2, 1) := by decide +kernel
theorem dX2_likelihoodOf_22 : decode cX2_likelihoodOf 22 = .ok (.aload_n 0, 1) := by decide +kernel
theorem dX2_likelihoodOf_23 : decode cX2_likelihoodOf 23 = .ok (.getfield 9, 3) := by decide +kernel
theorem dX2_likelihoodOf_26 : decode cX2_likelihoodOf 26 = .ok (.iload_n 3, 1) := by decide +kernel
theorem dX2_likelihoodOf_27 : decode cX2_likelihoodOf 27 = .ok (.iaload, 1) := by decide +kernel
theorem dX2_likelihoodOf_28 : decode cX2_likelihoodOf 28 = .ok (.iadd, 1) := by decide +kernel
theorem dX2_likelihoodOf_29 : decode cX2_likelihoodOf 29 = .ok (.istore_n 2, 1) := by decide +kernel
theorem dX2_likelihoodOf_30 : decode cX2_likelihoodOf 30 = .ok (.iinc 3 1, 3) := by decide +kernel
theorem dX2_likelihoodOf_33 : decode cX2_likelihoodOf 33 = .ok (.goto (-29), 3) := by decide +kernel
theorem dX2_likelihoodOf_36 : decode cX2_likelihoodOf 36 = .ok (.iload_n 2, 1) := by decide +kernel
theorem dX2_likelihoodOf_37 : decode cX2_likelihoodOf 37 = .ok (.ireturn, 1) := by decide +kernel
theorem dX2_costOfParting_0 : decode cX2_costOfParting 0 = .ok (.ldc 51, 2) := by decide +kernel
theorem dX2_costOfParting_2 : decode cX2_costOfParting 2 = .ok (.istore_n 3, 1) := by decide +kernel
theorem dX2_costOfParting_3 : decode cX2_costOfParting 3 = .ok (.iconst 0, 1) := by decide +kernel
theorem dX2_costOfParting_4 : decode cX2_costOfParting 4 = .ok (.istore 4, 2) := by decide +kernel
theorem dX2_costOfParting_6 : decode cX2_costOfParting 6 = .ok (.iload 4, 2) := by decide +kernel
theorem dX2_costOfParting_8 : decode cX2_costOfParting 8 = .ok (.aload_n 0, 1) := by decide +kernel
theorem dX2_costOfParting_9 : decode cX2_costOfParting 9 = .ok (.getfield 28, 3) := by decide +kernel
theorem dX2_costOfParting_12 : decode cX2_costOfParting 12 = .ok (.if_icmp .ge 51, 3) := by decide +kernel
theorem dX2_costOfParting_15 : decode cX2_costOfParting 15 = .ok (.aload_n 0, 1) := by decide +kernel
theorem dX2_costOfParting_16 : decode cX2_costOfParting 16 = .ok (.iload 4, 2) := by decide +kernel
theorem dX2_costOfParting_18 : decode cX2_costOfParting 18 = .ok (.iload_n 1, 1) := by decide +kernel
theorem dX2_costOfParting_19 : decode cX2_costOfParting 19 = .ok (.invokevirtual 52, 3) := by decide +kernel
theorem dX2_costOfParting_22 : decode cX2_costOfParting 22 = .ok (.ifCond .eq 35, 3) := by decide +kernel
theorem dX2_costOfParting_25 : decode cX2_costOfParting 25 = .ok (.iload_n 2, 1) := by decide +kernel
theorem dX2_costOfParting_26 : decode cX2_costOfParting 26 = .ok (.ifCond .eq 13, 3) := by decide +kernel
theorem dX2_costOfParting_29 : decode cX2_costOfParting 29 = .ok (.aload_n 0, 1) := by decide +kernel
theorem dX2_costOfParting_30 : decode cX2_costOfParting 30 = .ok (.getfield 15, 3) := by decide +kernel
theorem dX2_costOfParting_33 : decode cX2_costOfParting 33 = .ok (.iload 4, 2) := by decide +kernel
theorem dX2_costOfParting_35 : decode cX2_costOfParting 35 = .ok (.iaload, 1) := by decide +kernel
theorem dX2_costOfParting_36 : decode cX2_costOfParting 36 = .ok (.goto 4, 3) := by decide +kernel
theorem dX2_costOfParting_39 : decode cX2_costOfParting 39 = .ok (.iconst 1, 1) := by decide +kernel
theorem dX2_costOfParting_40 : decode cX2_costOfParting 40 = .ok (.istore 5, 2) := by decide +kernel
theorem dX2_costOfParting_42 : decode cX2_costOfParting 42 = .ok (.iload_n 3, 1) := by decide +kernel
theorem dX2_costOfParting_43 : decode cX2_costOfParting 43 = .ok (.iload 5, 2) := by decide +kernel
theorem dX2_costOfParting_45 : decode cX2_costOfParting 45 = .ok (.aload_n 0, 1) := by decide +kernel
theorem dX2_costOfParting_46 : decode cX2_costOfParting 46 = .ok (.iload 4, 2) := by decide +kernel
theorem dX2_costOfParting_48 : decode cX2_costOfParting 48 = .ok (.iload_n 1, 1) := by decide +kernel
theorem dX2_costOfParting_49 : decode cX2_costOfParting 49 = .ok (.invokevirtual 72, 3) := by decide +kernel
theorem dX2_costOfParting_52 : decode cX2_costOfParting 52 = .ok (.iadd, 1) := by decide +kernel
theorem dX2_costOfParting_53 : decode cX2_costOfParting 53 = .ok (.invokestatic 75, 3) := by decide +kernel
theorem dX2_costOfParting_56 : decode cX2_costOfParting 56 = .ok (.istore_n 3, 1) := by decide +kernel
theorem dX2_costOfParting_57 : decode cX2_costOfParting 57 = .ok (.iinc 4 1, 3) := by decide +kernel
theorem dX2_costOfParting_60 : decode cX2_costOfParting 60 = .ok (.goto (-54), 3) := by decide +kernel
theorem dX2_costOfParting_63 : decode cX2_costOfParting 63 = .ok (.iload_n 3, 1) := by decide +kernel
theorem dX2_costOfParting_64 : decode cX2_costOfParting 64 = .ok (.ldc 51, 2) := by decide +kernel
theorem dX2_costOfParting_66 : decode cX2_costOfParting 66 = .ok (.if_icmp .ne 7, 3) := by decide +kernel
theorem dX2_costOfParting_69 : decode cX2_costOfParting 69 = .ok (.iconst 0, 1) := by decide +kernel
theorem dX2_costOfParting_70 : decode cX2_costOfParting 70 = .ok (.goto 4, 3) := by decide +kernel
theorem dX2_costOfParting_73 : decode cX2_costOfParting 73 = .ok (.iload_n 3, 1) := by decide +kernel
theorem dX2_costOfParting_74 : decode cX2_costOfParting 74 = .ok (.ireturn, 1) := by decide +kernel
theorem dX2_dearestPart_0 : decode cX2_dearestPart 0 = .ok (.iconst 0, 1) := by decide +kernel
theorem dX2_dearestPart_1 : decode cX2_dearestPart 1 = .ok (.istore_n 3, 1) := by decide +kernel
theorem dX2_dearestPart_2 : decode cX2_dearestPart 2 = .ok (.iconst 0, 1) := by decide +kernel
theorem dX2_dearestPart_3 : decode cX2_dearestPart 3 = .ok (.istore 4, 2) := by decide +kernel
theorem dX2_dearestPart_5 : decode cX2_dearestPart 5 = .ok (.iload 4, 2) := by decide +kernel
theorem dX2_dearestPart_7 : decode cX2_dearestPart 7 = .ok (.iconst 4, 1) := by decide +kernel
theorem dX2_dearestPart_8 : decode cX2_dearestPart 8 = .ok (.if_icmp .ge 32, 3) := by decide +kernel
theorem dX2_dearestPart_11 : decode cX2_dearestPart 11 = .ok (.iload_n 3, 1) := by decide +kernel
theorem dX2_dearestPart_12 : decode cX2_dearestPart 12 = .ok (.aload_n 0, 1) := by decide +kernel
theorem dX2_dearestPart_13 : decode cX2_dearestPart 13 = .ok (.getfield 21, 3) := by decide +kernel
theorem dX2_dearestPart_16 : decode cX2_dearestPart 16 = .ok (.aload_n 0, 1) := by decide +kernel
theorem dX2_dearestPart_17 : decode cX2_dearestPart 17 = .ok (.getfield 18, 3) := by decide +kernel
theorem dX2_dearestPart_20 : decode cX2_dearestPart 20 = .ok (.iload_n 1, 1) := by decide +kernel
theorem dX2_dearestPart_21 : decode cX2_dearestPart 21 = .ok (.iconst 4, 1) := by decide +kernel
theorem dX2_dearestPart_22 : decode cX2_dearestPart 22 = .ok (.imul, 1) := by decide +kernel
theorem dX2_dearestPart_23 : decode cX2_dearestPart 23 = .ok (.iload 4, 2) := by decide +kernel
theorem dX2_dearestPart_25 : decode cX2_dearestPart 25 = .ok (.iadd, 1) := by decide +kernel
theorem dX2_dearestPart_26 : decode cX2_dearestPart 26 = .ok (.iaload, 1) := by decide +kernel
theorem dX2_dearestPart_27 : decode cX2_dearestPart 27 = .ok (.iload_n 2, 1) := by decide +kernel
theorem dX2_dearestPart_28 : decode cX2_dearestPart 28 = .ok (.iand, 1) := by decide +kernel
theorem dX2_dearestPart_29 : decode cX2_dearestPart 29 = .ok (.iaload, 1) := by decide +kernel
theorem dX2_dearestPart_30 : decode cX2_dearestPart 30 = .ok (.invokestatic 66, 3) := by decide +kernel
theorem dX2_dearestPart_33 : decode cX2_dearestPart 33 = .ok (.istore_n 3, 1) := by decide +kernel
theorem dX2_dearestPart_34 : decode cX2_dearestPart 34 = .ok (.iinc 4 1, 3) := by decide +kernel
theorem dX2_dearestPart_37 : decode cX2_dearestPart 37 = .ok (.goto (-32), 3) := by decide +kernel
theorem dX2_dearestPart_40 : decode cX2_dearestPart 40 = .ok (.iload_n 3, 1) := by decide +kernel
theorem dX2_dearestPart_41 : decode cX2_dearestPart 41 = .ok (.ireturn, 1) := by decide +kernel
theorem dX4_init_0 : decode cX4_init 0 = .ok (.aload_n 0, 1) := by decide +kernel
theorem dX4_init_1 : decode cX4_init 1 = .ok (.invokespecial 3, 3) := by decide +kernel
theorem dX4_init_4 : decode cX4_init 4 = .ok (.aload_n 0, 1) := by decide +kernel
theorem dX4_init_5 : decode cX4_init 5 = .ok (.iconst 5, 1) := by decide +kernel
theorem dX4_init_6 : decode cX4_init 6 = .ok (.newarray .int, 2) := by decide +kernel
theorem dX4_init_8 : decode cX4_init 8 = .ok (.putfield 9, 3) := by decide +kernel
theorem dX4_init_11 : decode cX4_init 11 = .ok (.aload_n 0, 1) := by decide +kernel
theorem dX4_init_12 : decode cX4_init 12 = .ok (.iconst (-1), 1) := by decide +kernel
theorem dX4_init_13 : decode cX4_init 13 = .ok (.putfield 15, 3) := by decide +kernel
theorem dX4_init_16 : decode cX4_init 16 = .ok (.aload_n 0, 1) := by decide +kernel
theorem dX4_init_17 : decode cX4_init 17 = .ok (.iconst 0, 1) := by decide +kernel
theorem dX4_init_18 : decode cX4_init 18 = .ok (.putfield 19, 3) := by decide +kernel
theorem dX4_init_21 : decode cX4_init 21 = .ok (.aload_n 0, 1) := by decide +kernel
theorem dX4_init_22 : decode cX4_init 22 = .ok (.iconst 0, 1) := by decide +kernel
theorem dX4_init_23 : decode cX4_init 23 = .ok (.putfield 22, 3) := by decide +kernel
theorem dX4_init_26 : decode cX4_init 26 = .ok (.aload_n 0, 1) := by decide +kernel
theorem dX4_init_27 : decode cX4_init 27 = .ok (.iconst (-1), 1) := by decide +kernel
theorem dX4_init_28 : decode cX4_init 28 = .ok (.putfield 25, 3) := by decide +kernel
theorem dX4_init_31 : decode cX4_init 31 = .ok (.aload_n 0, 1) := by decide +kernel
theorem dX4_init_32 : decode cX4_init 32 = .ok (.iconst (-1), 1) := by decide +kernel
theorem dX4_init_33 : decode cX4_init 33 = .ok (.putfield 28, 3) := by decide +kernel
theorem dX4_init_36 : decode cX4_init 36 = .ok (.return_, 1) := by decide +kernel
theorem dX4_begin_0 : decode cX4_begin 0 = .ok (.aload_n 0, 1) := by decide +kernel
theorem dX4_begin_1 : decode cX4_begin 1 = .ok (.iload_n 1, 1) := by decide +kernel
theorem dX4_begin_2 : decode cX4_begin 2 = .ok (.putfield 15, 3) := by decide +kernel
theorem dX4_begin_5 : decode cX4_begin 5 = .ok (.aload_n 0, 1) := by decide +kernel
theorem dX4_begin_6 : decode cX4_begin 6 = .ok (.iconst 0, 1) := by decide +kernel
theorem dX4_begin_7 : decode cX4_begin 7 = .ok (.putfield 19, 3) := by decide +kernel
theorem dX4_begin_10 : decode cX4_begin 10 = .ok (.aload_n 0, 1) := by decide +kernel
theorem dX4_begin_11 : decode cX4_begin 11 = .ok (.iconst 0, 1) := by decide +kernel
theorem dX4_begin_12 : decode cX4_begin 12 = .ok (.putfield 22, 3) := by decide +kernel
theorem dX4_begin_15 : decode cX4_begin 15 = .ok (.aload_n 0, 1) := by decide +kernel
theorem dX4_begin_16 : decode cX4_begin 16 = .ok (.iconst (-1), 1) := by decide +kernel
theorem dX4_begin_17 : decode cX4_begin 17 = .ok (.putfield 25, 3) := by decide +kernel
theorem dX4_begin_20 : decode cX4_begin 20 = .ok (.aload_n 0, 1) := by decide +kernel
theorem dX4_begin_21 : decode cX4_begin 21 = .ok (.iconst (-1), 1) := by decide +kernel
theorem dX4_begin_22 : decode cX4_begin 22 = .ok (.putfield 28, 3) := by decide +kernel
theorem dX4_begin_25 : decode cX4_begin 25 = .ok (.return_, 1) := by decide +kernel
theorem dX4_take_0 : decode cX4_take 0 = .ok (.aload_n 0, 1) := by decide +kernel
theorem dX4_take_1 : decode cX4_take 1 = .ok (.getfield 19, 3) := by decide +kernel
theorem dX4_take_4 : decode cX4_take 4 = .ok (.aload_n 0, 1) := by decide +kernel
theorem dX4_take_5 : decode cX4_take 5 = .ok (.getfield 15, 3) := by decide +kernel
theorem dX4_take_8 : decode cX4_take 8 = .ok (.if_icmp .ne 40, 3) := by decide +kernel
theorem dX4_take_11 : decode cX4_take 11 = .ok (.aload_n 0, 1) := by decide +kernel
theorem dX4_take_12 : decode cX4_take 12 = .ok (.getfield 9, 3) := by decide +kernel
theorem dX4_take_15 : decode cX4_take 15 = .ok (.iconst 0, 1) := by decide +kernel
theorem dX4_take_16 : decode cX4_take 16 = .ok (.iload_n 1, 1) := by decide +kernel
theorem dX4_take_17 : decode cX4_take 17 = .ok (.iastore, 1) := by decide +kernel
theorem dX4_take_18 : decode cX4_take 18 = .ok (.aload_n 0, 1) := by decide +kernel
theorem dX4_take_19 : decode cX4_take 19 = .ok (.getfield 9, 3) := by decide +kernel
theorem dX4_take_22 : decode cX4_take 22 = .ok (.iconst 1, 1) := by decide +kernel
theorem dX4_take_23 : decode cX4_take 23 = .ok (.iload_n 2, 1) := by decide +kernel
theorem dX4_take_24 : decode cX4_take 24 = .ok (.iastore, 1) := by decide +kernel
theorem dX4_take_25 : decode cX4_take 25 = .ok (.aload_n 0, 1) := by decide +kernel
theorem dX4_take_26 : decode cX4_take 26 = .ok (.getfield 9, 3) := by decide +kernel
theorem dX4_take_29 : decode cX4_take 29 = .ok (.iconst 2, 1) := by decide +kernel
theorem dX4_take_30 : decode cX4_take 30 = .ok (.iload_n 3, 1) := by decide +kernel
theorem dX4_take_31 : decode cX4_take 31 = .ok (.iastore, 1) := by decide +kernel
theorem dX4_take_32 : decode cX4_take 32 = .ok (.aload_n 0, 1) := by decide +kernel
theorem dX4_take_33 : decode cX4_take 33 = .ok (.getfield 9, 3) := by decide +kernel
theorem dX4_take_36 : decode cX4_take 36 = .ok (.iconst 3, 1) := by decide +kernel
theorem dX4_take_37 : decode cX4_take 37 = .ok (.iload 4, 2) := by decide +kernel
theorem dX4_take_39 : decode cX4_take 39 = .ok (.iastore, 1) := by decide +kernel
theorem dX4_take_40 : decode cX4_take 40 = .ok (.aload_n 0, 1) := by decide +kernel
theorem dX4_take_41 : decode cX4_take 41 = .ok (.getfield 9, 3) := by decide +kernel
theorem dX4_take_44 : decode cX4_take 44 = .ok (.iconst 4, 1) := by decide +kernel
theorem dX4_take_45 : decode cX4_take 45 = .ok (.iload 5, 2) := by decide +kernel
theorem dX4_take_47 : decode cX4_take 47 = .ok (.iastore, 1) := by decide +kernel
theorem dX4_take_48 : decode cX4_take 48 = .ok (.iload 5, 2) := by decide +kernel
theorem dX4_take_50 : decode cX4_take 50 = .ok (.aload_n 0, 1) := by decide +kernel
theorem dX4_take_51 : decode cX4_take 51 = .ok (.getfield 28, 3) := by decide +kernel
theorem dX4_take_54 : decode cX4_take 54 = .ok (.if_icmp .le 17, 3) := by decide +kernel
theorem dX4_take_57 : decode cX4_take 57 = .ok (.aload_n 0, 1) := by decide +kernel
theorem dX4_take_58 : decode cX4_take 58 = .ok (.iload 5, 2) := by decide +kernel
theorem dX4_take_60 : decode cX4_take 60 = .ok (.putfield 28, 3) := by decide +kernel
theorem dX4_take_63 : decode cX4_take 63 = .ok (.aload_n 0, 1) := by decide +kernel
theorem dX4_take_64 : decode cX4_take 64 = .ok (.aload_n 0, 1) := by decide +kernel
theorem dX4_take_65 : decode cX4_take 65 = .ok (.getfield 19, 3) := by decide +kernel
theorem dX4_take_68 : decode cX4_take 68 = .ok (.putfield 25, 3) := by decide +kernel
theorem dX4_take_71 : decode cX4_take 71 = .ok (.aload_n 0, 1) := by decide +kernel
theorem dX4_take_72 : decode cX4_take 72 = .ok (.dup, 1) := by decide +kernel
theorem dX4_take_73 : decode cX4_take 73 = .ok (.getfield 22, 3) := by decide +kernel
theorem dX4_take_76 : decode cX4_take 76 = .ok (.iload 5, 2) := by decide +kernel
theorem dX4_take_78 : decode cX4_take 78 = .ok (.iadd, 1) := by decide +kernel
theorem dX4_take_79 : decode cX4_take 79 = .ok (.putfield 22, 3) := by decide +kernel
theorem dX4_take_82 : decode cX4_take 82 = .ok (.aload_n 0, 1) := by decide +kernel
theorem dX4_take_83 : decode cX4_take 83 = .ok (.dup, 1) := by decide +kernel
theorem dX4_take_84 : decode cX4_take 84 = .ok (.getfield 19, 3) := by decide +kernel
theorem dX4_take_87 : decode cX4_take 87 = .ok (.iconst 1, 1) := by decide +kernel
theorem dX4_take_88 : decode cX4_take 88 = .ok (.iadd, 1) := by decide +kernel
theorem dX4_take_89 : decode cX4_take 89 = .ok (.putfield 19, 3) := by decide +kernel
theorem dX4_take_92 : decode cX4_take 92 = .ok (.return_, 1) := by decide +kernel
theorem dX4_number_0 : decode cX4_number 0 = .ok (.aload_n 0, 1) := by decide +kernel
theorem dX4_number_1 : decode cX4_number 1 = .ok (.getfield 19, 3) := by decide +kernel
theorem dX4_number_4 : decode cX4_number 4 = .ok (.ireturn, 1) := by decide +kernel
theorem dX4_weights_0 : decode cX4_weights 0 = .ok (.aload_n 0, 1) := by decide +kernel
theorem dX4_weights_1 : decode cX4_weights 1 = .ok (.getfield 22, 3) := by decide +kernel
theorem dX4_weights_4 : decode cX4_weights 4 = .ok (.ireturn, 1) := by decide +kernel
theorem dX4_heaviest_0 : decode cX4_heaviest 0 = .ok (.aload_n 0, 1) := by decide +kernel
theorem dX4_heaviest_1 : decode cX4_heaviest 1 = .ok (.getfield 25, 3) := by decide +kernel
theorem dX4_heaviest_4 : decode cX4_heaviest 4 = .ok (.ireturn, 1) := by decide +kernel
theorem dX4_factOfWanted_0 : decode cX4_factOfWanted 0 = .ok (.iload_n 1, 1) := by decide +kernel
theorem dX4_factOfWanted_1 : decode cX4_factOfWanted 1 = .ok (.iconst 0, 1) := by decide +kernel
theorem dX4_factOfWanted_2 : decode cX4_factOfWanted 2 = .ok (.iconst 4, 1) := by decide +kernel
theorem dX4_factOfWanted_3 : decode cX4_factOfWanted 3 = .ok (.invokestatic 31, 3) := by decide +kernel
theorem dX4_factOfWanted_6 : decode cX4_factOfWanted 6 = .ok (.ifCond .eq 12, 3) := by decide +kernel
theorem dX4_factOfWanted_9 : decode cX4_factOfWanted 9 = .ok (.aload_n 0, 1) := by decide +kernel
theorem dX4_factOfWanted_10 : decode cX4_factOfWanted 10 = .ok (.getfield 9, 3) := by decide +kernel
theorem dX4_factOfWanted_13 : decode cX4_factOfWanted 13 = .ok (.iload_n 1, 1) := by decide +kernel
theorem dX4_factOfWanted_14 : decode cX4_factOfWanted 14 = .ok (.iaload, 1) := by decide +kernel
theorem dX4_factOfWanted_15 : decode cX4_factOfWanted 15 = .ok (.goto 4, 3) := by decide +kernel
theorem dX4_factOfWanted_18 : decode cX4_factOfWanted 18 = .ok (.iconst (-1), 1) := by decide +kernel
theorem dX4_factOfWanted_19 : decode cX4_factOfWanted 19 = .ok (.ireturn, 1) := by decide +kernel
theorem dX6_init_0 : decode cX6_init 0 = .ok (.aload_n 0, 1) := by decide +kernel
theorem dX6_init_1 : decode cX6_init 1 = .ok (.invokespecial 3, 3) := by decide +kernel
theorem dX6_init_4 : decode cX6_init 4 = .ok (.aload_n 0, 1) := by decide +kernel
theorem dX6_init_5 : decode cX6_init 5 = .ok (.new 9, 3) := by decide +kernel
theorem dX6_init_8 : decode cX6_init 8 = .ok (.dup, 1) := by decide +kernel
theorem dX6_init_9 : decode cX6_init 9 = .ok (.invokespecial 11, 3) := by decide +kernel
theorem dX6_init_12 : decode cX6_init 12 = .ok (.putfield 12, 3) := by decide +kernel
theorem dX6_init_15 : decode cX6_init 15 = .ok (.aload_n 0, 1) := by decide +kernel
theorem dX6_init_16 : decode cX6_init 16 = .ok (.new 16, 3) := by decide +kernel
theorem dX6_init_19 : decode cX6_init 19 = .ok (.dup, 1) := by decide +kernel
theorem dX6_init_20 : decode cX6_init 20 = .ok (.aload_n 0, 1) := by decide +kernel
theorem dX6_init_21 : decode cX6_init 21 = .ok (.getfield 12, 3) := by decide +kernel
theorem dX6_init_24 : decode cX6_init 24 = .ok (.invokespecial 18, 3) := by decide +kernel
theorem dX6_init_27 : decode cX6_init 27 = .ok (.putfield 21, 3) := by decide +kernel
theorem dX6_init_30 : decode cX6_init 30 = .ok (.aload_n 0, 1) := by decide +kernel
theorem dX6_init_31 : decode cX6_init 31 = .ok (.new 25, 3) := by decide +kernel
theorem dX6_init_34 : decode cX6_init 34 = .ok (.dup, 1) := by decide +kernel
theorem dX6_init_35 : decode cX6_init 35 = .ok (.aload_n 0, 1) := by decide +kernel
theorem dX6_init_36 : decode cX6_init 36 = .ok (.getfield 21, 3) := by decide +kernel
theorem dX6_init_39 : decode cX6_init 39 = .ok (.invokespecial 27, 3) := by decide +kernel
theorem dX6_init_42 : decode cX6_init 42 = .ok (.putfield 30, 3) := by decide +kernel
theorem dX6_init_45 : decode cX6_init 45 = .ok (.aload_n 0, 1) := by decide +kernel
theorem dX6_init_46 : decode cX6_init 46 = .ok (.new 34, 3) := by decide +kernel
theorem dX6_init_49 : decode cX6_init 49 = .ok (.dup, 1) := by decide +kernel
theorem dX6_init_50 : decode cX6_init 50 = .ok (.invokespecial 36, 3) := by decide +kernel
theorem dX6_init_53 : decode cX6_init 53 = .ok (.putfield 37, 3) := by decide +kernel
theorem dX6_init_56 : decode cX6_init 56 = .ok (.return_, 1) := by decide +kernel
theorem dX6_station_0 : decode cX6_station 0 = .ok (.aload_n 0, 1) := by decide +kernel
theorem dX6_station_1 : decode cX6_station 1 = .ok (.getfield 12, 3) := by decide +kernel
theorem dX6_station_4 : decode cX6_station 4 = .ok (.iload_n 1, 1) := by decide +kernel
theorem dX6_station_5 : decode cX6_station 5 = .ok (.iload_n 2, 1) := by decide +kernel
theorem dX6_station_6 : decode cX6_station 6 = .ok (.invokevirtual 41, 3) := by decide +kernel
theorem dX6_station_9 : decode cX6_station 9 = .ok (.ireturn, 1) := by decide +kernel
theorem dX6_plan_0 : decode cX6_plan 0 = .ok (.aload_n 0, 1) := by decide +kernel
theorem dX6_plan_1 : decode cX6_plan 1 = .ok (.getfield 12, 3) := by decide +kernel
theorem dX6_plan_4 : decode cX6_plan 4 = .ok (.iload_n 1, 1) := by decide +kernel
theorem dX6_plan_5 : decode cX6_plan 5 = .ok (.iload_n 2, 1) := by decide +kernel
theorem dX6_plan_6 : decode cX6_plan 6 = .ok (.invokevirtual 45, 3) := by decide +kernel
theorem dX6_plan_9 : decode cX6_plan 9 = .ok (.ireturn, 1) := by decide +kernel
theorem dX6_oscillator_0 : decode cX6_oscillator 0 = .ok (.aload_n 0, 1) := by decide +kernel
theorem dX6_oscillator_1 : decode cX6_oscillator 1 = .ok (.getfield 12, 3) := by decide +kernel
theorem dX6_oscillator_4 : decode cX6_oscillator 4 = .ok (.iload_n 1, 1) := by decide +kernel
theorem dX6_oscillator_5 : decode cX6_oscillator 5 = .ok (.invokevirtual 48, 3) := by decide +kernel
theorem dX6_oscillator_8 : decode cX6_oscillator 8 = .ok (.ifCond .eq 21, 3) := by decide +kernel
theorem dX6_oscillator_11 : decode cX6_oscillator 11 = .ok (.aload_n 0, 1) := by decide +kernel
theorem dX6_oscillator_12 : decode cX6_oscillator 12 = .ok (.getfield 12, 3) := by decide +kernel
theorem dX6_oscillator_15 : decode cX6_oscillator 15 = .ok (.iload_n 1, 1) := by decide +kernel
theorem dX6_oscillator_16 : decode cX6_oscillator 16 = .ok (.aload_n 0, 1) := by decide +kernel
theorem dX6_oscillator_17 : decode cX6_oscillator 17 = .ok (.getfield 12, 3) := by decide +kernel
theorem dX6_oscillator_20 : decode cX6_oscillator 20 = .ok (.invokevirtual 52, 3) := by decide +kernel
theorem dX6_oscillator_23 : decode cX6_oscillator 23 = .ok (.invokevirtual 56, 3) := by decide +kernel
theorem dX6_oscillator_26 : decode cX6_oscillator 26 = .ok (.goto 5, 3) := by decide +kernel
theorem dX6_oscillator_29 : decode cX6_oscillator 29 = .ok (.ldc 59, 2) := by decide +kernel
theorem dX6_oscillator_31 : decode cX6_oscillator 31 = .ok (.ireturn, 1) := by decide +kernel
theorem dX6_spurs_0 : decode cX6_spurs 0 = .ok (.aload_n 0, 1) := by decide +kernel
theorem dX6_spurs_1 : decode cX6_spurs 1 = .ok (.getfield 12, 3) := by decide +kernel
theorem dX6_spurs_4 : decode cX6_spurs 4 = .ok (.iload_n 1, 1) := by decide +kernel
theorem dX6_spurs_5 : decode cX6_spurs 5 = .ok (.invokevirtual 48, 3) := by decide +kernel
theorem dX6_spurs_8 : decode cX6_spurs 8 = .ok (.ifCond .eq 14, 3) := by decide +kernel
theorem dX6_spurs_11 : decode cX6_spurs 11 = .ok (.aload_n 0, 1) := by decide +kernel
theorem dX6_spurs_12 : decode cX6_spurs 12 = .ok (.getfield 12, 3) := by decide +kernel
theorem dX6_spurs_15 : decode cX6_spurs 15 = .ok (.iload_n 1, 1) := by decide +kernel
theorem dX6_spurs_16 : decode cX6_spurs 16 = .ok (.invokevirtual 60, 3) := by decide +kernel
theorem dX6_spurs_19 : decode cX6_spurs 19 = .ok (.goto 4, 3) := by decide +kernel
theorem dX6_spurs_22 : decode cX6_spurs 22 = .ok (.iconst (-1), 1) := by decide +kernel
theorem dX6_spurs_23 : decode cX6_spurs 23 = .ok (.ireturn, 1) := by decide +kernel
theorem dX6_spur_0 : decode cX6_spur 0 = .ok (.aload_n 0, 1) := by decide +kernel
theorem dX6_spur_1 : decode cX6_spur 1 = .ok (.getfield 12, 3) := by decide +kernel
theorem dX6_spur_4 : decode cX6_spur 4 = .ok (.iload_n 1, 1) := by decide +kernel
theorem dX6_spur_5 : decode cX6_spur 5 = .ok (.invokevirtual 48, 3) := by decide +kernel
theorem dX6_spur_8 : decode cX6_spur 8 = .ok (.ifCond .eq 16, 3) := by decide +kernel
theorem dX6_spur_11 : decode cX6_spur 11 = .ok (.aload_n 0, 1) := by decide +kernel
theorem dX6_spur_12 : decode cX6_spur 12 = .ok (.getfield 12, 3) := by decide +kernel
theorem dX6_spur_15 : decode cX6_spur 15 = .ok (.iload_n 1, 1) := by decide +kernel
theorem dX6_spur_16 : decode cX6_spur 16 = .ok (.iload_n 2, 1) := by decide +kernel
theorem dX6_spur_17 : decode cX6_spur 17 = .ok (.iload_n 3, 1) := by decide +kernel
theorem dX6_spur_18 : decode cX6_spur 18 = .ok (.invokevirtual 64, 3) := by decide +kernel
theorem dX6_spur_21 : decode cX6_spur 21 = .ok (.goto 4, 3) := by decide +kernel
theorem dX6_spur_24 : decode cX6_spur 24 = .ok (.iconst (-1), 1) := by decide +kernel
theorem dX6_spur_25 : decode cX6_spur 25 = .ok (.ireturn, 1) := by decide +kernel
theorem dX6_image_0 : decode cX6_image 0 = .ok (.aload_n 0, 1) := by decide +kernel
theorem dX6_image_1 : decode cX6_image 1 = .ok (.getfield 12, 3) := by decide +kernel
theorem dX6_image_4 : decode cX6_image 4 = .ok (.iload_n 1, 1) := by decide +kernel
theorem dX6_image_5 : decode cX6_image 5 = .ok (.invokevirtual 48, 3) := by decide +kernel
theorem dX6_image_8 : decode cX6_image 8 = .ok (.ifCond .eq 14, 3) := by decide +kernel
theorem dX6_image_11 : decode cX6_image 11 = .ok (.aload_n 0, 1) := by decide +kernel
theorem dX6_image_12 : decode cX6_image 12 = .ok (.getfield 12, 3) := by decide +kernel
theorem dX6_image_15 : decode cX6_image 15 = .ok (.iload_n 2, 1) := by decide +kernel
theorem dX6_image_16 : decode cX6_image 16 = .ok (.invokevirtual 48, 3) := by decide +kernel
theorem dX6_image_19 : decode cX6_image 19 = .ok (.ifCond .ne 5, 3) := by decide +kernel
theorem dX6_image_22 : decode cX6_image 22 = .ok (.iconst (-1), 1) := by decide +kernel
theorem dX6_image_23 : decode cX6_image 23 = .ok (.ireturn, 1) := by decide +kernel
theorem dX6_image_24 : decode cX6_image 24 = .ok (.aload_n 0, 1) := by decide +kernel
theorem dX6_image_25 : decode cX6_image 25 = .ok (.getfield 12, 3) := by decide +kernel
theorem dX6_image_28 : decode cX6_image 28 = .ok (.iload_n 1, 1) := by decide +kernel
theorem dX6_image_29 : decode cX6_image 29 = .ok (.iload_n 2, 1) := by decide +kernel
theorem dX6_image_30 : decode cX6_image 30 = .ok (.invokevirtual 68, 3) := by decide +kernel
theorem dX6_image_33 : decode cX6_image 33 = .ok (.ifCond .eq 7, 3) := by decide +kernel
theorem dX6_image_36 : decode cX6_image 36 = .ok (.iconst 1, 1) := by decide +kernel
theorem dX6_image_37 : decode cX6_image 37 = .ok (.goto 4, 3) := by decide +kernel
theorem dX6_image_40 : decode cX6_image 40 = .ok (.iconst 0, 1) := by decide +kernel
theorem dX6_image_41 : decode cX6_image 41 = .ok (.ireturn, 1) := by decide +kernel
theorem dX6_worst_0 : decode cX6_worst 0 = .ok (.aload_n 0, 1) := by decide +kernel
theorem dX6_worst_1 : decode cX6_worst 1 = .ok (.getfield 12, 3) := by decide +kernel
theorem dX6_worst_4 : decode cX6_worst 4 = .ok (.iload_n 1, 1) := by decide +kernel
theorem dX6_worst_5 : decode cX6_worst 5 = .ok (.invokevirtual 48, 3) := by decide +kernel
theorem dX6_worst_8 : decode cX6_worst 8 = .ok (.ifCond .eq 14, 3) := by decide +kernel
theorem dX6_worst_11 : decode cX6_worst 11 = .ok (.aload_n 0, 1) := by decide +kernel
theorem dX6_worst_12 : decode cX6_worst 12 = .ok (.getfield 12, 3) := by decide +kernel
theorem dX6_worst_15 : decode cX6_worst 15 = .ok (.iload_n 1, 1) := by decide +kernel
theorem dX6_worst_16 : decode cX6_worst 16 = .ok (.invokevirtual 72, 3) := by decide +kernel
theorem dX6_worst_19 : decode cX6_worst 19 = .ok (.goto 4, 3) := by decide +kernel
theorem dX6_worst_22 : decode cX6_worst 22 = .ok (.iconst (-1), 1) := by decide +kernel
theorem dX6_worst_23 : decode cX6_worst 23 = .ok (.ireturn, 1) := by decide +kernel
theorem dX6_birdies_0 : decode cX6_birdies 0 = .ok (.aload_n 0, 1) := by decide +kernel
theorem dX6_birdies_1 : decode cX6_birdies 1 = .ok (.getfield 12, 3) := by decide +kernel
theorem dX6_birdies_4 : decode cX6_birdies 4 = .ok (.aload_n 0, 1) := by decide +kernel
theorem dX6_birdies_5 : decode cX6_birdies 5 = .ok (.getfield 12, 3) := by decide +kernel
theorem dX6_birdies_8 : decode cX6_birdies 8 = .ok (.invokevirtual 52, 3) := by decide +kernel
theorem dX6_birdies_11 : decode cX6_birdies 11 = .ok (.invokevirtual 75, 3) := by decide +kernel
theorem dX6_birdies_14 : decode cX6_birdies 14 = .ok (.ireturn, 1) := by decide +kernel
theorem dX6_load_0 : decode cX6_load 0 = .ok (.iload_n 1, 1) := by decide +kernel
theorem dX6_load_1 : decode cX6_load 1 = .ok (.bipush 20, 2) := by decide +kernel
theorem dX6_load_3 : decode cX6_load 3 = .ok (.sipush 900, 3) := by decide +kernel
theorem dX6_load_6 : decode cX6_load 6 = .ok (.invokestatic 78, 3) := by decide +kernel
theorem dX6_load_9 : decode cX6_load 9 = .ok (.ifCond .eq 14, 3) := by decide +kernel
theorem dX6_load_12 : decode cX6_load 12 = .ok (.aload_n 0, 1) := by decide +kernel
theorem dX6_load_13 : decode cX6_load 13 = .ok (.getfield 12, 3) := by decide +kernel
theorem dX6_load_16 : decode cX6_load 16 = .ok (.iload_n 1, 1) := by decide +kernel
theorem dX6_load_17 : decode cX6_load 17 = .ok (.invokevirtual 82, 3) := by decide +kernel
theorem dX6_load_20 : decode cX6_load 20 = .ok (.goto 4, 3) := by decide +kernel
theorem dX6_load_23 : decode cX6_load 23 = .ok (.iconst (-1), 1) := by decide +kernel
theorem dX6_load_24 : decode cX6_load 24 = .ok (.ireturn, 1) := by decide +kernel
theorem dX6_best_0 : decode cX6_best 0 = .ok (.aload_n 0, 1) := by decide +kernel
theorem dX6_best_1 : decode cX6_best 1 = .ok (.getfield 12, 3) := by decide +kernel
theorem dX6_best_4 : decode cX6_best 4 = .ok (.iload_n 1, 1) := by decide +kernel
theorem dX6_best_5 : decode cX6_best 5 = .ok (.iload_n 2, 1) := by decide +kernel
theorem dX6_best_6 : decode cX6_best 6 = .ok (.iload_n 3, 1) := by decide +kernel
theorem dX6_best_7 : decode cX6_best 7 = .ok (.invokevirtual 85, 3) := by decide +kernel
theorem dX6_best_10 : decode cX6_best 10 = .ok (.ireturn, 1) := by decide +kernel
theorem dX6_gang_0 : decode cX6_gang 0 = .ok (.aload_n 0, 1) := by decide +kernel
theorem dX6_gang_1 : decode cX6_gang 1 = .ok (.getfield 21, 3) := by decide +kernel
theorem dX6_gang_4 : decode cX6_gang 4 = .ok (.iload_n 1, 1) := by decide +kernel
theorem dX6_gang_5 : decode cX6_gang 5 = .ok (.iload_n 2, 1) := by decide +kernel
theorem dX6_gang_6 : decode cX6_gang 6 = .ok (.invokevirtual 88, 3) := by decide +kernel
theorem dX6_gang_9 : decode cX6_gang 9 = .ok (.ireturn, 1) := by decide +kernel
theorem dX6_part_0 : decode cX6_part 0 = .ok (.aload_n 0, 1) := by decide +kernel
theorem dX6_part_1 : decode cX6_part 1 = .ok (.getfield 21, 3) := by decide +kernel
theorem dX6_part_4 : decode cX6_part 4 = .ok (.iload_n 1, 1) := by decide +kernel
theorem dX6_part_5 : decode cX6_part 5 = .ok (.iload_n 2, 1) := by decide +kernel
theorem dX6_part_6 : decode cX6_part 6 = .ok (.invokevirtual 91, 3) := by decide +kernel
theorem dX6_part_9 : decode cX6_part 9 = .ok (.ireturn, 1) := by decide +kernel
theorem dX6_tuned_0 : decode cX6_tuned 0 = .ok (.iload_n 1, 1) := by decide +kernel
theorem dX6_tuned_1 : decode cX6_tuned 1 = .ok (.invokestatic 94, 3) := by decide +kernel
theorem dX6_tuned_4 : decode cX6_tuned 4 = .ok (.ifCond .eq 15, 3) := by decide +kernel
theorem dX6_tuned_7 : decode cX6_tuned 7 = .ok (.aload_n 0, 1) := by decide +kernel
theorem dX6_tuned_8 : decode cX6_tuned 8 = .ok (.getfield 21, 3) := by decide +kernel
theorem dX6_tuned_11 : decode cX6_tuned 11 = .ok (.iload_n 1, 1) := by decide +kernel
theorem dX6_tuned_12 : decode cX6_tuned 12 = .ok (.iload_n 2, 1) := by decide +kernel
theorem dX6_tuned_13 : decode cX6_tuned 13 = .ok (.invokevirtual 97, 3) := by decide +kernel
theorem dX6_tuned_16 : decode cX6_tuned 16 = .ok (.goto 4, 3) := by decide +kernel
theorem dX6_tuned_19 : decode cX6_tuned 19 = .ok (.iconst (-1), 1) := by decide +kernel
theorem dX6_tuned_20 : decode cX6_tuned 20 = .ok (.ireturn, 1) := by decide +kernel
theorem dX6_error_0 : decode cX6_error 0 = .ok (.iload_n 1, 1) := by decide +kernel
theorem dX6_error_1 : decode cX6_error 1 = .ok (.invokestatic 94, 3) := by decide +kernel
theorem dX6_error_4 : decode cX6_error 4 = .ok (.ifCond .eq 21, 3) := by decide +kernel
theorem dX6_error_7 : decode cX6_error 7 = .ok (.aload_n 0, 1) := by decide +kernel
theorem dX6_error_8 : decode cX6_error 8 = .ok (.getfield 21, 3) := by decide +kernel
theorem dX6_error_11 : decode cX6_error 11 = .ok (.aload_n 0, 1) := by decide +kernel
theorem dX6_error_12 : decode cX6_error 12 = .ok (.getfield 21, 3) := by decide +kernel
theorem dX6_error_15 : decode cX6_error 15 = .ok (.invokevirtual 100, 3) := by decide +kernel
theorem dX6_error_18 : decode cX6_error 18 = .ok (.iload_n 1, 1) := by decide +kernel
theorem dX6_error_19 : decode cX6_error 19 = .ok (.invokevirtual 104, 3) := by decide +kernel
theorem dX6_error_22 : decode cX6_error 22 = .ok (.goto 5, 3) := by decide +kernel
theorem dX6_error_25 : decode cX6_error 25 = .ok (.ldc 59, 2) := by decide +kernel
theorem dX6_error_27 : decode cX6_error 27 = .ok (.ireturn, 1) := by decide +kernel
theorem dX6_point_0 : decode cX6_point 0 = .ok (.aload_n 0, 1) := by decide +kernel
theorem dX6_point_1 : decode cX6_point 1 = .ok (.getfield 21, 3) := by decide +kernel
theorem dX6_point_4 : decode cX6_point 4 = .ok (.iload_n 1, 1) := by decide +kernel
theorem dX6_point_5 : decode cX6_point 5 = .ok (.iload_n 2, 1) := by decide +kernel
theorem dX6_point_6 : decode cX6_point 6 = .ok (.invokevirtual 108, 3) := by decide +kernel
theorem dX6_point_9 : decode cX6_point 9 = .ok (.ireturn, 1) := by decide +kernel
theorem dX6_off_0 : decode cX6_off 0 = .ok (.aload_n 0, 1) := by decide +kernel
theorem dX6_off_1 : decode cX6_off 1 = .ok (.getfield 21, 3) := by decide +kernel
theorem dX6_off_4 : decode cX6_off 4 = .ok (.aload_n 0, 1) := by decide +kernel
theorem dX6_off_5 : decode cX6_off 5 = .ok (.getfield 21, 3) := by decide +kernel
theorem dX6_off_8 : decode cX6_off 8 = .ok (.invokevirtual 100, 3) := by decide +kernel
theorem dX6_off_11 : decode cX6_off 11 = .ok (.aload_n 0, 1) := by decide +kernel
theorem dX6_off_12 : decode cX6_off 12 = .ok (.getfield 12, 3) := by decide +kernel
theorem dX6_off_15 : decode cX6_off 15 = .ok (.invokevirtual 52, 3) := by decide +kernel
theorem dX6_off_18 : decode cX6_off 18 = .ok (.invokevirtual 111, 3) := by decide +kernel
theorem dX6_off_21 : decode cX6_off 21 = .ok (.ireturn, 1) := by decide +kernel
theorem dX6_trimmed_0 : decode cX6_trimmed 0 = .ok (.aload_n 0, 1) := by decide +kernel
theorem dX6_trimmed_1 : decode cX6_trimmed 1 = .ok (.getfield 21, 3) := by decide +kernel
theorem dX6_trimmed_4 : decode cX6_trimmed 4 = .ok (.iload_n 1, 1) := by decide +kernel
theorem dX6_trimmed_5 : decode cX6_trimmed 5 = .ok (.iload_n 2, 1) := by decide +kernel
theorem dX6_trimmed_6 : decode cX6_trimmed 6 = .ok (.invokevirtual 114, 3) := by decide +kernel
theorem dX6_trimmed_9 : decode cX6_trimmed 9 = .ok (.ireturn, 1) := by decide +kernel
theorem dX6_mark_0 : decode cX6_mark 0 = .ok (.iload_n 1, 1) := by decide +kernel
theorem dX6_mark_1 : decode cX6_mark 1 = .ok (.iconst 1, 1) := by decide +kernel
theorem dX6_mark_2 : decode cX6_mark 2 = .ok (.ldc 117, 2) := by decide +kernel
theorem dX6_mark_4 : decode cX6_mark 4 = .ok (.invokestatic 78, 3) := by decide +kernel
theorem dX6_mark_7 : decode cX6_mark 7 = .ok (.ifCond .eq 14, 3) := by decide +kernel
theorem dX6_mark_10 : decode cX6_mark 10 = .ok (.aload_n 0, 1) := by decide +kernel
theorem dX6_mark_11 : decode cX6_mark 11 = .ok (.getfield 21, 3) := by decide +kernel
theorem dX6_mark_14 : decode cX6_mark 14 = .ok (.iload_n 1, 1) := by decide +kernel
theorem dX6_mark_15 : decode cX6_mark 15 = .ok (.invokevirtual 118, 3) := by decide +kernel
theorem dX6_mark_18 : decode cX6_mark 18 = .ok (.goto 4, 3) := by decide +kernel
theorem dX6_mark_21 : decode cX6_mark 21 = .ok (.iconst (-1), 1) := by decide +kernel
theorem dX6_mark_22 : decode cX6_mark 22 = .ok (.ireturn, 1) := by decide +kernel
theorem dX6_set_0 : decode cX6_set 0 = .ok (.aload_n 0, 1) := by decide +kernel
end
section
theorem dX6_set_1 : decode cX6_set 1 = .ok (.getfield 30, 3) := by decide +kernel
theorem dX6_set_4 : decode cX6_set 4 = .ok (.invokevirtual 121, 3) := by decide +kernel
theorem dX6_set_7 : decode cX6_set 7 = .ok (.ireturn, 1) := by decide +kernel
theorem dX6_offBy_0 : decode cX6_offBy 0 = .ok (.aload_n 0, 1) := by decide +kernel
theorem dX6_offBy_1 : decode cX6_offBy 1 = .ok (.getfield 30, 3) := by decide +kernel
theorem dX6_offBy_4 : decode cX6_offBy 4 = .ok (.iload_n 1, 1) := by decide +kernel
theorem dX6_offBy_5 : decode cX6_offBy 5 = .ok (.iload_n 2, 1) := by decide +kernel
theorem dX6_offBy_6 : decode cX6_offBy 6 = .ok (.iload_n 3, 1) := by decide +kernel
theorem dX6_offBy_7 : decode cX6_offBy 7 = .ok (.invokevirtual 124, 3) := by decide +kernel
theorem dX6_offBy_10 : decode cX6_offBy 10 = .ok (.ireturn, 1) := by decide +kernel
theorem dX6_ofSet_0 : decode cX6_ofSet 0 = .ok (.aload_n 0, 1) := by decide +kernel
theorem dX6_ofSet_1 : decode cX6_ofSet 1 = .ok (.getfield 30, 3) := by decide +kernel
theorem dX6_ofSet_4 : decode cX6_ofSet 4 = .ok (.iload_n 1, 1) := by decide +kernel
theorem dX6_ofSet_5 : decode cX6_ofSet 5 = .ok (.iload_n 2, 1) := by decide +kernel
theorem dX6_ofSet_6 : decode cX6_ofSet 6 = .ok (.iload_n 3, 1) := by decide +kernel
theorem dX6_ofSet_7 : decode cX6_ofSet 7 = .ok (.invokevirtual 127, 3) := by decide +kernel
theorem dX6_ofSet_10 : decode cX6_ofSet 10 = .ok (.ireturn, 1) := by decide +kernel
theorem dX6_errorOf_0 : decode cX6_errorOf 0 = .ok (.aload_n 0, 1) := by decide +kernel
theorem dX6_errorOf_1 : decode cX6_errorOf 1 = .ok (.getfield 30, 3) := by decide +kernel
theorem dX6_errorOf_4 : decode cX6_errorOf 4 = .ok (.iload_n 1, 1) := by decide +kernel
theorem dX6_errorOf_5 : decode cX6_errorOf 5 = .ok (.invokevirtual 130, 3) := by decide +kernel
theorem dX6_errorOf_8 : decode cX6_errorOf 8 = .ok (.ireturn, 1) := by decide +kernel
theorem dX6_sheet_0 : decode cX6_sheet 0 = .ok (.aload_n 0, 1) := by decide +kernel
theorem dX6_sheet_1 : decode cX6_sheet 1 = .ok (.getfield 30, 3) := by decide +kernel
theorem dX6_sheet_4 : decode cX6_sheet 4 = .ok (.iload_n 1, 1) := by decide +kernel
theorem dX6_sheet_5 : decode cX6_sheet 5 = .ok (.iload_n 2, 1) := by decide +kernel
theorem dX6_sheet_6 : decode cX6_sheet 6 = .ok (.invokevirtual 133, 3) := by decide +kernel
theorem dX6_sheet_9 : decode cX6_sheet 9 = .ok (.ireturn, 1) := by decide +kernel
theorem dX6_round_0 : decode cX6_round 0 = .ok (.aload_n 0, 1) := by decide +kernel
theorem dX6_round_1 : decode cX6_round 1 = .ok (.getfield 30, 3) := by decide +kernel
theorem dX6_round_4 : decode cX6_round 4 = .ok (.iload_n 1, 1) := by decide +kernel
theorem dX6_round_5 : decode cX6_round 5 = .ok (.invokevirtual 136, 3) := by decide +kernel
theorem dX6_round_8 : decode cX6_round 8 = .ok (.ireturn, 1) := by decide +kernel
theorem dX6_align_0 : decode cX6_align 0 = .ok (.aload_n 0, 1) := by decide +kernel
theorem dX6_align_1 : decode cX6_align 1 = .ok (.getfield 30, 3) := by decide +kernel
theorem dX6_align_4 : decode cX6_align 4 = .ok (.iload_n 1, 1) := by decide +kernel
theorem dX6_align_5 : decode cX6_align 5 = .ok (.invokevirtual 139, 3) := by decide +kernel
theorem dX6_align_8 : decode cX6_align 8 = .ok (.ireturn, 1) := by decide +kernel
theorem dX6_fault_0 : decode cX6_fault 0 = .ok (.aload_n 0, 1) := by decide +kernel
theorem dX6_fault_1 : decode cX6_fault 1 = .ok (.getfield 37, 3) := by decide +kernel
theorem dX6_fault_4 : decode cX6_fault 4 = .ok (.iload_n 1, 1) := by decide +kernel
theorem dX6_fault_5 : decode cX6_fault 5 = .ok (.invokevirtual 142, 3) := by decide +kernel
theorem dX6_fault_8 : decode cX6_fault 8 = .ok (.ireturn, 1) := by decide +kernel
theorem dX6_test_0 : decode cX6_test 0 = .ok (.aload_n 0, 1) := by decide +kernel
theorem dX6_test_1 : decode cX6_test 1 = .ok (.getfield 37, 3) := by decide +kernel
theorem dX6_test_4 : decode cX6_test 4 = .ok (.iload_n 1, 1) := by decide +kernel
theorem dX6_test_5 : decode cX6_test 5 = .ok (.invokevirtual 145, 3) := by decide +kernel
theorem dX6_test_8 : decode cX6_test 8 = .ok (.ireturn, 1) := by decide +kernel
theorem dX6_reading_0 : decode cX6_reading 0 = .ok (.aload_n 0, 1) := by decide +kernel
theorem dX6_reading_1 : decode cX6_reading 1 = .ok (.getfield 37, 3) := by decide +kernel
theorem dX6_reading_4 : decode cX6_reading 4 = .ok (.iload_n 1, 1) := by decide +kernel
theorem dX6_reading_5 : decode cX6_reading 5 = .ok (.iload_n 2, 1) := by decide +kernel
theorem dX6_reading_6 : decode cX6_reading 6 = .ok (.iload_n 3, 1) := by decide +kernel
theorem dX6_reading_7 : decode cX6_reading 7 = .ok (.invokevirtual 148, 3) := by decide +kernel
theorem dX6_reading_10 : decode cX6_reading 10 = .ok (.ireturn, 1) := by decide +kernel
theorem dX6_read_0 : decode cX6_read 0 = .ok (.aload_n 0, 1) := by decide +kernel
theorem dX6_read_1 : decode cX6_read 1 = .ok (.getfield 37, 3) := by decide +kernel
theorem dX6_read_4 : decode cX6_read 4 = .ok (.iload_n 1, 1) := by decide +kernel
theorem dX6_read_5 : decode cX6_read 5 = .ok (.iload_n 2, 1) := by decide +kernel
theorem dX6_read_6 : decode cX6_read 6 = .ok (.invokevirtual 151, 3) := by decide +kernel
theorem dX6_read_9 : decode cX6_read 9 = .ok (.ireturn, 1) := by decide +kernel
theorem dX6_again_0 : decode cX6_again 0 = .ok (.aload_n 0, 1) := by decide +kernel
theorem dX6_again_1 : decode cX6_again 1 = .ok (.getfield 37, 3) := by decide +kernel
theorem dX6_again_4 : decode cX6_again 4 = .ok (.invokevirtual 154, 3) := by decide +kernel
theorem dX6_again_7 : decode cX6_again 7 = .ok (.ireturn, 1) := by decide +kernel
theorem dX6_left_0 : decode cX6_left 0 = .ok (.iload_n 1, 1) := by decide +kernel
theorem dX6_left_1 : decode cX6_left 1 = .ok (.tableswitch 65 0 3 #[31, 39, 47, 56], 31) := by decide +kernel
theorem dX6_left_32 : decode cX6_left 32 = .ok (.aload_n 0, 1) := by decide +kernel
theorem dX6_left_33 : decode cX6_left 33 = .ok (.getfield 37, 3) := by decide +kernel
theorem dX6_left_36 : decode cX6_left 36 = .ok (.invokevirtual 157, 3) := by decide +kernel
theorem dX6_left_39 : decode cX6_left 39 = .ok (.ireturn, 1) := by decide +kernel
theorem dX6_left_40 : decode cX6_left 40 = .ok (.aload_n 0, 1) := by decide +kernel
theorem dX6_left_41 : decode cX6_left 41 = .ok (.getfield 37, 3) := by decide +kernel
theorem dX6_left_44 : decode cX6_left 44 = .ok (.invokevirtual 160, 3) := by decide +kernel
theorem dX6_left_47 : decode cX6_left 47 = .ok (.ireturn, 1) := by decide +kernel
theorem dX6_left_48 : decode cX6_left 48 = .ok (.aload_n 0, 1) := by decide +kernel
theorem dX6_left_49 : decode cX6_left 49 = .ok (.getfield 37, 3) := by decide +kernel
theorem dX6_left_52 : decode cX6_left 52 = .ok (.iconst 0, 1) := by decide +kernel
theorem dX6_left_53 : decode cX6_left 53 = .ok (.invokevirtual 163, 3) := by decide +kernel
theorem dX6_left_56 : decode cX6_left 56 = .ok (.ireturn, 1) := by decide +kernel
theorem dX6_left_57 : decode cX6_left 57 = .ok (.aload_n 0, 1) := by decide +kernel
theorem dX6_left_58 : decode cX6_left 58 = .ok (.getfield 37, 3) := by decide +kernel
theorem dX6_left_61 : decode cX6_left 61 = .ok (.iconst 1, 1) := by decide +kernel
theorem dX6_left_62 : decode cX6_left 62 = .ok (.invokevirtual 163, 3) := by decide +kernel
theorem dX6_left_65 : decode cX6_left 65 = .ok (.ireturn, 1) := by decide +kernel
theorem dX6_left_66 : decode cX6_left 66 = .ok (.iconst (-1), 1) := by decide +kernel
theorem dX6_left_67 : decode cX6_left 67 = .ok (.ireturn, 1) := by decide +kernel
theorem dX6_count_0 : decode cX6_count 0 = .ok (.iload_n 1, 1) := by decide +kernel
theorem dX6_count_1 : decode cX6_count 1 = .ok (.tableswitch 99 0 6 #[43, 51, 59, 67, 75, 83, 91], 43) := by decide +kernel
theorem dX6_count_44 : decode cX6_count 44 = .ok (.aload_n 0, 1) := by decide +kernel
theorem dX6_count_45 : decode cX6_count 45 = .ok (.getfield 12, 3) := by decide +kernel
theorem dX6_count_48 : decode cX6_count 48 = .ok (.invokevirtual 167, 3) := by decide +kernel
theorem dX6_count_51 : decode cX6_count 51 = .ok (.ireturn, 1) := by decide +kernel
theorem dX6_count_52 : decode cX6_count 52 = .ok (.aload_n 0, 1) := by decide +kernel
theorem dX6_count_53 : decode cX6_count 53 = .ok (.getfield 12, 3) := by decide +kernel
theorem dX6_count_56 : decode cX6_count 56 = .ok (.invokevirtual 170, 3) := by decide +kernel
theorem dX6_count_59 : decode cX6_count 59 = .ok (.ireturn, 1) := by decide +kernel
theorem dX6_count_60 : decode cX6_count 60 = .ok (.aload_n 0, 1) := by decide +kernel
theorem dX6_count_61 : decode cX6_count 61 = .ok (.getfield 21, 3) := by decide +kernel
theorem dX6_count_64 : decode cX6_count 64 = .ok (.invokevirtual 173, 3) := by decide +kernel
theorem dX6_count_67 : decode cX6_count 67 = .ok (.ireturn, 1) := by decide +kernel
theorem dX6_count_68 : decode cX6_count 68 = .ok (.aload_n 0, 1) := by decide +kernel
theorem dX6_count_69 : decode cX6_count 69 = .ok (.getfield 30, 3) := by decide +kernel
theorem dX6_count_72 : decode cX6_count 72 = .ok (.invokevirtual 176, 3) := by decide +kernel
theorem dX6_count_75 : decode cX6_count 75 = .ok (.ireturn, 1) := by decide +kernel
theorem dX6_count_76 : decode cX6_count 76 = .ok (.aload_n 0, 1) := by decide +kernel
theorem dX6_count_77 : decode cX6_count 77 = .ok (.getfield 30, 3) := by decide +kernel
theorem dX6_count_80 : decode cX6_count 80 = .ok (.invokevirtual 179, 3) := by decide +kernel
theorem dX6_count_83 : decode cX6_count 83 = .ok (.ireturn, 1) := by decide +kernel
theorem dX6_count_84 : decode cX6_count 84 = .ok (.aload_n 0, 1) := by decide +kernel
theorem dX6_count_85 : decode cX6_count 85 = .ok (.getfield 37, 3) := by decide +kernel
theorem dX6_count_88 : decode cX6_count 88 = .ok (.invokevirtual 182, 3) := by decide +kernel
theorem dX6_count_91 : decode cX6_count 91 = .ok (.ireturn, 1) := by decide +kernel
theorem dX6_count_92 : decode cX6_count 92 = .ok (.aload_n 0, 1) := by decide +kernel
theorem dX6_count_93 : decode cX6_count 93 = .ok (.getfield 37, 3) := by decide +kernel
theorem dX6_count_96 : decode cX6_count 96 = .ok (.invokevirtual 185, 3) := by decide +kernel
theorem dX6_count_99 : decode cX6_count 99 = .ok (.ireturn, 1) := by decide +kernel
theorem dX6_count_100 : decode cX6_count 100 = .ok (.iconst (-1), 1) := by decide +kernel
theorem dX6_count_101 : decode cX6_count 101 = .ok (.ireturn, 1) := by decide +kernel
theorem dX6_within_0 : decode cX6_within 0 = .ok (.iload_n 0, 1) := by decide +kernel
theorem dX6_within_1 : decode cX6_within 1 = .ok (.iload_n 1, 1) := by decide +kernel
theorem dX6_within_2 : decode cX6_within 2 = .ok (.if_icmp .lt 12, 3) := by decide +kernel
theorem dX6_within_5 : decode cX6_within 5 = .ok (.iload_n 0, 1) := by decide +kernel
theorem dX6_within_6 : decode cX6_within 6 = .ok (.iload_n 2, 1) := by decide +kernel
theorem dX6_within_7 : decode cX6_within 7 = .ok (.if_icmp .gt 7, 3) := by decide +kernel
theorem dX6_within_10 : decode cX6_within 10 = .ok (.iconst 1, 1) := by decide +kernel
theorem dX6_within_11 : decode cX6_within 11 = .ok (.goto 4, 3) := by decide +kernel
theorem dX6_within_14 : decode cX6_within 14 = .ok (.iconst 0, 1) := by decide +kernel
theorem dX6_within_15 : decode cX6_within 15 = .ok (.ireturn, 1) := by decide +kernel
theorem dX6_isPlace_0 : decode cX6_isPlace 0 = .ok (.iload_n 0, 1) := by decide +kernel
theorem dX6_isPlace_1 : decode cX6_isPlace 1 = .ok (.iconst 0, 1) := by decide +kernel
theorem dX6_isPlace_2 : decode cX6_isPlace 2 = .ok (.bipush 100, 2) := by decide +kernel
theorem dX6_isPlace_4 : decode cX6_isPlace 4 = .ok (.invokestatic 78, 3) := by decide +kernel
theorem dX6_isPlace_7 : decode cX6_isPlace 7 = .ok (.ireturn, 1) := by decide +kernel
theorem dJ6_bitCount_0f7a4_0 : decode cJ6_bitCount_0f7a4 0 = .ok (.iload_n 0, 1) := by decide +kernel
theorem dJ6_bitCount_0f7a4_1 : decode cJ6_bitCount_0f7a4 1 = .ok (.iload_n 0, 1) := by decide +kernel
theorem dJ6_bitCount_0f7a4_2 : decode cJ6_bitCount_0f7a4 2 = .ok (.iconst 1, 1) := by decide +kernel
theorem dJ6_bitCount_0f7a4_3 : decode cJ6_bitCount_0f7a4 3 = .ok (.iushr, 1) := by decide +kernel
theorem dJ6_bitCount_0f7a4_4 : decode cJ6_bitCount_0f7a4 4 = .ok (.ldc_w 265, 3) := by decide +kernel
theorem dJ6_bitCount_0f7a4_7 : decode cJ6_bitCount_0f7a4 7 = .ok (.iand, 1) := by decide +kernel
theorem dJ6_bitCount_0f7a4_8 : decode cJ6_bitCount_0f7a4 8 = .ok (.isub, 1) := by decide +kernel
theorem dJ6_bitCount_0f7a4_9 : decode cJ6_bitCount_0f7a4 9 = .ok (.istore_n 0, 1) := by decide +kernel
theorem dJ6_bitCount_0f7a4_10 : decode cJ6_bitCount_0f7a4 10 = .ok (.iload_n 0, 1) := by decide +kernel
theorem dJ6_bitCount_0f7a4_11 : decode cJ6_bitCount_0f7a4 11 = .ok (.ldc_w 266, 3) := by decide +kernel
theorem dJ6_bitCount_0f7a4_14 : decode cJ6_bitCount_0f7a4 14 = .ok (.iand, 1) := by decide +kernel
theorem dJ6_bitCount_0f7a4_15 : decode cJ6_bitCount_0f7a4 15 = .ok (.iload_n 0, 1) := by decide +kernel
theorem dJ6_bitCount_0f7a4_16 : decode cJ6_bitCount_0f7a4 16 = .ok (.iconst 2, 1) := by decide +kernel
theorem dJ6_bitCount_0f7a4_17 : decode cJ6_bitCount_0f7a4 17 = .ok (.iushr, 1) := by decide +kernel
theorem dJ6_bitCount_0f7a4_18 : decode cJ6_bitCount_0f7a4 18 = .ok (.ldc_w 266, 3) := by decide +kernel
theorem dJ6_bitCount_0f7a4_21 : decode cJ6_bitCount_0f7a4 21 = .ok (.iand, 1) := by decide +kernel
theorem dJ6_bitCount_0f7a4_22 : decode cJ6_bitCount_0f7a4 22 = .ok (.iadd, 1) := by decide +kernel
theorem dJ6_bitCount_0f7a4_23 : decode cJ6_bitCount_0f7a4 23 = .ok (.istore_n 0, 1) := by decide +kernel
theorem dJ6_bitCount_0f7a4_24 : decode cJ6_bitCount_0f7a4 24 = .ok (.iload_n 0, 1) := by decide +kernel
theorem dJ6_bitCount_0f7a4_25 : decode cJ6_bitCount_0f7a4 25 = .ok (.iload_n 0, 1) := by decide +kernel
theorem dJ6_bitCount_0f7a4_26 : decode cJ6_bitCount_0f7a4 26 = .ok (.iconst 4, 1) := by decide +kernel
theorem dJ6_bitCount_0f7a4_27 : decode cJ6_bitCount_0f7a4 27 = .ok (.iushr, 1) := by decide +kernel
theorem dJ6_bitCount_0f7a4_28 : decode cJ6_bitCount_0f7a4 28 = .ok (.iadd, 1) := by decide +kernel
theorem dJ6_bitCount_0f7a4_29 : decode cJ6_bitCount_0f7a4 29 = .ok (.ldc_w 267, 3) := by decide +kernel
theorem dJ6_bitCount_0f7a4_32 : decode cJ6_bitCount_0f7a4 32 = .ok (.iand, 1) := by decide +kernel
theorem dJ6_bitCount_0f7a4_33 : decode cJ6_bitCount_0f7a4 33 = .ok (.istore_n 0, 1) := by decide +kernel
theorem dJ6_bitCount_0f7a4_34 : decode cJ6_bitCount_0f7a4 34 = .ok (.iload_n 0, 1) := by decide +kernel
theorem dJ6_bitCount_0f7a4_35 : decode cJ6_bitCount_0f7a4 35 = .ok (.iload_n 0, 1) := by decide +kernel
theorem dJ6_bitCount_0f7a4_36 : decode cJ6_bitCount_0f7a4 36 = .ok (.bipush 8, 2) := by decide +kernel
theorem dJ6_bitCount_0f7a4_38 : decode cJ6_bitCount_0f7a4 38 = .ok (.iushr, 1) := by decide +kernel
theorem dJ6_bitCount_0f7a4_39 : decode cJ6_bitCount_0f7a4 39 = .ok (.iadd, 1) := by decide +kernel
theorem dJ6_bitCount_0f7a4_40 : decode cJ6_bitCount_0f7a4 40 = .ok (.istore_n 0, 1) := by decide +kernel
theorem dJ6_bitCount_0f7a4_41 : decode cJ6_bitCount_0f7a4 41 = .ok (.iload_n 0, 1) := by decide +kernel
theorem dJ6_bitCount_0f7a4_42 : decode cJ6_bitCount_0f7a4 42 = .ok (.iload_n 0, 1) := by decide +kernel
theorem dJ6_bitCount_0f7a4_43 : decode cJ6_bitCount_0f7a4 43 = .ok (.bipush 16, 2) := by decide +kernel
theorem dJ6_bitCount_0f7a4_45 : decode cJ6_bitCount_0f7a4 45 = .ok (.iushr, 1) := by decide +kernel
theorem dJ6_bitCount_0f7a4_46 : decode cJ6_bitCount_0f7a4 46 = .ok (.iadd, 1) := by decide +kernel
theorem dJ6_bitCount_0f7a4_47 : decode cJ6_bitCount_0f7a4 47 = .ok (.istore_n 0, 1) := by decide +kernel
theorem dJ6_bitCount_0f7a4_48 : decode cJ6_bitCount_0f7a4 48 = .ok (.iload_n 0, 1) := by decide +kernel
theorem dJ6_bitCount_0f7a4_49 : decode cJ6_bitCount_0f7a4 49 = .ok (.bipush 63, 2) := by decide +kernel
theorem dJ6_bitCount_0f7a4_51 : decode cJ6_bitCount_0f7a4 51 = .ok (.iand, 1) := by decide +kernel
theorem dJ6_bitCount_0f7a4_52 : decode cJ6_bitCount_0f7a4 52 = .ok (.ireturn, 1) := by decide +kernel
theorem dJ9_abs_0f7a4_0 : decode cJ9_abs_0f7a4 0 = .ok (.iload_n 0, 1) := by decide +kernel
theorem dJ9_abs_0f7a4_1 : decode cJ9_abs_0f7a4 1 = .ok (.ifCond .ge 8, 3) := by decide +kernel
theorem dJ9_abs_0f7a4_4 : decode cJ9_abs_0f7a4 4 = .ok (.iload_n 0, 1) := by decide +kernel
theorem dJ9_abs_0f7a4_5 : decode cJ9_abs_0f7a4 5 = .ok (.ineg, 1) := by decide +kernel
theorem dJ9_abs_0f7a4_6 : decode cJ9_abs_0f7a4 6 = .ok (.goto 4, 3) := by decide +kernel
theorem dJ9_abs_0f7a4_9 : decode cJ9_abs_0f7a4 9 = .ok (.iload_n 0, 1) := by decide +kernel
theorem dJ9_abs_0f7a4_10 : decode cJ9_abs_0f7a4 10 = .ok (.ireturn, 1) := by decide +kernel
theorem dJ9_max_7cf53_0 : decode cJ9_max_7cf53 0 = .ok (.iload_n 0, 1) := by decide +kernel
theorem dJ9_max_7cf53_1 : decode cJ9_max_7cf53 1 = .ok (.iload_n 1, 1) := by decide +kernel
theorem dJ9_max_7cf53_2 : decode cJ9_max_7cf53 2 = .ok (.if_icmp .lt 7, 3) := by decide +kernel
theorem dJ9_max_7cf53_5 : decode cJ9_max_7cf53 5 = .ok (.iload_n 0, 1) := by decide +kernel
theorem dJ9_max_7cf53_6 : decode cJ9_max_7cf53 6 = .ok (.goto 4, 3) := by decide +kernel
theorem dJ9_max_7cf53_9 : decode cJ9_max_7cf53 9 = .ok (.iload_n 1, 1) := by decide +kernel
theorem dJ9_max_7cf53_10 : decode cJ9_max_7cf53 10 = .ok (.ireturn, 1) := by decide +kernel
theorem dJ9_min_7cf53_0 : decode cJ9_min_7cf53 0 = .ok (.iload_n 0, 1) := by decide +kernel
theorem dJ9_min_7cf53_1 : decode cJ9_min_7cf53 1 = .ok (.iload_n 1, 1) := by decide +kernel
theorem dJ9_min_7cf53_2 : decode cJ9_min_7cf53 2 = .ok (.if_icmp .gt 7, 3) := by decide +kernel
theorem dJ9_min_7cf53_5 : decode cJ9_min_7cf53 5 = .ok (.iload_n 0, 1) := by decide +kernel
theorem dJ9_min_7cf53_6 : decode cJ9_min_7cf53 6 = .ok (.goto 4, 3) := by decide +kernel
theorem dJ9_min_7cf53_9 : decode cJ9_min_7cf53 9 = .ok (.iload_n 1, 1) := by decide +kernel
theorem dJ9_min_7cf53_10 : decode cJ9_min_7cf53 10 = .ok (.ireturn, 1) := by decide +kernel
end
section
theorem dX5_init_0 : decode cX5_init 0 = .ok (.aload_n 0, 1) := by decide +kernel
theorem dX5_init_1 : decode cX5_init 1 = .ok (.invokespecial 3, 3) := by decide +kernel
theorem dX5_init_4 : decode cX5_init 4 = .ok (.aload_n 0, 1) := by decide +kernel
theorem dX5_init_5 : decode cX5_init 5 = .ok (.bipush 6, 2) := by decide +kernel
theorem dX5_init_7 : decode cX5_init 7 = .ok (.newarray .int, 2) := by decide +kernel
theorem dX5_init_9 : decode cX5_init 9 = .ok (.dup, 1) := by decide +kernel
theorem dX5_init_10 : decode cX5_init 10 = .ok (.iconst 0, 1) := by decide +kernel
theorem dX5_init_11 : decode cX5_init 11 = .ok (.bipush 20, 2) := by decide +kernel
theorem dX5_init_13 : decode cX5_init 13 = .ok (.iastore, 1) := by decide +kernel
theorem dX5_init_14 : decode cX5_init 14 = .ok (.dup, 1) := by decide +kernel
theorem dX5_init_15 : decode cX5_init 15 = .ok (.iconst 1, 1) := by decide +kernel
theorem dX5_init_16 : decode cX5_init 16 = .ok (.bipush 20, 2) := by decide +kernel
theorem dX5_init_18 : decode cX5_init 18 = .ok (.iastore, 1) := by decide +kernel
theorem dX5_init_19 : decode cX5_init 19 = .ok (.dup, 1) := by decide +kernel
theorem dX5_init_20 : decode cX5_init 20 = .ok (.iconst 2, 1) := by decide +kernel
theorem dX5_init_21 : decode cX5_init 21 = .ok (.sipush 400, 3) := by decide +kernel
theorem dX5_init_24 : decode cX5_init 24 = .ok (.iastore, 1) := by decide +kernel
theorem dX5_init_25 : decode cX5_init 25 = .ok (.dup, 1) := by decide +kernel
theorem dX5_init_26 : decode cX5_init 26 = .ok (.iconst 3, 1) := by decide +kernel
theorem dX5_init_27 : decode cX5_init 27 = .ok (.sipush 200, 3) := by decide +kernel
theorem dX5_init_30 : decode cX5_init 30 = .ok (.iastore, 1) := by decide +kernel
theorem dX5_init_31 : decode cX5_init 31 = .ok (.dup, 1) := by decide +kernel
theorem dX5_init_32 : decode cX5_init 32 = .ok (.iconst 4, 1) := by decide +kernel
theorem dX5_init_33 : decode cX5_init 33 = .ok (.bipush 100, 2) := by decide +kernel
theorem dX5_init_35 : decode cX5_init 35 = .ok (.iastore, 1) := by decide +kernel
theorem dX5_init_36 : decode cX5_init 36 = .ok (.dup, 1) := by decide +kernel
theorem dX5_init_37 : decode cX5_init 37 = .ok (.iconst 5, 1) := by decide +kernel
theorem dX5_init_38 : decode cX5_init 38 = .ok (.sipush 450, 3) := by decide +kernel
theorem dX5_init_41 : decode cX5_init 41 = .ok (.iastore, 1) := by decide +kernel
theorem dX5_init_42 : decode cX5_init 42 = .ok (.putfield 9, 3) := by decide +kernel
theorem dX5_init_45 : decode cX5_init 45 = .ok (.aload_n 0, 1) := by decide +kernel
theorem dX5_init_46 : decode cX5_init 46 = .ok (.iconst 5, 1) := by decide +kernel
theorem dX5_init_47 : decode cX5_init 47 = .ok (.newarray .int, 2) := by decide +kernel
theorem dX5_init_49 : decode cX5_init 49 = .ok (.putfield 15, 3) := by decide +kernel
theorem dX5_init_52 : decode cX5_init 52 = .ok (.aload_n 0, 1) := by decide +kernel
theorem dX5_init_53 : decode cX5_init 53 = .ok (.bipush 40, 2) := by decide +kernel
theorem dX5_init_55 : decode cX5_init 55 = .ok (.putfield 18, 3) := by decide +kernel
theorem dX5_init_58 : decode cX5_init 58 = .ok (.aload_n 0, 1) := by decide +kernel
theorem dX5_init_59 : decode cX5_init 59 = .ok (.sipush 400, 3) := by decide +kernel
theorem dX5_init_62 : decode cX5_init 62 = .ok (.putfield 22, 3) := by decide +kernel
theorem dX5_init_65 : decode cX5_init 65 = .ok (.aload_n 0, 1) := by decide +kernel
theorem dX5_init_66 : decode cX5_init 66 = .ok (.iconst 0, 1) := by decide +kernel
theorem dX5_init_67 : decode cX5_init 67 = .ok (.putfield 25, 3) := by decide +kernel
theorem dX5_init_70 : decode cX5_init 70 = .ok (.aload_n 0, 1) := by decide +kernel
theorem dX5_init_71 : decode cX5_init 71 = .ok (.iconst 5, 1) := by decide +kernel
theorem dX5_init_72 : decode cX5_init 72 = .ok (.newarray .int, 2) := by decide +kernel
theorem dX5_init_74 : decode cX5_init 74 = .ok (.putfield 28, 3) := by decide +kernel
theorem dX5_init_77 : decode cX5_init 77 = .ok (.aload_n 0, 1) := by decide +kernel
theorem dX5_init_78 : decode cX5_init 78 = .ok (.iconst 5, 1) := by decide +kernel
theorem dX5_init_79 : decode cX5_init 79 = .ok (.newarray .int, 2) := by decide +kernel
theorem dX5_init_81 : decode cX5_init 81 = .ok (.putfield 31, 3) := by decide +kernel
theorem dX5_init_84 : decode cX5_init 84 = .ok (.aload_n 0, 1) := by decide +kernel
theorem dX5_init_85 : decode cX5_init 85 = .ok (.sipush 1099, 3) := by decide +kernel
theorem dX5_init_88 : decode cX5_init 88 = .ok (.newarray .int, 2) := by decide +kernel
theorem dX5_init_90 : decode cX5_init 90 = .ok (.putfield 34, 3) := by decide +kernel
theorem dX5_init_93 : decode cX5_init 93 = .ok (.aload_n 0, 1) := by decide +kernel
theorem dX5_init_94 : decode cX5_init 94 = .ok (.iconst 0, 1) := by decide +kernel
theorem dX5_init_95 : decode cX5_init 95 = .ok (.putfield 37, 3) := by decide +kernel
theorem dX5_init_98 : decode cX5_init 98 = .ok (.aload_n 0, 1) := by decide +kernel
theorem dX5_init_99 : decode cX5_init 99 = .ok (.aload_n 1, 1) := by decide +kernel
theorem dX5_init_100 : decode cX5_init 100 = .ok (.putfield 40, 3) := by decide +kernel
theorem dX5_init_103 : decode cX5_init 103 = .ok (.return_, 1) := by decide +kernel
theorem dX5_points_0 : decode cX5_points 0 = .ok (.aload_n 0, 1) := by decide +kernel
theorem dX5_points_1 : decode cX5_points 1 = .ok (.getfield 25, 3) := by decide +kernel
theorem dX5_points_4 : decode cX5_points 4 = .ok (.ireturn, 1) := by decide +kernel
theorem dX5_ownParts_0 : decode cX5_ownParts 0 = .ok (.aload_n 0, 1) := by decide +kernel
theorem dX5_ownParts_1 : decode cX5_ownParts 1 = .ok (.getfield 9, 3) := by decide +kernel
theorem dX5_ownParts_4 : decode cX5_ownParts 4 = .ok (.iconst 5, 1) := by decide +kernel
theorem dX5_ownParts_5 : decode cX5_ownParts 5 = .ok (.aload_n 0, 1) := by decide +kernel
theorem dX5_ownParts_6 : decode cX5_ownParts 6 = .ok (.getfield 40, 3) := by decide +kernel
theorem dX5_ownParts_9 : decode cX5_ownParts 9 = .ok (.invokevirtual 44, 3) := by decide +kernel
theorem dX5_ownParts_12 : decode cX5_ownParts 12 = .ok (.iastore, 1) := by decide +kernel
theorem dX5_ownParts_13 : decode cX5_ownParts 13 = .ok (.aload_n 0, 1) := by decide +kernel
theorem dX5_ownParts_14 : decode cX5_ownParts 14 = .ok (.getfield 9, 3) := by decide +kernel
theorem dX5_ownParts_17 : decode cX5_ownParts 17 = .ok (.areturn, 1) := by decide +kernel
theorem dX5_changeGang_0 : decode cX5_changeGang 0 = .ok (.iload_n 1, 1) := by decide +kernel
theorem dX5_changeGang_1 : decode cX5_changeGang 1 = .ok (.bipush 10, 2) := by decide +kernel
theorem dX5_changeGang_3 : decode cX5_changeGang 3 = .ok (.sipush 999, 3) := by decide +kernel
theorem dX5_changeGang_6 : decode cX5_changeGang 6 = .ok (.invokestatic 50, 3) := by decide +kernel
theorem dX5_changeGang_9 : decode cX5_changeGang 9 = .ok (.ifCond .eq 15, 3) := by decide +kernel
theorem dX5_changeGang_12 : decode cX5_changeGang 12 = .ok (.iload_n 2, 1) := by decide +kernel
theorem dX5_changeGang_13 : decode cX5_changeGang 13 = .ok (.bipush 10, 2) := by decide +kernel
theorem dX5_changeGang_15 : decode cX5_changeGang 15 = .ok (.sipush 999, 3) := by decide +kernel
theorem dX5_changeGang_18 : decode cX5_changeGang 18 = .ok (.invokestatic 50, 3) := by decide +kernel
theorem dX5_changeGang_21 : decode cX5_changeGang 21 = .ok (.ifCond .ne 5, 3) := by decide +kernel
theorem dX5_changeGang_24 : decode cX5_changeGang 24 = .ok (.iconst (-1), 1) := by decide +kernel
theorem dX5_changeGang_25 : decode cX5_changeGang 25 = .ok (.ireturn, 1) := by decide +kernel
theorem dX5_changeGang_26 : decode cX5_changeGang 26 = .ok (.aload_n 0, 1) := by decide +kernel
theorem dX5_changeGang_27 : decode cX5_changeGang 27 = .ok (.iload_n 1, 1) := by decide +kernel
theorem dX5_changeGang_28 : decode cX5_changeGang 28 = .ok (.putfield 18, 3) := by decide +kernel
theorem dX5_changeGang_31 : decode cX5_changeGang 31 = .ok (.aload_n 0, 1) := by decide +kernel
theorem dX5_changeGang_32 : decode cX5_changeGang 32 = .ok (.iload_n 2, 1) := by decide +kernel
theorem dX5_changeGang_33 : decode cX5_changeGang 33 = .ok (.putfield 22, 3) := by decide +kernel
theorem dX5_changeGang_36 : decode cX5_changeGang 36 = .ok (.iconst 1, 1) := by decide +kernel
theorem dX5_changeGang_37 : decode cX5_changeGang 37 = .ok (.ireturn, 1) := by decide +kernel
theorem dX5_changePart_0 : decode cX5_changePart 0 = .ok (.iload_n 1, 1) := by decide +kernel
theorem dX5_changePart_1 : decode cX5_changePart 1 = .ok (.iconst 0, 1) := by decide +kernel
theorem dX5_changePart_2 : decode cX5_changePart 2 = .ok (.iconst 4, 1) := by decide +kernel
theorem dX5_changePart_3 : decode cX5_changePart 3 = .ok (.invokestatic 50, 3) := by decide +kernel
theorem dX5_changePart_6 : decode cX5_changePart 6 = .ok (.ifCond .eq 20, 3) := by decide +kernel
theorem dX5_changePart_9 : decode cX5_changePart 9 = .ok (.iload_n 2, 1) := by decide +kernel
theorem dX5_changePart_10 : decode cX5_changePart 10 = .ok (.getstatic 54, 3) := by decide +kernel
theorem dX5_changePart_13 : decode cX5_changePart 13 = .ok (.iload_n 1, 1) := by decide +kernel
theorem dX5_changePart_14 : decode cX5_changePart 14 = .ok (.iaload, 1) := by decide +kernel
theorem dX5_changePart_15 : decode cX5_changePart 15 = .ok (.getstatic 57, 3) := by decide +kernel
theorem dX5_changePart_18 : decode cX5_changePart 18 = .ok (.iload_n 1, 1) := by decide +kernel
theorem dX5_changePart_19 : decode cX5_changePart 19 = .ok (.iaload, 1) := by decide +kernel
theorem dX5_changePart_20 : decode cX5_changePart 20 = .ok (.invokestatic 50, 3) := by decide +kernel
theorem dX5_changePart_23 : decode cX5_changePart 23 = .ok (.ifCond .ne 5, 3) := by decide +kernel
theorem dX5_changePart_26 : decode cX5_changePart 26 = .ok (.iconst (-1), 1) := by decide +kernel
theorem dX5_changePart_27 : decode cX5_changePart 27 = .ok (.ireturn, 1) := by decide +kernel
theorem dX5_changePart_28 : decode cX5_changePart 28 = .ok (.aload_n 0, 1) := by decide +kernel
theorem dX5_changePart_29 : decode cX5_changePart 29 = .ok (.getfield 9, 3) := by decide +kernel
theorem dX5_changePart_32 : decode cX5_changePart 32 = .ok (.iload_n 1, 1) := by decide +kernel
theorem dX5_changePart_33 : decode cX5_changePart 33 = .ok (.iaload, 1) := by decide +kernel
theorem dX5_changePart_34 : decode cX5_changePart 34 = .ok (.istore_n 3, 1) := by decide +kernel
theorem dX5_changePart_35 : decode cX5_changePart 35 = .ok (.aload_n 0, 1) := by decide +kernel
theorem dX5_changePart_36 : decode cX5_changePart 36 = .ok (.getfield 9, 3) := by decide +kernel
theorem dX5_changePart_39 : decode cX5_changePart 39 = .ok (.iload_n 1, 1) := by decide +kernel
theorem dX5_changePart_40 : decode cX5_changePart 40 = .ok (.iload_n 2, 1) := by decide +kernel
theorem dX5_changePart_41 : decode cX5_changePart 41 = .ok (.iastore, 1) := by decide +kernel
theorem dX5_changePart_42 : decode cX5_changePart 42 = .ok (.iload_n 3, 1) := by decide +kernel
theorem dX5_changePart_43 : decode cX5_changePart 43 = .ok (.ireturn, 1) := by decide +kernel
theorem dX5_tunedAt_0 : decode cX5_tunedAt 0 = .ok (.iload_n 2, 1) := by decide +kernel
theorem dX5_tunedAt_1 : decode cX5_tunedAt 1 = .ok (.tableswitch 70 0 2 #[27, 33, 64], 27) := by decide +kernel
theorem dX5_tunedAt_28 : decode cX5_tunedAt 28 = .ok (.aload_n 0, 1) := by decide +kernel
theorem dX5_tunedAt_29 : decode cX5_tunedAt 29 = .ok (.iload_n 1, 1) := by decide +kernel
theorem dX5_tunedAt_30 : decode cX5_tunedAt 30 = .ok (.invokevirtual 60, 3) := by decide +kernel
theorem dX5_tunedAt_33 : decode cX5_tunedAt 33 = .ok (.ireturn, 1) := by decide +kernel
theorem dX5_tunedAt_34 : decode cX5_tunedAt 34 = .ok (.aload_n 0, 1) := by decide +kernel
theorem dX5_tunedAt_35 : decode cX5_tunedAt 35 = .ok (.getfield 9, 3) := by decide +kernel
theorem dX5_tunedAt_38 : decode cX5_tunedAt 38 = .ok (.iconst 4, 1) := by decide +kernel
theorem dX5_tunedAt_39 : decode cX5_tunedAt 39 = .ok (.iaload, 1) := by decide +kernel
theorem dX5_tunedAt_40 : decode cX5_tunedAt 40 = .ok (.aload_n 0, 1) := by decide +kernel
theorem dX5_tunedAt_41 : decode cX5_tunedAt 41 = .ok (.getfield 9, 3) := by decide +kernel
theorem dX5_tunedAt_44 : decode cX5_tunedAt 44 = .ok (.iconst 2, 1) := by decide +kernel
theorem dX5_tunedAt_45 : decode cX5_tunedAt 45 = .ok (.iaload, 1) := by decide +kernel
theorem dX5_tunedAt_46 : decode cX5_tunedAt 46 = .ok (.aload_n 0, 1) := by decide +kernel
theorem dX5_tunedAt_47 : decode cX5_tunedAt 47 = .ok (.iload_n 1, 1) := by decide +kernel
theorem dX5_tunedAt_48 : decode cX5_tunedAt 48 = .ok (.invokevirtual 64, 3) := by decide +kernel
theorem dX5_tunedAt_51 : decode cX5_tunedAt 51 = .ok (.aload_n 0, 1) := by decide +kernel
theorem dX5_tunedAt_52 : decode cX5_tunedAt 52 = .ok (.getfield 9, 3) := by decide +kernel
theorem dX5_tunedAt_55 : decode cX5_tunedAt 55 = .ok (.iconst 1, 1) := by decide +kernel
theorem dX5_tunedAt_56 : decode cX5_tunedAt 56 = .ok (.iaload, 1) := by decide +kernel
theorem dX5_tunedAt_57 : decode cX5_tunedAt 57 = .ok (.iadd, 1) := by decide +kernel
theorem dX5_tunedAt_58 : decode cX5_tunedAt 58 = .ok (.invokestatic 67, 3) := by decide +kernel
theorem dX5_tunedAt_61 : decode cX5_tunedAt 61 = .ok (.invokestatic 71, 3) := by decide +kernel
theorem dX5_tunedAt_64 : decode cX5_tunedAt 64 = .ok (.ireturn, 1) := by decide +kernel
theorem dX5_tunedAt_65 : decode cX5_tunedAt 65 = .ok (.aload_n 0, 1) := by decide +kernel
theorem dX5_tunedAt_66 : decode cX5_tunedAt 66 = .ok (.iload_n 1, 1) := by decide +kernel
theorem dX5_tunedAt_67 : decode cX5_tunedAt 67 = .ok (.invokevirtual 64, 3) := by decide +kernel
theorem dX5_tunedAt_70 : decode cX5_tunedAt 70 = .ok (.ireturn, 1) := by decide +kernel
theorem dX5_tunedAt_71 : decode cX5_tunedAt 71 = .ok (.iconst (-1), 1) := by decide +kernel
theorem dX5_tunedAt_72 : decode cX5_tunedAt 72 = .ok (.ireturn, 1) := by decide +kernel
theorem dX5_errorAt_0 : decode cX5_errorAt 0 = .ok (.aload_n 0, 1) := by decide +kernel
theorem dX5_errorAt_1 : decode cX5_errorAt 1 = .ok (.iload_n 2, 1) := by decide +kernel
theorem dX5_errorAt_2 : decode cX5_errorAt 2 = .ok (.invokevirtual 64, 3) := by decide +kernel
theorem dX5_errorAt_5 : decode cX5_errorAt 5 = .ok (.istore_n 3, 1) := by decide +kernel
theorem dX5_errorAt_6 : decode cX5_errorAt 6 = .ok (.aload_n 1, 1) := by decide +kernel
theorem dX5_errorAt_7 : decode cX5_errorAt 7 = .ok (.iconst 3, 1) := by decide +kernel
theorem dX5_errorAt_8 : decode cX5_errorAt 8 = .ok (.iaload, 1) := by decide +kernel
theorem dX5_errorAt_9 : decode cX5_errorAt 9 = .ok (.iload_n 3, 1) := by decide +kernel
theorem dX5_errorAt_10 : decode cX5_errorAt 10 = .ok (.aload_n 1, 1) := by decide +kernel
theorem dX5_errorAt_11 : decode cX5_errorAt 11 = .ok (.iconst 0, 1) := by decide +kernel
theorem dX5_errorAt_12 : decode cX5_errorAt 12 = .ok (.iaload, 1) := by decide +kernel
theorem dX5_errorAt_13 : decode cX5_errorAt 13 = .ok (.iadd, 1) := by decide +kernel
theorem dX5_errorAt_14 : decode cX5_errorAt 14 = .ok (.invokestatic 71, 3) := by decide +kernel
theorem dX5_errorAt_17 : decode cX5_errorAt 17 = .ok (.istore 4, 2) := by decide +kernel
theorem dX5_errorAt_19 : decode cX5_errorAt 19 = .ok (.aload_n 1, 1) := by decide +kernel
theorem dX5_errorAt_20 : decode cX5_errorAt 20 = .ok (.iconst 4, 1) := by decide +kernel
theorem dX5_errorAt_21 : decode cX5_errorAt 21 = .ok (.iaload, 1) := by decide +kernel
theorem dX5_errorAt_22 : decode cX5_errorAt 22 = .ok (.aload_n 1, 1) := by decide +kernel
theorem dX5_errorAt_23 : decode cX5_errorAt 23 = .ok (.iconst 2, 1) := by decide +kernel
theorem dX5_errorAt_24 : decode cX5_errorAt 24 = .ok (.iaload, 1) := by decide +kernel
theorem dX5_errorAt_25 : decode cX5_errorAt 25 = .ok (.iload_n 3, 1) := by decide +kernel
theorem dX5_errorAt_26 : decode cX5_errorAt 26 = .ok (.aload_n 1, 1) := by decide +kernel
theorem dX5_errorAt_27 : decode cX5_errorAt 27 = .ok (.iconst 1, 1) := by decide +kernel
theorem dX5_errorAt_28 : decode cX5_errorAt 28 = .ok (.iaload, 1) := by decide +kernel
theorem dX5_errorAt_29 : decode cX5_errorAt 29 = .ok (.iadd, 1) := by decide +kernel
theorem dX5_errorAt_30 : decode cX5_errorAt 30 = .ok (.invokestatic 67, 3) := by decide +kernel
theorem dX5_errorAt_33 : decode cX5_errorAt 33 = .ok (.invokestatic 71, 3) := by decide +kernel
theorem dX5_errorAt_36 : decode cX5_errorAt 36 = .ok (.istore 5, 2) := by decide +kernel
theorem dX5_errorAt_38 : decode cX5_errorAt 38 = .ok (.aload_n 0, 1) := by decide +kernel
theorem dX5_errorAt_39 : decode cX5_errorAt 39 = .ok (.getfield 40, 3) := by decide +kernel
theorem dX5_errorAt_42 : decode cX5_errorAt 42 = .ok (.invokevirtual 74, 3) := by decide +kernel
theorem dX5_errorAt_45 : decode cX5_errorAt 45 = .ok (.ifCond .eq 11, 3) := by decide +kernel
theorem dX5_errorAt_48 : decode cX5_errorAt 48 = .ok (.iload 5, 2) := by decide +kernel
theorem dX5_errorAt_50 : decode cX5_errorAt 50 = .ok (.iload 4, 2) := by decide +kernel
theorem dX5_errorAt_52 : decode cX5_errorAt 52 = .ok (.isub, 1) := by decide +kernel
theorem dX5_errorAt_53 : decode cX5_errorAt 53 = .ok (.goto 8, 3) := by decide +kernel
theorem dX5_errorAt_56 : decode cX5_errorAt 56 = .ok (.iload 4, 2) := by decide +kernel
theorem dX5_errorAt_58 : decode cX5_errorAt 58 = .ok (.iload 5, 2) := by decide +kernel
theorem dX5_errorAt_60 : decode cX5_errorAt 60 = .ok (.isub, 1) := by decide +kernel
theorem dX5_errorAt_61 : decode cX5_errorAt 61 = .ok (.istore 6, 2) := by decide +kernel
theorem dX5_errorAt_63 : decode cX5_errorAt 63 = .ok (.iload 6, 2) := by decide +kernel
theorem dX5_errorAt_65 : decode cX5_errorAt 65 = .ok (.aload_n 1, 1) := by decide +kernel
theorem dX5_errorAt_66 : decode cX5_errorAt 66 = .ok (.iconst 5, 1) := by decide +kernel
theorem dX5_errorAt_67 : decode cX5_errorAt 67 = .ok (.iaload, 1) := by decide +kernel
theorem dX5_errorAt_68 : decode cX5_errorAt 68 = .ok (.isub, 1) := by decide +kernel
theorem dX5_errorAt_69 : decode cX5_errorAt 69 = .ok (.ireturn, 1) := by decide +kernel
theorem dX5_errorWith_0 : decode cX5_errorWith 0 = .ok (.bipush 10, 2) := by decide +kernel
theorem dX5_errorWith_2 : decode cX5_errorWith 2 = .ok (.aload_n 1, 1) := by decide +kernel
theorem dX5_errorWith_3 : decode cX5_errorWith 3 = .ok (.iconst 5, 1) := by decide +kernel
theorem dX5_errorWith_4 : decode cX5_errorWith 4 = .ok (.iaload, 1) := by decide +kernel
theorem dX5_errorWith_5 : decode cX5_errorWith 5 = .ok (.iload_n 2, 1) := by decide +kernel
theorem dX5_errorWith_6 : decode cX5_errorWith 6 = .ok (.isub, 1) := by decide +kernel
theorem dX5_errorWith_7 : decode cX5_errorWith 7 = .ok (.invokestatic 78, 3) := by decide +kernel
theorem dX5_errorWith_10 : decode cX5_errorWith 10 = .ok (.imul, 1) := by decide +kernel
theorem dX5_errorWith_11 : decode cX5_errorWith 11 = .ok (.istore_n 3, 1) := by decide +kernel
theorem dX5_errorWith_12 : decode cX5_errorWith 12 = .ok (.iconst 0, 1) := by decide +kernel
theorem dX5_errorWith_13 : decode cX5_errorWith 13 = .ok (.istore 4, 2) := by decide +kernel
theorem dX5_errorWith_15 : decode cX5_errorWith 15 = .ok (.iload 4, 2) := by decide +kernel
theorem dX5_errorWith_17 : decode cX5_errorWith 17 = .ok (.aload_n 0, 1) := by decide +kernel
theorem dX5_errorWith_18 : decode cX5_errorWith 18 = .ok (.getfield 25, 3) := by decide +kernel
theorem dX5_errorWith_21 : decode cX5_errorWith 21 = .ok (.if_icmp .ge 27, 3) := by decide +kernel
theorem dX5_errorWith_24 : decode cX5_errorWith 24 = .ok (.iload_n 3, 1) := by decide +kernel
theorem dX5_errorWith_25 : decode cX5_errorWith 25 = .ok (.aload_n 0, 1) := by decide +kernel
theorem dX5_errorWith_26 : decode cX5_errorWith 26 = .ok (.aload_n 1, 1) := by decide +kernel
theorem dX5_errorWith_27 : decode cX5_errorWith 27 = .ok (.aload_n 0, 1) := by decide +kernel
theorem dX5_errorWith_28 : decode cX5_errorWith 28 = .ok (.getfield 15, 3) := by decide +kernel
theorem dX5_errorWith_31 : decode cX5_errorWith 31 = .ok (.iload 4, 2) := by decide +kernel
theorem dX5_errorWith_33 : decode cX5_errorWith 33 = .ok (.iaload, 1) := by decide +kernel
theorem dX5_errorWith_34 : decode cX5_errorWith 34 = .ok (.invokevirtual 83, 3) := by decide +kernel
theorem dX5_errorWith_37 : decode cX5_errorWith 37 = .ok (.invokestatic 78, 3) := by decide +kernel
theorem dX5_errorWith_40 : decode cX5_errorWith 40 = .ok (.iadd, 1) := by decide +kernel
theorem dX5_errorWith_41 : decode cX5_errorWith 41 = .ok (.istore_n 3, 1) := by decide +kernel
theorem dX5_errorWith_42 : decode cX5_errorWith 42 = .ok (.iinc 4 1, 3) := by decide +kernel
theorem dX5_errorWith_45 : decode cX5_errorWith 45 = .ok (.goto (-30), 3) := by decide +kernel
theorem dX5_errorWith_48 : decode cX5_errorWith 48 = .ok (.iload_n 3, 1) := by decide +kernel
theorem dX5_errorWith_49 : decode cX5_errorWith 49 = .ok (.ireturn, 1) := by decide +kernel
theorem dX5_changePoint_0 : decode cX5_changePoint 0 = .ok (.iload_n 1, 1) := by decide +kernel
theorem dX5_changePoint_1 : decode cX5_changePoint 1 = .ok (.invokestatic 87, 3) := by decide +kernel
theorem dX5_changePoint_4 : decode cX5_changePoint 4 = .ok (.ifCond .eq 12, 3) := by decide +kernel
theorem dX5_changePoint_7 : decode cX5_changePoint 7 = .ok (.iload_n 2, 1) := by decide +kernel
theorem dX5_changePoint_8 : decode cX5_changePoint 8 = .ok (.iconst 0, 1) := by decide +kernel
theorem dX5_changePoint_9 : decode cX5_changePoint 9 = .ok (.iconst 1, 1) := by decide +kernel
theorem dX5_changePoint_10 : decode cX5_changePoint 10 = .ok (.invokestatic 50, 3) := by decide +kernel
theorem dX5_changePoint_13 : decode cX5_changePoint 13 = .ok (.ifCond .ne 5, 3) := by decide +kernel
theorem dX5_changePoint_16 : decode cX5_changePoint 16 = .ok (.iconst (-1), 1) := by decide +kernel
theorem dX5_changePoint_17 : decode cX5_changePoint 17 = .ok (.ireturn, 1) := by decide +kernel
theorem dX5_changePoint_18 : decode cX5_changePoint 18 = .ok (.aload_n 0, 1) := by decide +kernel
theorem dX5_changePoint_19 : decode cX5_changePoint 19 = .ok (.iload_n 1, 1) := by decide +kernel
theorem dX5_changePoint_20 : decode cX5_changePoint 20 = .ok (.invokevirtual 91, 3) := by decide +kernel
theorem dX5_changePoint_23 : decode cX5_changePoint 23 = .ok (.istore_n 3, 1) := by decide +kernel
theorem dX5_changePoint_24 : decode cX5_changePoint 24 = .ok (.iload_n 3, 1) := by decide +kernel
theorem dX5_changePoint_25 : decode cX5_changePoint 25 = .ok (.iconst (-1), 1) := by decide +kernel
theorem dX5_changePoint_26 : decode cX5_changePoint 26 = .ok (.if_icmp .ne 7, 3) := by decide +kernel
theorem dX5_changePoint_29 : decode cX5_changePoint 29 = .ok (.iconst 0, 1) := by decide +kernel
theorem dX5_changePoint_30 : decode cX5_changePoint 30 = .ok (.goto 4, 3) := by decide +kernel
theorem dX5_changePoint_33 : decode cX5_changePoint 33 = .ok (.iconst 1, 1) := by decide +kernel
theorem dX5_changePoint_34 : decode cX5_changePoint 34 = .ok (.istore 4, 2) := by decide +kernel
theorem dX5_changePoint_36 : decode cX5_changePoint 36 = .ok (.iload_n 2, 1) := by decide +kernel
theorem dX5_changePoint_37 : decode cX5_changePoint 37 = .ok (.iload 4, 2) := by decide +kernel
theorem dX5_changePoint_39 : decode cX5_changePoint 39 = .ok (.if_icmp .ne 6, 3) := by decide +kernel
theorem dX5_changePoint_42 : decode cX5_changePoint 42 = .ok (.iload 4, 2) := by decide +kernel
theorem dX5_changePoint_44 : decode cX5_changePoint 44 = .ok (.ireturn, 1) := by decide +kernel
theorem dX5_changePoint_45 : decode cX5_changePoint 45 = .ok (.iload_n 2, 1) := by decide +kernel
theorem dX5_changePoint_46 : decode cX5_changePoint 46 = .ok (.iconst 1, 1) := by decide +kernel
theorem dX5_changePoint_47 : decode cX5_changePoint 47 = .ok (.if_icmp .ne 37, 3) := by decide +kernel
theorem dX5_changePoint_50 : decode cX5_changePoint 50 = .ok (.aload_n 0, 1) := by decide +kernel
theorem dX5_changePoint_51 : decode cX5_changePoint 51 = .ok (.getfield 25, 3) := by decide +kernel
theorem dX5_changePoint_54 : decode cX5_changePoint 54 = .ok (.iconst 5, 1) := by decide +kernel
theorem dX5_changePoint_55 : decode cX5_changePoint 55 = .ok (.if_icmp .lt 6, 3) := by decide +kernel
theorem dX5_changePoint_58 : decode cX5_changePoint 58 = .ok (.bipush (-2), 2) := by decide +kernel
theorem dX5_changePoint_60 : decode cX5_changePoint 60 = .ok (.ireturn, 1) := by decide +kernel
theorem dX5_changePoint_61 : decode cX5_changePoint 61 = .ok (.aload_n 0, 1) := by decide +kernel
theorem dX5_changePoint_62 : decode cX5_changePoint 62 = .ok (.getfield 15, 3) := by decide +kernel
theorem dX5_changePoint_65 : decode cX5_changePoint 65 = .ok (.aload_n 0, 1) := by decide +kernel
theorem dX5_changePoint_66 : decode cX5_changePoint 66 = .ok (.getfield 25, 3) := by decide +kernel
theorem dX5_changePoint_69 : decode cX5_changePoint 69 = .ok (.iload_n 1, 1) := by decide +kernel
theorem dX5_changePoint_70 : decode cX5_changePoint 70 = .ok (.iastore, 1) := by decide +kernel
theorem dX5_changePoint_71 : decode cX5_changePoint 71 = .ok (.aload_n 0, 1) := by decide +kernel
theorem dX5_changePoint_72 : decode cX5_changePoint 72 = .ok (.dup, 1) := by decide +kernel
theorem dX5_changePoint_73 : decode cX5_changePoint 73 = .ok (.getfield 25, 3) := by decide +kernel
theorem dX5_changePoint_76 : decode cX5_changePoint 76 = .ok (.iconst 1, 1) := by decide +kernel
theorem dX5_changePoint_77 : decode cX5_changePoint 77 = .ok (.iadd, 1) := by decide +kernel
theorem dX5_changePoint_78 : decode cX5_changePoint 78 = .ok (.putfield 25, 3) := by decide +kernel
theorem dX5_changePoint_81 : decode cX5_changePoint 81 = .ok (.goto 28, 3) := by decide +kernel
theorem dX5_changePoint_84 : decode cX5_changePoint 84 = .ok (.aload_n 0, 1) := by decide +kernel
theorem dX5_changePoint_85 : decode cX5_changePoint 85 = .ok (.dup, 1) := by decide +kernel
theorem dX5_changePoint_86 : decode cX5_changePoint 86 = .ok (.getfield 25, 3) := by decide +kernel
theorem dX5_changePoint_89 : decode cX5_changePoint 89 = .ok (.iconst 1, 1) := by decide +kernel
theorem dX5_changePoint_90 : decode cX5_changePoint 90 = .ok (.isub, 1) := by decide +kernel
theorem dX5_changePoint_91 : decode cX5_changePoint 91 = .ok (.putfield 25, 3) := by decide +kernel
theorem dX5_changePoint_94 : decode cX5_changePoint 94 = .ok (.aload_n 0, 1) := by decide +kernel
theorem dX5_changePoint_95 : decode cX5_changePoint 95 = .ok (.getfield 15, 3) := by decide +kernel
theorem dX5_changePoint_98 : decode cX5_changePoint 98 = .ok (.iload_n 3, 1) := by decide +kernel
theorem dX5_changePoint_99 : decode cX5_changePoint 99 = .ok (.aload_n 0, 1) := by decide +kernel
theorem dX5_changePoint_100 : decode cX5_changePoint 100 = .ok (.getfield 15, 3) := by decide +kernel
theorem dX5_changePoint_103 : decode cX5_changePoint 103 = .ok (.aload_n 0, 1) := by decide +kernel
theorem dX5_changePoint_104 : decode cX5_changePoint 104 = .ok (.getfield 25, 3) := by decide +kernel
theorem dX5_changePoint_107 : decode cX5_changePoint 107 = .ok (.iaload, 1) := by decide +kernel
theorem dX5_changePoint_108 : decode cX5_changePoint 108 = .ok (.iastore, 1) := by decide +kernel
theorem dX5_changePoint_109 : decode cX5_changePoint 109 = .ok (.iload 4, 2) := by decide +kernel
theorem dX5_changePoint_111 : decode cX5_changePoint 111 = .ok (.ireturn, 1) := by decide +kernel
theorem dX5_bestTrim_0 : decode cX5_bestTrim 0 = .ok (.getstatic 57, 3) := by decide +kernel
theorem dX5_bestTrim_3 : decode cX5_bestTrim 3 = .ok (.iconst 2, 1) := by decide +kernel
theorem dX5_bestTrim_4 : decode cX5_bestTrim 4 = .ok (.iaload, 1) := by decide +kernel
theorem dX5_bestTrim_5 : decode cX5_bestTrim 5 = .ok (.istore_n 3, 1) := by decide +kernel
theorem dX5_bestTrim_6 : decode cX5_bestTrim 6 = .ok (.iload_n 1, 1) := by decide +kernel
theorem dX5_bestTrim_7 : decode cX5_bestTrim 7 = .ok (.getstatic 54, 3) := by decide +kernel
theorem dX5_bestTrim_10 : decode cX5_bestTrim 10 = .ok (.iconst 2, 1) := by decide +kernel
theorem dX5_bestTrim_11 : decode cX5_bestTrim 11 = .ok (.iaload, 1) := by decide +kernel
theorem dX5_bestTrim_12 : decode cX5_bestTrim 12 = .ok (.iload_n 3, 1) := by decide +kernel
theorem dX5_bestTrim_13 : decode cX5_bestTrim 13 = .ok (.invokestatic 50, 3) := by decide +kernel
theorem dX5_bestTrim_16 : decode cX5_bestTrim 16 = .ok (.ifCond .eq 21, 3) := by decide +kernel
theorem dX5_bestTrim_19 : decode cX5_bestTrim 19 = .ok (.iload_n 2, 1) := by decide +kernel
theorem dX5_bestTrim_20 : decode cX5_bestTrim 20 = .ok (.iload_n 1, 1) := by decide +kernel
theorem dX5_bestTrim_21 : decode cX5_bestTrim 21 = .ok (.iload_n 3, 1) := by decide +kernel
theorem dX5_bestTrim_22 : decode cX5_bestTrim 22 = .ok (.invokestatic 50, 3) := by decide +kernel
theorem dX5_bestTrim_25 : decode cX5_bestTrim 25 = .ok (.ifCond .eq 12, 3) := by decide +kernel
theorem dX5_bestTrim_28 : decode cX5_bestTrim 28 = .ok (.iload_n 2, 1) := by decide +kernel
theorem dX5_bestTrim_29 : decode cX5_bestTrim 29 = .ok (.iload_n 1, 1) := by decide +kernel
theorem dX5_bestTrim_30 : decode cX5_bestTrim 30 = .ok (.isub, 1) := by decide +kernel
theorem dX5_bestTrim_31 : decode cX5_bestTrim 31 = .ok (.sipush 300, 3) := by decide +kernel
theorem dX5_bestTrim_34 : decode cX5_bestTrim 34 = .ok (.if_icmp .le 5, 3) := by decide +kernel
theorem dX5_bestTrim_37 : decode cX5_bestTrim 37 = .ok (.iconst (-1), 1) := by decide +kernel
theorem dX5_bestTrim_38 : decode cX5_bestTrim 38 = .ok (.ireturn, 1) := by decide +kernel
theorem dX5_bestTrim_39 : decode cX5_bestTrim 39 = .ok (.aload_n 0, 1) := by decide +kernel
theorem dX5_bestTrim_40 : decode cX5_bestTrim 40 = .ok (.getfield 25, 3) := by decide +kernel
theorem dX5_bestTrim_43 : decode cX5_bestTrim 43 = .ok (.ifCond .ne 6, 3) := by decide +kernel
theorem dX5_bestTrim_46 : decode cX5_bestTrim 46 = .ok (.bipush (-3), 2) := by decide +kernel
theorem dX5_bestTrim_48 : decode cX5_bestTrim 48 = .ok (.ireturn, 1) := by decide +kernel
theorem dX5_bestTrim_49 : decode cX5_bestTrim 49 = .ok (.aload_n 0, 1) := by decide +kernel
theorem dX5_bestTrim_50 : decode cX5_bestTrim 50 = .ok (.invokevirtual 94, 3) := by decide +kernel
theorem dX5_bestTrim_53 : decode cX5_bestTrim 53 = .ok (.ldc2_w 99, 3) := by decide +kernel
theorem dX5_bestTrim_56 : decode cX5_bestTrim 56 = .ok (.lstore 4, 2) := by decide +kernel
theorem dX5_bestTrim_58 : decode cX5_bestTrim 58 = .ok (.iconst (-1), 1) := by decide +kernel
theorem dX5_bestTrim_59 : decode cX5_bestTrim 59 = .ok (.istore 6, 2) := by decide +kernel
theorem dX5_bestTrim_61 : decode cX5_bestTrim 61 = .ok (.iload_n 1, 1) := by decide +kernel
theorem dX5_bestTrim_62 : decode cX5_bestTrim 62 = .ok (.istore 7, 2) := by decide +kernel
theorem dX5_bestTrim_64 : decode cX5_bestTrim 64 = .ok (.iload 7, 2) := by decide +kernel
theorem dX5_bestTrim_66 : decode cX5_bestTrim 66 = .ok (.iload_n 2, 1) := by decide +kernel
theorem dX5_bestTrim_67 : decode cX5_bestTrim 67 = .ok (.if_icmp .gt 64, 3) := by decide +kernel
theorem dX5_bestTrim_70 : decode cX5_bestTrim 70 = .ok (.getstatic 54, 3) := by decide +kernel
theorem dX5_bestTrim_73 : decode cX5_bestTrim 73 = .ok (.iconst 1, 1) := by decide +kernel
theorem dX5_bestTrim_74 : decode cX5_bestTrim 74 = .ok (.iaload, 1) := by decide +kernel
theorem dX5_bestTrim_75 : decode cX5_bestTrim 75 = .ok (.istore 8, 2) := by decide +kernel
theorem dX5_bestTrim_77 : decode cX5_bestTrim 77 = .ok (.iload 8, 2) := by decide +kernel
theorem dX5_bestTrim_79 : decode cX5_bestTrim 79 = .ok (.getstatic 57, 3) := by decide +kernel
theorem dX5_bestTrim_82 : decode cX5_bestTrim 82 = .ok (.iconst 1, 1) := by decide +kernel
theorem dX5_bestTrim_83 : decode cX5_bestTrim 83 = .ok (.iaload, 1) := by decide +kernel
theorem dX5_bestTrim_84 : decode cX5_bestTrim 84 = .ok (.if_icmp .gt 41, 3) := by decide +kernel
theorem dX5_bestTrim_87 : decode cX5_bestTrim 87 = .ok (.aload_n 0, 1) := by decide +kernel
theorem dX5_bestTrim_88 : decode cX5_bestTrim 88 = .ok (.iload 7, 2) := by decide +kernel
theorem dX5_bestTrim_90 : decode cX5_bestTrim 90 = .ok (.iload 8, 2) := by decide +kernel
theorem dX5_bestTrim_92 : decode cX5_bestTrim 92 = .ok (.invokevirtual 101, 3) := by decide +kernel
theorem dX5_bestTrim_95 : decode cX5_bestTrim 95 = .ok (.lstore 9, 2) := by decide +kernel
theorem dX5_bestTrim_97 : decode cX5_bestTrim 97 = .ok (.lload 9, 2) := by decide +kernel
theorem dX5_bestTrim_99 : decode cX5_bestTrim 99 = .ok (.lload 4, 2) := by decide +kernel
theorem dX5_bestTrim_101 : decode cX5_bestTrim 101 = .ok (.lcmp, 1) := by decide +kernel
theorem dX5_bestTrim_102 : decode cX5_bestTrim 102 = .ok (.ifCond .ge 17, 3) := by decide +kernel
theorem dX5_bestTrim_105 : decode cX5_bestTrim 105 = .ok (.lload 9, 2) := by decide +kernel
theorem dX5_bestTrim_107 : decode cX5_bestTrim 107 = .ok (.lstore 4, 2) := by decide +kernel
theorem dX5_bestTrim_109 : decode cX5_bestTrim 109 = .ok (.bipush 100, 2) := by decide +kernel
theorem dX5_bestTrim_111 : decode cX5_bestTrim 111 = .ok (.iload 7, 2) := by decide +kernel
theorem dX5_bestTrim_113 : decode cX5_bestTrim 113 = .ok (.imul, 1) := by decide +kernel
theorem dX5_bestTrim_114 : decode cX5_bestTrim 114 = .ok (.iload 8, 2) := by decide +kernel
theorem dX5_bestTrim_116 : decode cX5_bestTrim 116 = .ok (.iadd, 1) := by decide +kernel
theorem dX5_bestTrim_117 : decode cX5_bestTrim 117 = .ok (.istore 6, 2) := by decide +kernel
theorem dX5_bestTrim_119 : decode cX5_bestTrim 119 = .ok (.iinc 8 1, 3) := by decide +kernel
theorem dX5_bestTrim_122 : decode cX5_bestTrim 122 = .ok (.goto (-45), 3) := by decide +kernel
theorem dX5_bestTrim_125 : decode cX5_bestTrim 125 = .ok (.iinc 7 1, 3) := by decide +kernel
theorem dX5_bestTrim_128 : decode cX5_bestTrim 128 = .ok (.goto (-64), 3) := by decide +kernel
theorem dX5_bestTrim_131 : decode cX5_bestTrim 131 = .ok (.iload 6, 2) := by decide +kernel
theorem dX5_bestTrim_133 : decode cX5_bestTrim 133 = .ok (.ireturn, 1) := by decide +kernel
theorem dX5_markOf_0 : decode cX5_markOf 0 = .ok (.iconst 0, 1) := by decide +kernel
theorem dX5_markOf_1 : decode cX5_markOf 1 = .ok (.istore_n 2, 1) := by decide +kernel
theorem dX5_markOf_2 : decode cX5_markOf 2 = .ok (.ldc 107, 2) := by decide +kernel
theorem dX5_markOf_4 : decode cX5_markOf 4 = .ok (.istore_n 3, 1) := by decide +kernel
theorem dX5_markOf_5 : decode cX5_markOf 5 = .ok (.iconst 0, 1) := by decide +kernel
theorem dX5_markOf_6 : decode cX5_markOf 6 = .ok (.istore 4, 2) := by decide +kernel
theorem dX5_markOf_8 : decode cX5_markOf 8 = .ok (.iload 4, 2) := by decide +kernel
theorem dX5_markOf_10 : decode cX5_markOf 10 = .ok (.bipush 100, 2) := by decide +kernel
theorem dX5_markOf_12 : decode cX5_markOf 12 = .ok (.if_icmp .gt 34, 3) := by decide +kernel
theorem dX5_markOf_15 : decode cX5_markOf 15 = .ok (.aload_n 0, 1) := by decide +kernel
theorem dX5_markOf_16 : decode cX5_markOf 16 = .ok (.iload 4, 2) := by decide +kernel
theorem dX5_markOf_18 : decode cX5_markOf 18 = .ok (.invokevirtual 60, 3) := by decide +kernel
theorem dX5_markOf_21 : decode cX5_markOf 21 = .ok (.iload_n 1, 1) := by decide +kernel
theorem dX5_markOf_22 : decode cX5_markOf 22 = .ok (.isub, 1) := by decide +kernel
theorem dX5_markOf_23 : decode cX5_markOf 23 = .ok (.invokestatic 78, 3) := by decide +kernel
theorem dX5_markOf_26 : decode cX5_markOf 26 = .ok (.istore 5, 2) := by decide +kernel
theorem dX5_markOf_28 : decode cX5_markOf 28 = .ok (.iload 5, 2) := by decide +kernel
theorem dX5_markOf_30 : decode cX5_markOf 30 = .ok (.iload_n 3, 1) := by decide +kernel
theorem dX5_markOf_31 : decode cX5_markOf 31 = .ok (.if_icmp .ge 9, 3) := by decide +kernel
theorem dX5_markOf_34 : decode cX5_markOf 34 = .ok (.iload 5, 2) := by decide +kernel
theorem dX5_markOf_36 : decode cX5_markOf 36 = .ok (.istore_n 3, 1) := by decide +kernel
theorem dX5_markOf_37 : decode cX5_markOf 37 = .ok (.iload 4, 2) := by decide +kernel
theorem dX5_markOf_39 : decode cX5_markOf 39 = .ok (.istore_n 2, 1) := by decide +kernel
theorem dX5_markOf_40 : decode cX5_markOf 40 = .ok (.iinc 4 1, 3) := by decide +kernel
theorem dX5_markOf_43 : decode cX5_markOf 43 = .ok (.goto (-35), 3) := by decide +kernel
theorem dX5_markOf_46 : decode cX5_markOf 46 = .ok (.iload_n 2, 1) := by decide +kernel
theorem dX5_markOf_47 : decode cX5_markOf 47 = .ok (.ireturn, 1) := by decide +kernel
theorem dX5_indexOfPoint_0 : decode cX5_indexOfPoint 0 = .ok (.iconst 0, 1) := by decide +kernel
theorem dX5_indexOfPoint_1 : decode cX5_indexOfPoint 1 = .ok (.istore_n 2, 1) := by decide +kernel
theorem dX5_indexOfPoint_2 : decode cX5_indexOfPoint 2 = .ok (.iload_n 2, 1) := by decide +kernel
theorem dX5_indexOfPoint_3 : decode cX5_indexOfPoint 3 = .ok (.aload_n 0, 1) := by decide +kernel
theorem dX5_indexOfPoint_4 : decode cX5_indexOfPoint 4 = .ok (.getfield 25, 3) := by decide +kernel
theorem dX5_indexOfPoint_7 : decode cX5_indexOfPoint 7 = .ok (.if_icmp .ge 21, 3) := by decide +kernel
theorem dX5_indexOfPoint_10 : decode cX5_indexOfPoint 10 = .ok (.aload_n 0, 1) := by decide +kernel
theorem dX5_indexOfPoint_11 : decode cX5_indexOfPoint 11 = .ok (.getfield 15, 3) := by decide +kernel
theorem dX5_indexOfPoint_14 : decode cX5_indexOfPoint 14 = .ok (.iload_n 2, 1) := by decide +kernel
theorem dX5_indexOfPoint_15 : decode cX5_indexOfPoint 15 = .ok (.iaload, 1) := by decide +kernel
theorem dX5_indexOfPoint_16 : decode cX5_indexOfPoint 16 = .ok (.iload_n 1, 1) := by decide +kernel
theorem dX5_indexOfPoint_17 : decode cX5_indexOfPoint 17 = .ok (.if_icmp .ne 5, 3) := by decide +kernel
theorem dX5_indexOfPoint_20 : decode cX5_indexOfPoint 20 = .ok (.iload_n 2, 1) := by decide +kernel
theorem dX5_indexOfPoint_21 : decode cX5_indexOfPoint 21 = .ok (.ireturn, 1) := by decide +kernel
theorem dX5_indexOfPoint_22 : decode cX5_indexOfPoint 22 = .ok (.iinc 2 1, 3) := by decide +kernel
theorem dX5_indexOfPoint_25 : decode cX5_indexOfPoint 25 = .ok (.goto (-23), 3) := by decide +kernel
theorem dX5_indexOfPoint_28 : decode cX5_indexOfPoint 28 = .ok (.iconst (-1), 1) := by decide +kernel
theorem dX5_indexOfPoint_29 : decode cX5_indexOfPoint 29 = .ok (.ireturn, 1) := by decide +kernel
theorem dX5_prepareTrim_0 : decode cX5_prepareTrim 0 = .ok (.aload_n 0, 1) := by decide +kernel
theorem dX5_prepareTrim_1 : decode cX5_prepareTrim 1 = .ok (.getfield 40, 3) := by decide +kernel
theorem dX5_prepareTrim_4 : decode cX5_prepareTrim 4 = .ok (.invokevirtual 74, 3) := by decide +kernel
theorem dX5_prepareTrim_7 : decode cX5_prepareTrim 7 = .ok (.ifCond .eq 13, 3) := by decide +kernel
theorem dX5_prepareTrim_10 : decode cX5_prepareTrim 10 = .ok (.aload_n 0, 1) := by decide +kernel
theorem dX5_prepareTrim_11 : decode cX5_prepareTrim 11 = .ok (.getfield 40, 3) := by decide +kernel
theorem dX5_prepareTrim_14 : decode cX5_prepareTrim 14 = .ok (.invokevirtual 44, 3) := by decide +kernel
theorem dX5_prepareTrim_17 : decode cX5_prepareTrim 17 = .ok (.goto 11, 3) := by decide +kernel
theorem dX5_prepareTrim_20 : decode cX5_prepareTrim 20 = .ok (.aload_n 0, 1) := by decide +kernel
theorem dX5_prepareTrim_21 : decode cX5_prepareTrim 21 = .ok (.getfield 40, 3) := by decide +kernel
theorem dX5_prepareTrim_24 : decode cX5_prepareTrim 24 = .ok (.invokevirtual 44, 3) := by decide +kernel
theorem dX5_prepareTrim_27 : decode cX5_prepareTrim 27 = .ok (.ineg, 1) := by decide +kernel
theorem dX5_prepareTrim_28 : decode cX5_prepareTrim 28 = .ok (.istore_n 1, 1) := by decide +kernel
theorem dX5_prepareTrim_29 : decode cX5_prepareTrim 29 = .ok (.iconst 0, 1) := by decide +kernel
theorem dX5_prepareTrim_30 : decode cX5_prepareTrim 30 = .ok (.istore_n 2, 1) := by decide +kernel
theorem dX5_prepareTrim_31 : decode cX5_prepareTrim 31 = .ok (.iload_n 2, 1) := by decide +kernel
theorem dX5_prepareTrim_32 : decode cX5_prepareTrim 32 = .ok (.aload_n 0, 1) := by decide +kernel
theorem dX5_prepareTrim_33 : decode cX5_prepareTrim 33 = .ok (.getfield 25, 3) := by decide +kernel
theorem dX5_prepareTrim_36 : decode cX5_prepareTrim 36 = .ok (.if_icmp .ge 43, 3) := by decide +kernel
theorem dX5_prepareTrim_39 : decode cX5_prepareTrim 39 = .ok (.aload_n 0, 1) := by decide +kernel
theorem dX5_prepareTrim_40 : decode cX5_prepareTrim 40 = .ok (.getfield 28, 3) := by decide +kernel
theorem dX5_prepareTrim_43 : decode cX5_prepareTrim 43 = .ok (.iload_n 2, 1) := by decide +kernel
theorem dX5_prepareTrim_44 : decode cX5_prepareTrim 44 = .ok (.aload_n 0, 1) := by decide +kernel
theorem dX5_prepareTrim_45 : decode cX5_prepareTrim 45 = .ok (.aload_n 0, 1) := by decide +kernel
theorem dX5_prepareTrim_46 : decode cX5_prepareTrim 46 = .ok (.getfield 15, 3) := by decide +kernel
theorem dX5_prepareTrim_49 : decode cX5_prepareTrim 49 = .ok (.iload_n 2, 1) := by decide +kernel
theorem dX5_prepareTrim_50 : decode cX5_prepareTrim 50 = .ok (.iaload, 1) := by decide +kernel
theorem dX5_prepareTrim_51 : decode cX5_prepareTrim 51 = .ok (.invokevirtual 64, 3) := by decide +kernel
theorem dX5_prepareTrim_54 : decode cX5_prepareTrim 54 = .ok (.iastore, 1) := by decide +kernel
theorem dX5_prepareTrim_55 : decode cX5_prepareTrim 55 = .ok (.aload_n 0, 1) := by decide +kernel
theorem dX5_prepareTrim_56 : decode cX5_prepareTrim 56 = .ok (.getfield 31, 3) := by decide +kernel
theorem dX5_prepareTrim_59 : decode cX5_prepareTrim 59 = .ok (.iload_n 2, 1) := by decide +kernel
theorem dX5_prepareTrim_60 : decode cX5_prepareTrim 60 = .ok (.aload_n 0, 1) := by decide +kernel
theorem dX5_prepareTrim_61 : decode cX5_prepareTrim 61 = .ok (.aload_n 0, 1) := by decide +kernel
theorem dX5_prepareTrim_62 : decode cX5_prepareTrim 62 = .ok (.getfield 15, 3) := by decide +kernel
theorem dX5_prepareTrim_65 : decode cX5_prepareTrim 65 = .ok (.iload_n 2, 1) := by decide +kernel
theorem dX5_prepareTrim_66 : decode cX5_prepareTrim 66 = .ok (.iaload, 1) := by decide +kernel
theorem dX5_prepareTrim_67 : decode cX5_prepareTrim 67 = .ok (.invokevirtual 60, 3) := by decide +kernel
theorem dX5_prepareTrim_70 : decode cX5_prepareTrim 70 = .ok (.iload_n 1, 1) := by decide +kernel
theorem dX5_prepareTrim_71 : decode cX5_prepareTrim 71 = .ok (.iadd, 1) := by decide +kernel
theorem dX5_prepareTrim_72 : decode cX5_prepareTrim 72 = .ok (.iastore, 1) := by decide +kernel
theorem dX5_prepareTrim_73 : decode cX5_prepareTrim 73 = .ok (.iinc 2 1, 3) := by decide +kernel
theorem dX5_prepareTrim_76 : decode cX5_prepareTrim 76 = .ok (.goto (-45), 3) := by decide +kernel
theorem dX5_prepareTrim_79 : decode cX5_prepareTrim 79 = .ok (.aload_n 0, 1) := by decide +kernel
theorem dX5_prepareTrim_80 : decode cX5_prepareTrim 80 = .ok (.getfield 9, 3) := by decide +kernel
theorem dX5_prepareTrim_83 : decode cX5_prepareTrim 83 = .ok (.iconst 4, 1) := by decide +kernel
theorem dX5_prepareTrim_84 : decode cX5_prepareTrim 84 = .ok (.iaload, 1) := by decide +kernel
theorem dX5_prepareTrim_85 : decode cX5_prepareTrim 85 = .ok (.istore_n 2, 1) := by decide +kernel
theorem dX5_prepareTrim_86 : decode cX5_prepareTrim 86 = .ok (.aload_n 0, 1) := by decide +kernel
theorem dX5_prepareTrim_87 : decode cX5_prepareTrim 87 = .ok (.getfield 37, 3) := by decide +kernel
theorem dX5_prepareTrim_90 : decode cX5_prepareTrim 90 = .ok (.iload_n 2, 1) := by decide +kernel
theorem dX5_prepareTrim_91 : decode cX5_prepareTrim 91 = .ok (.if_icmp .eq 34, 3) := by decide +kernel
theorem dX5_prepareTrim_94 : decode cX5_prepareTrim 94 = .ok (.iconst 1, 1) := by decide +kernel
theorem dX5_prepareTrim_95 : decode cX5_prepareTrim 95 = .ok (.istore_n 3, 1) := by decide +kernel
theorem dX5_prepareTrim_96 : decode cX5_prepareTrim 96 = .ok (.iload_n 3, 1) := by decide +kernel
theorem dX5_prepareTrim_97 : decode cX5_prepareTrim 97 = .ok (.sipush 1098, 3) := by decide +kernel
theorem dX5_prepareTrim_100 : decode cX5_prepareTrim 100 = .ok (.if_icmp .gt 20, 3) := by decide +kernel
theorem dX5_prepareTrim_103 : decode cX5_prepareTrim 103 = .ok (.aload_n 0, 1) := by decide +kernel
theorem dX5_prepareTrim_104 : decode cX5_prepareTrim 104 = .ok (.getfield 34, 3) := by decide +kernel
theorem dX5_prepareTrim_107 : decode cX5_prepareTrim 107 = .ok (.iload_n 3, 1) := by decide +kernel
theorem dX5_prepareTrim_108 : decode cX5_prepareTrim 108 = .ok (.iload_n 2, 1) := by decide +kernel
theorem dX5_prepareTrim_109 : decode cX5_prepareTrim 109 = .ok (.iload_n 3, 1) := by decide +kernel
theorem dX5_prepareTrim_110 : decode cX5_prepareTrim 110 = .ok (.invokestatic 71, 3) := by decide +kernel
theorem dX5_prepareTrim_113 : decode cX5_prepareTrim 113 = .ok (.iastore, 1) := by decide +kernel
theorem dX5_prepareTrim_114 : decode cX5_prepareTrim 114 = .ok (.iinc 3 1, 3) := by decide +kernel
theorem dX5_prepareTrim_117 : decode cX5_prepareTrim 117 = .ok (.goto (-21), 3) := by decide +kernel
theorem dX5_prepareTrim_120 : decode cX5_prepareTrim 120 = .ok (.aload_n 0, 1) := by decide +kernel
theorem dX5_prepareTrim_121 : decode cX5_prepareTrim 121 = .ok (.iload_n 2, 1) := by decide +kernel
theorem dX5_prepareTrim_122 : decode cX5_prepareTrim 122 = .ok (.putfield 37, 3) := by decide +kernel
theorem dX5_prepareTrim_125 : decode cX5_prepareTrim 125 = .ok (.return_, 1) := by decide +kernel
theorem dX5_rankOfTrim_0 : decode cX5_rankOfTrim 0 = .ok (.iconst 0, 1) := by decide +kernel
theorem dX5_rankOfTrim_1 : decode cX5_rankOfTrim 1 = .ok (.istore_n 3, 1) := by decide +kernel
theorem dX5_rankOfTrim_2 : decode cX5_rankOfTrim 2 = .ok (.iconst 0, 1) := by decide +kernel
theorem dX5_rankOfTrim_3 : decode cX5_rankOfTrim 3 = .ok (.istore 4, 2) := by decide +kernel
theorem dX5_rankOfTrim_5 : decode cX5_rankOfTrim 5 = .ok (.iconst 0, 1) := by decide +kernel
theorem dX5_rankOfTrim_6 : decode cX5_rankOfTrim 6 = .ok (.istore 5, 2) := by decide +kernel
theorem dX5_rankOfTrim_8 : decode cX5_rankOfTrim 8 = .ok (.iload 5, 2) := by decide +kernel
theorem dX5_rankOfTrim_10 : decode cX5_rankOfTrim 10 = .ok (.aload_n 0, 1) := by decide +kernel
theorem dX5_rankOfTrim_11 : decode cX5_rankOfTrim 11 = .ok (.getfield 25, 3) := by decide +kernel
theorem dX5_rankOfTrim_14 : decode cX5_rankOfTrim 14 = .ok (.if_icmp .ge 64, 3) := by decide +kernel
theorem dX5_rankOfTrim_17 : decode cX5_rankOfTrim 17 = .ok (.iload_n 1, 1) := by decide +kernel
theorem dX5_rankOfTrim_18 : decode cX5_rankOfTrim 18 = .ok (.aload_n 0, 1) := by decide +kernel
theorem dX5_rankOfTrim_19 : decode cX5_rankOfTrim 19 = .ok (.getfield 28, 3) := by decide +kernel
theorem dX5_rankOfTrim_22 : decode cX5_rankOfTrim 22 = .ok (.iload 5, 2) := by decide +kernel
theorem dX5_rankOfTrim_24 : decode cX5_rankOfTrim 24 = .ok (.iaload, 1) := by decide +kernel
theorem dX5_rankOfTrim_25 : decode cX5_rankOfTrim 25 = .ok (.iload_n 2, 1) := by decide +kernel
theorem dX5_rankOfTrim_26 : decode cX5_rankOfTrim 26 = .ok (.iadd, 1) := by decide +kernel
theorem dX5_rankOfTrim_27 : decode cX5_rankOfTrim 27 = .ok (.invokestatic 67, 3) := by decide +kernel
theorem dX5_rankOfTrim_30 : decode cX5_rankOfTrim 30 = .ok (.sipush 1098, 3) := by decide +kernel
theorem dX5_rankOfTrim_33 : decode cX5_rankOfTrim 33 = .ok (.invokestatic 108, 3) := by decide +kernel
theorem dX5_rankOfTrim_36 : decode cX5_rankOfTrim 36 = .ok (.istore 6, 2) := by decide +kernel
theorem dX5_rankOfTrim_38 : decode cX5_rankOfTrim 38 = .ok (.aload_n 0, 1) := by decide +kernel
theorem dX5_rankOfTrim_39 : decode cX5_rankOfTrim 39 = .ok (.getfield 34, 3) := by decide +kernel
theorem dX5_rankOfTrim_42 : decode cX5_rankOfTrim 42 = .ok (.iload 6, 2) := by decide +kernel
theorem dX5_rankOfTrim_44 : decode cX5_rankOfTrim 44 = .ok (.iaload, 1) := by decide +kernel
theorem dX5_rankOfTrim_45 : decode cX5_rankOfTrim 45 = .ok (.aload_n 0, 1) := by decide +kernel
theorem dX5_rankOfTrim_46 : decode cX5_rankOfTrim 46 = .ok (.getfield 31, 3) := by decide +kernel
theorem dX5_rankOfTrim_49 : decode cX5_rankOfTrim 49 = .ok (.iload 5, 2) := by decide +kernel
theorem dX5_rankOfTrim_51 : decode cX5_rankOfTrim 51 = .ok (.iaload, 1) := by decide +kernel
theorem dX5_rankOfTrim_52 : decode cX5_rankOfTrim 52 = .ok (.isub, 1) := by decide +kernel
theorem dX5_rankOfTrim_53 : decode cX5_rankOfTrim 53 = .ok (.invokestatic 78, 3) := by decide +kernel
theorem dX5_rankOfTrim_56 : decode cX5_rankOfTrim 56 = .ok (.istore 7, 2) := by decide +kernel
theorem dX5_rankOfTrim_58 : decode cX5_rankOfTrim 58 = .ok (.iload_n 3, 1) := by decide +kernel
theorem dX5_rankOfTrim_59 : decode cX5_rankOfTrim 59 = .ok (.iload 7, 2) := by decide +kernel
theorem dX5_rankOfTrim_61 : decode cX5_rankOfTrim 61 = .ok (.invokestatic 111, 3) := by decide +kernel
theorem dX5_rankOfTrim_64 : decode cX5_rankOfTrim 64 = .ok (.istore_n 3, 1) := by decide +kernel
theorem dX5_rankOfTrim_65 : decode cX5_rankOfTrim 65 = .ok (.iload 4, 2) := by decide +kernel
theorem dX5_rankOfTrim_67 : decode cX5_rankOfTrim 67 = .ok (.iload 7, 2) := by decide +kernel
theorem dX5_rankOfTrim_69 : decode cX5_rankOfTrim 69 = .ok (.iadd, 1) := by decide +kernel
theorem dX5_rankOfTrim_70 : decode cX5_rankOfTrim 70 = .ok (.istore 4, 2) := by decide +kernel
theorem dX5_rankOfTrim_72 : decode cX5_rankOfTrim 72 = .ok (.iinc 5 1, 3) := by decide +kernel
theorem dX5_rankOfTrim_75 : decode cX5_rankOfTrim 75 = .ok (.goto (-67), 3) := by decide +kernel
theorem dX5_rankOfTrim_78 : decode cX5_rankOfTrim 78 = .ok (.iload_n 3, 1) := by decide +kernel
theorem dX5_rankOfTrim_79 : decode cX5_rankOfTrim 79 = .ok (.i2l, 1) := by decide +kernel
theorem dX5_rankOfTrim_80 : decode cX5_rankOfTrim 80 = .ok (.bipush 32, 2) := by decide +kernel
theorem dX5_rankOfTrim_82 : decode cX5_rankOfTrim 82 = .ok (.lshl, 1) := by decide +kernel
theorem dX5_rankOfTrim_83 : decode cX5_rankOfTrim 83 = .ok (.iload 4, 2) := by decide +kernel
theorem dX5_rankOfTrim_85 : decode cX5_rankOfTrim 85 = .ok (.i2l, 1) := by decide +kernel
theorem dX5_rankOfTrim_86 : decode cX5_rankOfTrim 86 = .ok (.ladd, 1) := by decide +kernel
theorem dX5_rankOfTrim_87 : decode cX5_rankOfTrim 87 = .ok (.lreturn, 1) := by decide +kernel
theorem dX5_capacityAt_0 : decode cX5_capacityAt 0 = .ok (.aload_n 0, 1) := by decide +kernel
theorem dX5_capacityAt_1 : decode cX5_capacityAt 1 = .ok (.getfield 18, 3) := by decide +kernel
theorem dX5_capacityAt_4 : decode cX5_capacityAt 4 = .ok (.aload_n 0, 1) := by decide +kernel
theorem dX5_capacityAt_5 : decode cX5_capacityAt 5 = .ok (.getfield 22, 3) := by decide +kernel
theorem dX5_capacityAt_8 : decode cX5_capacityAt 8 = .ok (.aload_n 0, 1) := by decide +kernel
theorem dX5_capacityAt_9 : decode cX5_capacityAt 9 = .ok (.getfield 18, 3) := by decide +kernel
theorem dX5_capacityAt_12 : decode cX5_capacityAt 12 = .ok (.isub, 1) := by decide +kernel
theorem dX5_capacityAt_13 : decode cX5_capacityAt 13 = .ok (.iload_n 1, 1) := by decide +kernel
theorem dX5_capacityAt_14 : decode cX5_capacityAt 14 = .ok (.imul, 1) := by decide +kernel
theorem dX5_capacityAt_15 : decode cX5_capacityAt 15 = .ok (.bipush 100, 2) := by decide +kernel
theorem dX5_capacityAt_17 : decode cX5_capacityAt 17 = .ok (.idiv, 1) := by decide +kernel
theorem dX5_capacityAt_18 : decode cX5_capacityAt 18 = .ok (.iadd, 1) := by decide +kernel
theorem dX5_capacityAt_19 : decode cX5_capacityAt 19 = .ok (.ireturn, 1) := by decide +kernel
theorem dX5_signalTuned_0 : decode cX5_signalTuned 0 = .ok (.aload_n 0, 1) := by decide +kernel
theorem dX5_signalTuned_1 : decode cX5_signalTuned 1 = .ok (.getfield 9, 3) := by decide +kernel
theorem dX5_signalTuned_4 : decode cX5_signalTuned 4 = .ok (.iconst 3, 1) := by decide +kernel
theorem dX5_signalTuned_5 : decode cX5_signalTuned 5 = .ok (.iaload, 1) := by decide +kernel
theorem dX5_signalTuned_6 : decode cX5_signalTuned 6 = .ok (.aload_n 0, 1) := by decide +kernel
theorem dX5_signalTuned_7 : decode cX5_signalTuned 7 = .ok (.iload_n 1, 1) := by decide +kernel
theorem dX5_signalTuned_8 : decode cX5_signalTuned 8 = .ok (.invokevirtual 64, 3) := by decide +kernel
theorem dX5_signalTuned_11 : decode cX5_signalTuned 11 = .ok (.aload_n 0, 1) := by decide +kernel
theorem dX5_signalTuned_12 : decode cX5_signalTuned 12 = .ok (.getfield 9, 3) := by decide +kernel
theorem dX5_signalTuned_15 : decode cX5_signalTuned 15 = .ok (.iconst 0, 1) := by decide +kernel
theorem dX5_signalTuned_16 : decode cX5_signalTuned 16 = .ok (.iaload, 1) := by decide +kernel
theorem dX5_signalTuned_17 : decode cX5_signalTuned 17 = .ok (.iadd, 1) := by decide +kernel
theorem dX5_signalTuned_18 : decode cX5_signalTuned 18 = .ok (.invokestatic 71, 3) := by decide +kernel
theorem dX5_signalTuned_21 : decode cX5_signalTuned 21 = .ok (.ireturn, 1) := by decide +kernel
theorem dX5_padded_0 : decode cX5_padded 0 = .ok (.iload_n 0, 1) := by decide +kernel
theorem dX5_padded_1 : decode cX5_padded 1 = .ok (.iload_n 1, 1) := by decide +kernel
theorem dX5_padded_2 : decode cX5_padded 2 = .ok (.iadd, 1) := by decide +kernel
theorem dX5_padded_3 : decode cX5_padded 3 = .ok (.istore_n 2, 1) := by decide +kernel
theorem dX5_padded_4 : decode cX5_padded 4 = .ok (.iload_n 2, 1) := by decide +kernel
theorem dX5_padded_5 : decode cX5_padded 5 = .ok (.iconst 1, 1) := by decide +kernel
theorem dX5_padded_6 : decode cX5_padded 6 = .ok (.if_icmp .ge 7, 3) := by decide +kernel
theorem dX5_padded_9 : decode cX5_padded 9 = .ok (.iconst 0, 1) := by decide +kernel
theorem dX5_padded_10 : decode cX5_padded 10 = .ok (.goto 8, 3) := by decide +kernel
theorem dX5_padded_13 : decode cX5_padded 13 = .ok (.iload_n 0, 1) := by decide +kernel
theorem dX5_padded_14 : decode cX5_padded 14 = .ok (.iload_n 1, 1) := by decide +kernel
theorem dX5_padded_15 : decode cX5_padded 15 = .ok (.imul, 1) := by decide +kernel
theorem dX5_padded_16 : decode cX5_padded 16 = .ok (.iload_n 2, 1) := by decide +kernel
theorem dX5_padded_17 : decode cX5_padded 17 = .ok (.idiv, 1) := by decide +kernel
theorem dX5_padded_18 : decode cX5_padded 18 = .ok (.istore_n 3, 1) := by decide +kernel
theorem dX5_padded_19 : decode cX5_padded 19 = .ok (.iload_n 3, 1) := by decide +kernel
theorem dX5_padded_20 : decode cX5_padded 20 = .ok (.iconst 1, 1) := by decide +kernel
theorem dX5_padded_21 : decode cX5_padded 21 = .ok (.if_icmp .ge 7, 3) := by decide +kernel
theorem dX5_padded_24 : decode cX5_padded 24 = .ok (.iconst 1, 1) := by decide +kernel
theorem dX5_padded_25 : decode cX5_padded 25 = .ok (.goto 4, 3) := by decide +kernel
theorem dX5_padded_28 : decode cX5_padded 28 = .ok (.iload_n 3, 1) := by decide +kernel
theorem dX5_padded_29 : decode cX5_padded 29 = .ok (.ireturn, 1) := by decide +kernel
theorem dX5_tunedTo_0 : decode cX5_tunedTo 0 = .ok (.iload_n 0, 1) := by decide +kernel
theorem dX5_tunedTo_1 : decode cX5_tunedTo 1 = .ok (.i2l, 1) := by decide +kernel
theorem dX5_tunedTo_2 : decode cX5_tunedTo 2 = .ok (.iload_n 1, 1) := by decide +kernel
theorem dX5_tunedTo_3 : decode cX5_tunedTo 3 = .ok (.i2l, 1) := by decide +kernel
theorem dX5_tunedTo_4 : decode cX5_tunedTo 4 = .ok (.lmul, 1) := by decide +kernel
theorem dX5_tunedTo_5 : decode cX5_tunedTo 5 = .ok (.lstore_n 2, 1) := by decide +kernel
theorem dX5_tunedTo_6 : decode cX5_tunedTo 6 = .ok (.lload_n 2, 1) := by decide +kernel
theorem dX5_tunedTo_7 : decode cX5_tunedTo 7 = .ok (.lconst 1, 1) := by decide +kernel
theorem dX5_tunedTo_8 : decode cX5_tunedTo 8 = .ok (.lcmp, 1) := by decide +kernel
theorem dX5_tunedTo_9 : decode cX5_tunedTo 9 = .ok (.ifCond .ge 7, 3) := by decide +kernel
theorem dX5_tunedTo_12 : decode cX5_tunedTo 12 = .ok (.lconst 0, 1) := by decide +kernel
theorem dX5_tunedTo_13 : decode cX5_tunedTo 13 = .ok (.goto 8, 3) := by decide +kernel
theorem dX5_tunedTo_16 : decode cX5_tunedTo 16 = .ok (.ldc2_w 114, 3) := by decide +kernel
theorem dX5_tunedTo_19 : decode cX5_tunedTo 19 = .ok (.lload_n 2, 1) := by decide +kernel
theorem dX5_tunedTo_20 : decode cX5_tunedTo 20 = .ok (.ldiv, 1) := by decide +kernel
theorem dX5_tunedTo_21 : decode cX5_tunedTo 21 = .ok (.lstore 4, 2) := by decide +kernel
theorem dX5_tunedTo_23 : decode cX5_tunedTo 23 = .ok (.lconst 0, 1) := by decide +kernel
theorem dX5_tunedTo_24 : decode cX5_tunedTo 24 = .ok (.lstore 6, 2) := by decide +kernel
theorem dX5_tunedTo_26 : decode cX5_tunedTo 26 = .ok (.ldc2_w 116, 3) := by decide +kernel
theorem dX5_tunedTo_29 : decode cX5_tunedTo 29 = .ok (.lstore 8, 2) := by decide +kernel
theorem dX5_tunedTo_31 : decode cX5_tunedTo 31 = .ok (.lload 8, 2) := by decide +kernel
theorem dX5_tunedTo_33 : decode cX5_tunedTo 33 = .ok (.lconst 0, 1) := by decide +kernel
theorem dX5_tunedTo_34 : decode cX5_tunedTo 34 = .ok (.lcmp, 1) := by decide +kernel
theorem dX5_tunedTo_35 : decode cX5_tunedTo 35 = .ok (.ifCond .le 34, 3) := by decide +kernel
theorem dX5_tunedTo_38 : decode cX5_tunedTo 38 = .ok (.lload 6, 2) := by decide +kernel
theorem dX5_tunedTo_40 : decode cX5_tunedTo 40 = .ok (.lload 8, 2) := by decide +kernel
theorem dX5_tunedTo_42 : decode cX5_tunedTo 42 = .ok (.ladd, 1) := by decide +kernel
theorem dX5_tunedTo_43 : decode cX5_tunedTo 43 = .ok (.lstore 10, 2) := by decide +kernel
theorem dX5_tunedTo_45 : decode cX5_tunedTo 45 = .ok (.lload 10, 2) := by decide +kernel
theorem dX5_tunedTo_47 : decode cX5_tunedTo 47 = .ok (.lload 10, 2) := by decide +kernel
theorem dX5_tunedTo_49 : decode cX5_tunedTo 49 = .ok (.lmul, 1) := by decide +kernel
theorem dX5_tunedTo_50 : decode cX5_tunedTo 50 = .ok (.lload 4, 2) := by decide +kernel
theorem dX5_tunedTo_52 : decode cX5_tunedTo 52 = .ok (.lcmp, 1) := by decide +kernel
theorem dX5_tunedTo_53 : decode cX5_tunedTo 53 = .ok (.ifCond .gt 7, 3) := by decide +kernel
theorem dX5_tunedTo_56 : decode cX5_tunedTo 56 = .ok (.lload 10, 2) := by decide +kernel
theorem dX5_tunedTo_58 : decode cX5_tunedTo 58 = .ok (.lstore 6, 2) := by decide +kernel
theorem dX5_tunedTo_60 : decode cX5_tunedTo 60 = .ok (.lload 8, 2) := by decide +kernel
theorem dX5_tunedTo_62 : decode cX5_tunedTo 62 = .ok (.iconst 1, 1) := by decide +kernel
theorem dX5_tunedTo_63 : decode cX5_tunedTo 63 = .ok (.lshr, 1) := by decide +kernel
theorem dX5_tunedTo_64 : decode cX5_tunedTo 64 = .ok (.lstore 8, 2) := by decide +kernel
theorem dX5_tunedTo_66 : decode cX5_tunedTo 66 = .ok (.goto (-35), 3) := by decide +kernel
theorem dX5_tunedTo_69 : decode cX5_tunedTo 69 = .ok (.lload 6, 2) := by decide +kernel
theorem dX5_tunedTo_71 : decode cX5_tunedTo 71 = .ok (.l2i, 1) := by decide +kernel
theorem dX5_tunedTo_72 : decode cX5_tunedTo 72 = .ok (.ireturn, 1) := by decide +kernel
end
section
theorem dX7_init_0 : decode cX7_init 0 = .ok (.aload_n 0, 1) := by decide +kernel
theorem dX7_init_1 : decode cX7_init 1 = .ok (.invokespecial 1, 3) := by decide +kernel
theorem dX7_init_4 : decode cX7_init 4 = .ok (.aload_n 0, 1) := by decide +kernel
theorem dX7_init_5 : decode cX7_init 5 = .ok (.bipush 20, 2) := by decide +kernel
theorem dX7_init_7 : decode cX7_init 7 = .ok (.newarray .int, 2) := by decide +kernel
theorem dX7_init_9 : decode cX7_init 9 = .ok (.putfield 9, 3) := by decide +kernel
theorem dX7_init_12 : decode cX7_init 12 = .ok (.aload_n 0, 1) := by decide +kernel
theorem dX7_init_13 : decode cX7_init 13 = .ok (.bipush 20, 2) := by decide +kernel
theorem dX7_init_15 : decode cX7_init 15 = .ok (.newarray .int, 2) := by decide +kernel
theorem dX7_init_17 : decode cX7_init 17 = .ok (.putfield 13, 3) := by decide +kernel
theorem dX7_init_20 : decode cX7_init 20 = .ok (.aload_n 0, 1) := by decide +kernel
theorem dX7_init_21 : decode cX7_init 21 = .ok (.sipush 450, 3) := by decide +kernel
theorem dX7_init_24 : decode cX7_init 24 = .ok (.putfield 16, 3) := by decide +kernel
theorem dX7_init_27 : decode cX7_init 27 = .ok (.aload_n 0, 1) := by decide +kernel
theorem dX7_init_28 : decode cX7_init 28 = .ok (.iconst 1, 1) := by decide +kernel
theorem dX7_init_29 : decode cX7_init 29 = .ok (.putfield 20, 3) := by decide +kernel
theorem dX7_init_32 : decode cX7_init 32 = .ok (.aload_n 0, 1) := by decide +kernel
theorem dX7_init_33 : decode cX7_init 33 = .ok (.iconst 2, 1) := by decide +kernel
theorem dX7_init_34 : decode cX7_init 34 = .ok (.putfield 23, 3) := by decide +kernel
theorem dX7_init_37 : decode cX7_init 37 = .ok (.aload_n 0, 1) := by decide +kernel
theorem dX7_init_38 : decode cX7_init 38 = .ok (.iconst 5, 1) := by decide +kernel
theorem dX7_init_39 : decode cX7_init 39 = .ok (.putfield 26, 3) := by decide +kernel
theorem dX7_init_42 : decode cX7_init 42 = .ok (.aload_n 0, 1) := by decide +kernel
theorem dX7_init_43 : decode cX7_init 43 = .ok (.bipush 40, 2) := by decide +kernel
theorem dX7_init_45 : decode cX7_init 45 = .ok (.putfield 29, 3) := by decide +kernel
theorem dX7_init_48 : decode cX7_init 48 = .ok (.aload_n 0, 1) := by decide +kernel
theorem dX7_init_49 : decode cX7_init 49 = .ok (.sipush 400, 3) := by decide +kernel
theorem dX7_init_52 : decode cX7_init 52 = .ok (.putfield 32, 3) := by decide +kernel
theorem dX7_init_55 : decode cX7_init 55 = .ok (.aload_n 0, 1) := by decide +kernel
theorem dX7_init_56 : decode cX7_init 56 = .ok (.iconst 5, 1) := by decide +kernel
theorem dX7_init_57 : decode cX7_init 57 = .ok (.newarray .int, 2) := by decide +kernel
theorem dX7_init_59 : decode cX7_init 59 = .ok (.putfield 35, 3) := by decide +kernel
theorem dX7_init_62 : decode cX7_init 62 = .ok (.aload_n 0, 1) := by decide +kernel
theorem dX7_init_63 : decode cX7_init 63 = .ok (.iconst 5, 1) := by decide +kernel
theorem dX7_init_64 : decode cX7_init 64 = .ok (.newarray .int, 2) := by decide +kernel
theorem dX7_init_66 : decode cX7_init 66 = .ok (.putfield 38, 3) := by decide +kernel
theorem dX7_init_69 : decode cX7_init 69 = .ok (.aload_n 0, 1) := by decide +kernel
theorem dX7_init_70 : decode cX7_init 70 = .ok (.bipush 60, 2) := by decide +kernel
theorem dX7_init_72 : decode cX7_init 72 = .ok (.newarray .int, 2) := by decide +kernel
theorem dX7_init_74 : decode cX7_init 74 = .ok (.putfield 41, 3) := by decide +kernel
theorem dX7_init_77 : decode cX7_init 77 = .ok (.aload_n 0, 1) := by decide +kernel
theorem dX7_init_78 : decode cX7_init 78 = .ok (.bipush 60, 2) := by decide +kernel
theorem dX7_init_80 : decode cX7_init 80 = .ok (.newarray .int, 2) := by decide +kernel
theorem dX7_init_82 : decode cX7_init 82 = .ok (.putfield 44, 3) := by decide +kernel
theorem dX7_init_85 : decode cX7_init 85 = .ok (.aload_n 0, 1) := by decide +kernel
theorem dX7_init_86 : decode cX7_init 86 = .ok (.bipush 60, 2) := by decide +kernel
theorem dX7_init_88 : decode cX7_init 88 = .ok (.newarray .int, 2) := by decide +kernel
theorem dX7_init_90 : decode cX7_init 90 = .ok (.putfield 47, 3) := by decide +kernel
theorem dX7_init_93 : decode cX7_init 93 = .ok (.aload_n 0, 1) := by decide +kernel
theorem dX7_init_94 : decode cX7_init 94 = .ok (.bipush 8, 2) := by decide +kernel
theorem dX7_init_96 : decode cX7_init 96 = .ok (.newarray .int, 2) := by decide +kernel
theorem dX7_init_98 : decode cX7_init 98 = .ok (.putfield 50, 3) := by decide +kernel
theorem dX7_init_101 : decode cX7_init 101 = .ok (.aload_n 0, 1) := by decide +kernel
theorem dX7_init_102 : decode cX7_init 102 = .ok (.bipush 8, 2) := by decide +kernel
theorem dX7_init_104 : decode cX7_init 104 = .ok (.newarray .int, 2) := by decide +kernel
theorem dX7_init_106 : decode cX7_init 106 = .ok (.putfield 53, 3) := by decide +kernel
theorem dX7_init_109 : decode cX7_init 109 = .ok (.aload_n 0, 1) := by decide +kernel
theorem dX7_init_110 : decode cX7_init 110 = .ok (.bipush 12, 2) := by decide +kernel
theorem dX7_init_112 : decode cX7_init 112 = .ok (.newarray .int, 2) := by decide +kernel
theorem dX7_init_114 : decode cX7_init 114 = .ok (.putfield 56, 3) := by decide +kernel
theorem dX7_init_117 : decode cX7_init 117 = .ok (.aload_n 0, 1) := by decide +kernel
theorem dX7_init_118 : decode cX7_init 118 = .ok (.bipush 12, 2) := by decide +kernel
theorem dX7_init_120 : decode cX7_init 120 = .ok (.newarray .int, 2) := by decide +kernel
theorem dX7_init_122 : decode cX7_init 122 = .ok (.putfield 59, 3) := by decide +kernel
theorem dX7_init_125 : decode cX7_init 125 = .ok (.aload_n 0, 1) := by decide +kernel
theorem dX7_init_126 : decode cX7_init 126 = .ok (.sipush 144, 3) := by decide +kernel
theorem dX7_init_129 : decode cX7_init 129 = .ok (.newarray .int, 2) := by decide +kernel
theorem dX7_init_131 : decode cX7_init 131 = .ok (.putfield 62, 3) := by decide +kernel
theorem dX7_init_134 : decode cX7_init 134 = .ok (.aload_n 0, 1) := by decide +kernel
theorem dX7_init_135 : decode cX7_init 135 = .ok (.sipush 4096, 3) := by decide +kernel
theorem dX7_init_138 : decode cX7_init 138 = .ok (.newarray .int, 2) := by decide +kernel
theorem dX7_init_140 : decode cX7_init 140 = .ok (.putfield 65, 3) := by decide +kernel
theorem dX7_init_143 : decode cX7_init 143 = .ok (.aload_n 0, 1) := by decide +kernel
theorem dX7_init_144 : decode cX7_init 144 = .ok (.sipush 4096, 3) := by decide +kernel
theorem dX7_init_147 : decode cX7_init 147 = .ok (.newarray .boolean, 2) := by decide +kernel
theorem dX7_init_149 : decode cX7_init 149 = .ok (.putfield 68, 3) := by decide +kernel
theorem dX7_init_152 : decode cX7_init 152 = .ok (.aload_n 0, 1) := by decide +kernel
theorem dX7_init_153 : decode cX7_init 153 = .ok (.getfield 35, 3) := by decide +kernel
theorem dX7_init_156 : decode cX7_init 156 = .ok (.iconst 0, 1) := by decide +kernel
theorem dX7_init_157 : decode cX7_init 157 = .ok (.bipush 20, 2) := by decide +kernel
theorem dX7_init_159 : decode cX7_init 159 = .ok (.iastore, 1) := by decide +kernel
theorem dX7_init_160 : decode cX7_init 160 = .ok (.aload_n 0, 1) := by decide +kernel
theorem dX7_init_161 : decode cX7_init 161 = .ok (.getfield 35, 3) := by decide +kernel
theorem dX7_init_164 : decode cX7_init 164 = .ok (.iconst 1, 1) := by decide +kernel
theorem dX7_init_165 : decode cX7_init 165 = .ok (.bipush 20, 2) := by decide +kernel
theorem dX7_init_167 : decode cX7_init 167 = .ok (.iastore, 1) := by decide +kernel
theorem dX7_init_168 : decode cX7_init 168 = .ok (.aload_n 0, 1) := by decide +kernel
theorem dX7_init_169 : decode cX7_init 169 = .ok (.getfield 35, 3) := by decide +kernel
theorem dX7_init_172 : decode cX7_init 172 = .ok (.iconst 2, 1) := by decide +kernel
theorem dX7_init_173 : decode cX7_init 173 = .ok (.sipush 400, 3) := by decide +kernel
theorem dX7_init_176 : decode cX7_init 176 = .ok (.iastore, 1) := by decide +kernel
theorem dX7_init_177 : decode cX7_init 177 = .ok (.aload_n 0, 1) := by decide +kernel
theorem dX7_init_178 : decode cX7_init 178 = .ok (.getfield 35, 3) := by decide +kernel
theorem dX7_init_181 : decode cX7_init 181 = .ok (.iconst 3, 1) := by decide +kernel
theorem dX7_init_182 : decode cX7_init 182 = .ok (.sipush 200, 3) := by decide +kernel
theorem dX7_init_185 : decode cX7_init 185 = .ok (.iastore, 1) := by decide +kernel
theorem dX7_init_186 : decode cX7_init 186 = .ok (.aload_n 0, 1) := by decide +kernel
theorem dX7_init_187 : decode cX7_init 187 = .ok (.getfield 35, 3) := by decide +kernel
theorem dX7_init_190 : decode cX7_init 190 = .ok (.iconst 4, 1) := by decide +kernel
theorem dX7_init_191 : decode cX7_init 191 = .ok (.bipush 100, 2) := by decide +kernel
theorem dX7_init_193 : decode cX7_init 193 = .ok (.iastore, 1) := by decide +kernel
theorem dX7_init_194 : decode cX7_init 194 = .ok (.return_, 1) := by decide +kernel
theorem dX7_within_0 : decode cX7_within 0 = .ok (.iload_n 0, 1) := by decide +kernel
theorem dX7_within_1 : decode cX7_within 1 = .ok (.iload_n 1, 1) := by decide +kernel
theorem dX7_within_2 : decode cX7_within 2 = .ok (.if_icmp .lt 12, 3) := by decide +kernel
theorem dX7_within_5 : decode cX7_within 5 = .ok (.iload_n 0, 1) := by decide +kernel
theorem dX7_within_6 : decode cX7_within 6 = .ok (.iload_n 2, 1) := by decide +kernel
theorem dX7_within_7 : decode cX7_within 7 = .ok (.if_icmp .gt 7, 3) := by decide +kernel
theorem dX7_within_10 : decode cX7_within 10 = .ok (.iconst 1, 1) := by decide +kernel
theorem dX7_within_11 : decode cX7_within 11 = .ok (.goto 4, 3) := by decide +kernel
theorem dX7_within_14 : decode cX7_within 14 = .ok (.iconst 0, 1) := by decide +kernel
theorem dX7_within_15 : decode cX7_within 15 = .ok (.ireturn, 1) := by decide +kernel
theorem dX7_size_0 : decode cX7_size 0 = .ok (.iload_n 0, 1) := by decide +kernel
theorem dX7_size_1 : decode cX7_size 1 = .ok (.ifCond .ge 8, 3) := by decide +kernel
theorem dX7_size_4 : decode cX7_size 4 = .ok (.iload_n 0, 1) := by decide +kernel
theorem dX7_size_5 : decode cX7_size 5 = .ok (.ineg, 1) := by decide +kernel
theorem dX7_size_6 : decode cX7_size 6 = .ok (.goto 4, 3) := by decide +kernel
theorem dX7_size_9 : decode cX7_size 9 = .ok (.iload_n 0, 1) := by decide +kernel
theorem dX7_size_10 : decode cX7_size 10 = .ok (.ireturn, 1) := by decide +kernel
theorem dX7_isStation_0 : decode cX7_isStation 0 = .ok (.iload_n 1, 1) := by decide +kernel
theorem dX7_isStation_1 : decode cX7_isStation 1 = .ok (.ifCond .lt 15, 3) := by decide +kernel
theorem dX7_isStation_4 : decode cX7_isStation 4 = .ok (.iload_n 1, 1) := by decide +kernel
theorem dX7_isStation_5 : decode cX7_isStation 5 = .ok (.aload_n 0, 1) := by decide +kernel
theorem dX7_isStation_6 : decode cX7_isStation 6 = .ok (.getfield 72, 3) := by decide +kernel
theorem dX7_isStation_9 : decode cX7_isStation 9 = .ok (.if_icmp .ge 7, 3) := by decide +kernel
theorem dX7_isStation_12 : decode cX7_isStation 12 = .ok (.iconst 1, 1) := by decide +kernel
theorem dX7_isStation_13 : decode cX7_isStation 13 = .ok (.goto 4, 3) := by decide +kernel
theorem dX7_isStation_16 : decode cX7_isStation 16 = .ok (.iconst 0, 1) := by decide +kernel
theorem dX7_isStation_17 : decode cX7_isStation 17 = .ok (.ireturn, 1) := by decide +kernel
theorem dX7_station_0 : decode cX7_station 0 = .ok (.iload_n 1, 1) := by decide +kernel
theorem dX7_station_1 : decode cX7_station 1 = .ok (.bipush 100, 2) := by decide +kernel
theorem dX7_station_3 : decode cX7_station 3 = .ok (.sipush 3000, 3) := by decide +kernel
theorem dX7_station_6 : decode cX7_station 6 = .ok (.invokestatic 75, 3) := by decide +kernel
theorem dX7_station_9 : decode cX7_station 9 = .ok (.ifCond .eq 14, 3) := by decide +kernel
theorem dX7_station_12 : decode cX7_station 12 = .ok (.iload_n 2, 1) := by decide +kernel
theorem dX7_station_13 : decode cX7_station 13 = .ok (.iconst 1, 1) := by decide +kernel
theorem dX7_station_14 : decode cX7_station 14 = .ok (.sipush 999, 3) := by decide +kernel
theorem dX7_station_17 : decode cX7_station 17 = .ok (.invokestatic 75, 3) := by decide +kernel
theorem dX7_station_20 : decode cX7_station 20 = .ok (.ifCond .ne 5, 3) := by decide +kernel
theorem dX7_station_23 : decode cX7_station 23 = .ok (.iconst (-1), 1) := by decide +kernel
theorem dX7_station_24 : decode cX7_station 24 = .ok (.ireturn, 1) := by decide +kernel
theorem dX7_station_25 : decode cX7_station 25 = .ok (.aload_n 0, 1) := by decide +kernel
theorem dX7_station_26 : decode cX7_station 26 = .ok (.getfield 72, 3) := by decide +kernel
theorem dX7_station_29 : decode cX7_station 29 = .ok (.bipush 20, 2) := by decide +kernel
theorem dX7_station_31 : decode cX7_station 31 = .ok (.if_icmp .ne 6, 3) := by decide +kernel
theorem dX7_station_34 : decode cX7_station 34 = .ok (.bipush (-2), 2) := by decide +kernel
theorem dX7_station_36 : decode cX7_station 36 = .ok (.ireturn, 1) := by decide +kernel
theorem dX7_station_37 : decode cX7_station 37 = .ok (.aload_n 0, 1) := by decide +kernel
theorem dX7_station_38 : decode cX7_station 38 = .ok (.getfield 9, 3) := by decide +kernel
theorem dX7_station_41 : decode cX7_station 41 = .ok (.aload_n 0, 1) := by decide +kernel
theorem dX7_station_42 : decode cX7_station 42 = .ok (.getfield 72, 3) := by decide +kernel
theorem dX7_station_45 : decode cX7_station 45 = .ok (.iload_n 1, 1) := by decide +kernel
theorem dX7_station_46 : decode cX7_station 46 = .ok (.iastore, 1) := by decide +kernel
theorem dX7_station_47 : decode cX7_station 47 = .ok (.aload_n 0, 1) := by decide +kernel
theorem dX7_station_48 : decode cX7_station 48 = .ok (.getfield 13, 3) := by decide +kernel
theorem dX7_station_51 : decode cX7_station 51 = .ok (.aload_n 0, 1) := by decide +kernel
theorem dX7_station_52 : decode cX7_station 52 = .ok (.getfield 72, 3) := by decide +kernel
theorem dX7_station_55 : decode cX7_station 55 = .ok (.iload_n 2, 1) := by decide +kernel
theorem dX7_station_56 : decode cX7_station 56 = .ok (.iastore, 1) := by decide +kernel
theorem dX7_station_57 : decode cX7_station 57 = .ok (.aload_n 0, 1) := by decide +kernel
theorem dX7_station_58 : decode cX7_station 58 = .ok (.dup, 1) := by decide +kernel
theorem dX7_station_59 : decode cX7_station 59 = .ok (.getfield 72, 3) := by decide +kernel
theorem dX7_station_62 : decode cX7_station 62 = .ok (.iconst 1, 1) := by decide +kernel
theorem dX7_station_63 : decode cX7_station 63 = .ok (.iadd, 1) := by decide +kernel
theorem dX7_station_64 : decode cX7_station 64 = .ok (.putfield 72, 3) := by decide +kernel
theorem dX7_station_67 : decode cX7_station 67 = .ok (.aload_n 0, 1) := by decide +kernel
theorem dX7_station_68 : decode cX7_station 68 = .ok (.getfield 72, 3) := by decide +kernel
theorem dX7_station_71 : decode cX7_station 71 = .ok (.iconst 1, 1) := by decide +kernel
theorem dX7_station_72 : decode cX7_station 72 = .ok (.isub, 1) := by decide +kernel
theorem dX7_station_73 : decode cX7_station 73 = .ok (.ireturn, 1) := by decide +kernel
theorem dX7_isMiddle_0 : decode cX7_isMiddle 0 = .ok (.iload_n 0, 1) := by decide +kernel
theorem dX7_isMiddle_1 : decode cX7_isMiddle 1 = .ok (.bipush 20, 2) := by decide +kernel
theorem dX7_isMiddle_3 : decode cX7_isMiddle 3 = .ok (.sipush 900, 3) := by decide +kernel
theorem dX7_isMiddle_6 : decode cX7_isMiddle 6 = .ok (.invokestatic 75, 3) := by decide +kernel
theorem dX7_isMiddle_9 : decode cX7_isMiddle 9 = .ok (.ireturn, 1) := by decide +kernel
theorem dX7_plan_0 : decode cX7_plan 0 = .ok (.iload_n 1, 1) := by decide +kernel
theorem dX7_plan_1 : decode cX7_plan 1 = .ok (.ifCond .ne 10, 3) := by decide +kernel
theorem dX7_plan_4 : decode cX7_plan 4 = .ok (.iload_n 2, 1) := by decide +kernel
theorem dX7_plan_5 : decode cX7_plan 5 = .ok (.invokestatic 79, 3) := by decide +kernel
theorem dX7_plan_8 : decode cX7_plan 8 = .ok (.goto 51, 3) := by decide +kernel
theorem dX7_plan_11 : decode cX7_plan 11 = .ok (.iload_n 1, 1) := by decide +kernel
theorem dX7_plan_12 : decode cX7_plan 12 = .ok (.iconst 1, 1) := by decide +kernel
theorem dX7_plan_13 : decode cX7_plan 13 = .ok (.if_icmp .ne 12, 3) := by decide +kernel
theorem dX7_plan_16 : decode cX7_plan 16 = .ok (.iload_n 2, 1) := by decide +kernel
theorem dX7_plan_17 : decode cX7_plan 17 = .ok (.iconst 0, 1) := by decide +kernel
theorem dX7_plan_18 : decode cX7_plan 18 = .ok (.iconst 1, 1) := by decide +kernel
theorem dX7_plan_19 : decode cX7_plan 19 = .ok (.invokestatic 75, 3) := by decide +kernel
theorem dX7_plan_22 : decode cX7_plan 22 = .ok (.goto 37, 3) := by decide +kernel
theorem dX7_plan_25 : decode cX7_plan 25 = .ok (.iload_n 1, 1) := by decide +kernel
theorem dX7_plan_26 : decode cX7_plan 26 = .ok (.iconst 2, 1) := by decide +kernel
theorem dX7_plan_27 : decode cX7_plan 27 = .ok (.if_icmp .ne 12, 3) := by decide +kernel
theorem dX7_plan_30 : decode cX7_plan 30 = .ok (.iload_n 2, 1) := by decide +kernel
theorem dX7_plan_31 : decode cX7_plan 31 = .ok (.iconst 1, 1) := by decide +kernel
theorem dX7_plan_32 : decode cX7_plan 32 = .ok (.iconst 5, 1) := by decide +kernel
theorem dX7_plan_33 : decode cX7_plan 33 = .ok (.invokestatic 75, 3) := by decide +kernel
theorem dX7_plan_36 : decode cX7_plan 36 = .ok (.goto 23, 3) := by decide +kernel
theorem dX7_plan_39 : decode cX7_plan 39 = .ok (.iload_n 1, 1) := by decide +kernel
theorem dX7_plan_40 : decode cX7_plan 40 = .ok (.iconst 3, 1) := by decide +kernel
theorem dX7_plan_41 : decode cX7_plan 41 = .ok (.if_icmp .ne 17, 3) := by decide +kernel
theorem dX7_plan_44 : decode cX7_plan 44 = .ok (.iload_n 2, 1) := by decide +kernel
theorem dX7_plan_45 : decode cX7_plan 45 = .ok (.iconst 0, 1) := by decide +kernel
theorem dX7_plan_46 : decode cX7_plan 46 = .ok (.bipush 50, 2) := by decide +kernel
theorem dX7_plan_48 : decode cX7_plan 48 = .ok (.invokestatic 75, 3) := by decide +kernel
theorem dX7_plan_51 : decode cX7_plan 51 = .ok (.ifCond .eq 7, 3) := by decide +kernel
theorem dX7_plan_54 : decode cX7_plan 54 = .ok (.iconst 1, 1) := by decide +kernel
theorem dX7_plan_55 : decode cX7_plan 55 = .ok (.goto 4, 3) := by decide +kernel
theorem dX7_plan_58 : decode cX7_plan 58 = .ok (.iconst 0, 1) := by decide +kernel
theorem dX7_plan_59 : decode cX7_plan 59 = .ok (.istore_n 3, 1) := by decide +kernel
theorem dX7_plan_60 : decode cX7_plan 60 = .ok (.iload_n 3, 1) := by decide +kernel
theorem dX7_plan_61 : decode cX7_plan 61 = .ok (.ifCond .ne 5, 3) := by decide +kernel
theorem dX7_plan_64 : decode cX7_plan 64 = .ok (.iconst (-1), 1) := by decide +kernel
theorem dX7_plan_65 : decode cX7_plan 65 = .ok (.ireturn, 1) := by decide +kernel
theorem dX7_plan_66 : decode cX7_plan 66 = .ok (.iload_n 1, 1) := by decide +kernel
theorem dX7_plan_67 : decode cX7_plan 67 = .ok (.ifCond .ne 10, 3) := by decide +kernel
theorem dX7_plan_70 : decode cX7_plan 70 = .ok (.aload_n 0, 1) := by decide +kernel
theorem dX7_plan_71 : decode cX7_plan 71 = .ok (.getfield 16, 3) := by decide +kernel
theorem dX7_plan_74 : decode cX7_plan 74 = .ok (.goto 31, 3) := by decide +kernel
theorem dX7_plan_77 : decode cX7_plan 77 = .ok (.iload_n 1, 1) := by decide +kernel
theorem dX7_plan_78 : decode cX7_plan 78 = .ok (.iconst 1, 1) := by decide +kernel
theorem dX7_plan_79 : decode cX7_plan 79 = .ok (.if_icmp .ne 10, 3) := by decide +kernel
theorem dX7_plan_82 : decode cX7_plan 82 = .ok (.aload_n 0, 1) := by decide +kernel
theorem dX7_plan_83 : decode cX7_plan 83 = .ok (.getfield 20, 3) := by decide +kernel
theorem dX7_plan_86 : decode cX7_plan 86 = .ok (.goto 19, 3) := by decide +kernel
theorem dX7_plan_89 : decode cX7_plan 89 = .ok (.iload_n 1, 1) := by decide +kernel
theorem dX7_plan_90 : decode cX7_plan 90 = .ok (.iconst 2, 1) := by decide +kernel
theorem dX7_plan_91 : decode cX7_plan 91 = .ok (.if_icmp .ne 10, 3) := by decide +kernel
theorem dX7_plan_94 : decode cX7_plan 94 = .ok (.aload_n 0, 1) := by decide +kernel
theorem dX7_plan_95 : decode cX7_plan 95 = .ok (.getfield 23, 3) := by decide +kernel
theorem dX7_plan_98 : decode cX7_plan 98 = .ok (.goto 7, 3) := by decide +kernel
theorem dX7_plan_101 : decode cX7_plan 101 = .ok (.aload_n 0, 1) := by decide +kernel
theorem dX7_plan_102 : decode cX7_plan 102 = .ok (.getfield 26, 3) := by decide +kernel
theorem dX7_plan_105 : decode cX7_plan 105 = .ok (.istore 4, 2) := by decide +kernel
theorem dX7_plan_107 : decode cX7_plan 107 = .ok (.iload_n 1, 1) := by decide +kernel
theorem dX7_plan_108 : decode cX7_plan 108 = .ok (.ifCond .ne 11, 3) := by decide +kernel
theorem dX7_plan_111 : decode cX7_plan 111 = .ok (.aload_n 0, 1) := by decide +kernel
theorem dX7_plan_112 : decode cX7_plan 112 = .ok (.iload_n 2, 1) := by decide +kernel
theorem dX7_plan_113 : decode cX7_plan 113 = .ok (.putfield 16, 3) := by decide +kernel
theorem dX7_plan_116 : decode cX7_plan 116 = .ok (.goto 34, 3) := by decide +kernel
theorem dX7_plan_119 : decode cX7_plan 119 = .ok (.iload_n 1, 1) := by decide +kernel
theorem dX7_plan_120 : decode cX7_plan 120 = .ok (.iconst 1, 1) := by decide +kernel
theorem dX7_plan_121 : decode cX7_plan 121 = .ok (.if_icmp .ne 11, 3) := by decide +kernel
theorem dX7_plan_124 : decode cX7_plan 124 = .ok (.aload_n 0, 1) := by decide +kernel
theorem dX7_plan_125 : decode cX7_plan 125 = .ok (.iload_n 2, 1) := by decide +kernel
theorem dX7_plan_126 : decode cX7_plan 126 = .ok (.putfield 20, 3) := by decide +kernel
theorem dX7_plan_129 : decode cX7_plan 129 = .ok (.goto 21, 3) := by decide +kernel
theorem dX7_plan_132 : decode cX7_plan 132 = .ok (.iload_n 1, 1) := by decide +kernel
theorem dX7_plan_133 : decode cX7_plan 133 = .ok (.iconst 2, 1) := by decide +kernel
theorem dX7_plan_134 : decode cX7_plan 134 = .ok (.if_icmp .ne 11, 3) := by decide +kernel
theorem dX7_plan_137 : decode cX7_plan 137 = .ok (.aload_n 0, 1) := by decide +kernel
theorem dX7_plan_138 : decode cX7_plan 138 = .ok (.iload_n 2, 1) := by decide +kernel
theorem dX7_plan_139 : decode cX7_plan 139 = .ok (.putfield 23, 3) := by decide +kernel
theorem dX7_plan_142 : decode cX7_plan 142 = .ok (.goto 8, 3) := by decide +kernel
theorem dX7_plan_145 : decode cX7_plan 145 = .ok (.aload_n 0, 1) := by decide +kernel
theorem dX7_plan_146 : decode cX7_plan 146 = .ok (.iload_n 2, 1) := by decide +kernel
theorem dX7_plan_147 : decode cX7_plan 147 = .ok (.putfield 26, 3) := by decide +kernel
theorem dX7_plan_150 : decode cX7_plan 150 = .ok (.iload 4, 2) := by decide +kernel
theorem dX7_plan_152 : decode cX7_plan 152 = .ok (.ireturn, 1) := by decide +kernel
theorem dX7_oscillatorOf_0 : decode cX7_oscillatorOf 0 = .ok (.aload_n 0, 1) := by decide +kernel
theorem dX7_oscillatorOf_1 : decode cX7_oscillatorOf 1 = .ok (.getfield 20, 3) := by decide +kernel
theorem dX7_oscillatorOf_4 : decode cX7_oscillatorOf 4 = .ok (.iconst 1, 1) := by decide +kernel
theorem dX7_oscillatorOf_5 : decode cX7_oscillatorOf 5 = .ok (.if_icmp .ne 14, 3) := by decide +kernel
theorem dX7_oscillatorOf_8 : decode cX7_oscillatorOf 8 = .ok (.aload_n 0, 1) := by decide +kernel
theorem dX7_oscillatorOf_9 : decode cX7_oscillatorOf 9 = .ok (.getfield 9, 3) := by decide +kernel
theorem dX7_oscillatorOf_12 : decode cX7_oscillatorOf 12 = .ok (.iload_n 1, 1) := by decide +kernel
theorem dX7_oscillatorOf_13 : decode cX7_oscillatorOf 13 = .ok (.iaload, 1) := by decide +kernel
theorem dX7_oscillatorOf_14 : decode cX7_oscillatorOf 14 = .ok (.iload_n 2, 1) := by decide +kernel
theorem dX7_oscillatorOf_15 : decode cX7_oscillatorOf 15 = .ok (.iadd, 1) := by decide +kernel
theorem dX7_oscillatorOf_16 : decode cX7_oscillatorOf 16 = .ok (.goto 11, 3) := by decide +kernel
theorem dX7_oscillatorOf_19 : decode cX7_oscillatorOf 19 = .ok (.aload_n 0, 1) := by decide +kernel
theorem dX7_oscillatorOf_20 : decode cX7_oscillatorOf 20 = .ok (.getfield 9, 3) := by decide +kernel
theorem dX7_oscillatorOf_23 : decode cX7_oscillatorOf 23 = .ok (.iload_n 1, 1) := by decide +kernel
theorem dX7_oscillatorOf_24 : decode cX7_oscillatorOf 24 = .ok (.iaload, 1) := by decide +kernel
theorem dX7_oscillatorOf_25 : decode cX7_oscillatorOf 25 = .ok (.iload_n 2, 1) := by decide +kernel
theorem dX7_oscillatorOf_26 : decode cX7_oscillatorOf 26 = .ok (.isub, 1) := by decide +kernel
theorem dX7_oscillatorOf_27 : decode cX7_oscillatorOf 27 = .ok (.ireturn, 1) := by decide +kernel
theorem dX7_oscillator_0 : decode cX7_oscillator 0 = .ok (.aload_n 0, 1) := by decide +kernel
theorem dX7_oscillator_1 : decode cX7_oscillator 1 = .ok (.iload_n 1, 1) := by decide +kernel
theorem dX7_oscillator_2 : decode cX7_oscillator 2 = .ok (.invokevirtual 83, 3) := by decide +kernel
theorem dX7_oscillator_5 : decode cX7_oscillator 5 = .ok (.ifCond .eq 15, 3) := by decide +kernel
theorem dX7_oscillator_8 : decode cX7_oscillator 8 = .ok (.aload_n 0, 1) := by decide +kernel
theorem dX7_oscillator_9 : decode cX7_oscillator 9 = .ok (.iload_n 1, 1) := by decide +kernel
theorem dX7_oscillator_10 : decode cX7_oscillator 10 = .ok (.aload_n 0, 1) := by decide +kernel
theorem dX7_oscillator_11 : decode cX7_oscillator 11 = .ok (.getfield 16, 3) := by decide +kernel
theorem dX7_oscillator_14 : decode cX7_oscillator 14 = .ok (.invokevirtual 86, 3) := by decide +kernel
theorem dX7_oscillator_17 : decode cX7_oscillator 17 = .ok (.goto 5, 3) := by decide +kernel
theorem dX7_oscillator_20 : decode cX7_oscillator 20 = .ok (.ldc 90, 2) := by decide +kernel
theorem dX7_oscillator_22 : decode cX7_oscillator 22 = .ok (.ireturn, 1) := by decide +kernel
theorem dX7_falls_0 : decode cX7_falls 0 = .ok (.aload_n 0, 1) := by decide +kernel
theorem dX7_falls_1 : decode cX7_falls 1 = .ok (.iload_n 1, 1) := by decide +kernel
theorem dX7_falls_2 : decode cX7_falls 2 = .ok (.iload_n 2, 1) := by decide +kernel
theorem dX7_falls_3 : decode cX7_falls 3 = .ok (.invokevirtual 86, 3) := by decide +kernel
theorem dX7_falls_6 : decode cX7_falls 6 = .ok (.istore 7, 2) := by decide +kernel
theorem dX7_falls_8 : decode cX7_falls 8 = .ok (.iload 7, 2) := by decide +kernel
theorem dX7_falls_10 : decode cX7_falls 10 = .ok (.ifCond .le 20, 3) := by decide +kernel
theorem dX7_falls_13 : decode cX7_falls 13 = .ok (.iload_n 3, 1) := by decide +kernel
theorem dX7_falls_14 : decode cX7_falls 14 = .ok (.iload_n 1, 1) := by decide +kernel
theorem dX7_falls_15 : decode cX7_falls 15 = .ok (.if_icmp .ne 17, 3) := by decide +kernel
theorem dX7_falls_18 : decode cX7_falls 18 = .ok (.iload 4, 2) := by decide +kernel
theorem dX7_falls_20 : decode cX7_falls 20 = .ok (.iconst 1, 1) := by decide +kernel
theorem dX7_falls_21 : decode cX7_falls 21 = .ok (.if_icmp .ne 11, 3) := by decide +kernel
theorem dX7_falls_24 : decode cX7_falls 24 = .ok (.iload 5, 2) := by decide +kernel
theorem dX7_falls_26 : decode cX7_falls 26 = .ok (.iconst 1, 1) := by decide +kernel
theorem dX7_falls_27 : decode cX7_falls 27 = .ok (.if_icmp .ne 5, 3) := by decide +kernel
theorem dX7_falls_30 : decode cX7_falls 30 = .ok (.iconst 0, 1) := by decide +kernel
theorem dX7_falls_31 : decode cX7_falls 31 = .ok (.ireturn, 1) := by decide +kernel
theorem dX7_falls_32 : decode cX7_falls 32 = .ok (.iload 4, 2) := by decide +kernel
theorem dX7_falls_34 : decode cX7_falls 34 = .ok (.aload_n 0, 1) := by decide +kernel
theorem dX7_falls_35 : decode cX7_falls 35 = .ok (.getfield 9, 3) := by decide +kernel
theorem dX7_falls_38 : decode cX7_falls 38 = .ok (.iload_n 3, 1) := by decide +kernel
theorem dX7_falls_39 : decode cX7_falls 39 = .ok (.iaload, 1) := by decide +kernel
theorem dX7_falls_40 : decode cX7_falls 40 = .ok (.imul, 1) := by decide +kernel
theorem dX7_falls_41 : decode cX7_falls 41 = .ok (.iload 6, 2) := by decide +kernel
theorem dX7_falls_43 : decode cX7_falls 43 = .ok (.iconst 1, 1) := by decide +kernel
theorem dX7_falls_44 : decode cX7_falls 44 = .ok (.if_icmp .ne 11, 3) := by decide +kernel
theorem dX7_falls_47 : decode cX7_falls 47 = .ok (.iload 5, 2) := by decide +kernel
theorem dX7_falls_49 : decode cX7_falls 49 = .ok (.iload 7, 2) := by decide +kernel
theorem dX7_falls_51 : decode cX7_falls 51 = .ok (.imul, 1) := by decide +kernel
theorem dX7_falls_52 : decode cX7_falls 52 = .ok (.goto 9, 3) := by decide +kernel
theorem dX7_falls_55 : decode cX7_falls 55 = .ok (.iload 5, 2) := by decide +kernel
theorem dX7_falls_57 : decode cX7_falls 57 = .ok (.ineg, 1) := by decide +kernel
theorem dX7_falls_58 : decode cX7_falls 58 = .ok (.iload 7, 2) := by decide +kernel
theorem dX7_falls_60 : decode cX7_falls 60 = .ok (.imul, 1) := by decide +kernel
theorem dX7_falls_61 : decode cX7_falls 61 = .ok (.iadd, 1) := by decide +kernel
theorem dX7_falls_62 : decode cX7_falls 62 = .ok (.istore 8, 2) := by decide +kernel
theorem dX7_falls_64 : decode cX7_falls 64 = .ok (.iload 8, 2) := by decide +kernel
theorem dX7_falls_66 : decode cX7_falls 66 = .ok (.invokestatic 91, 3) := by decide +kernel
theorem dX7_falls_69 : decode cX7_falls 69 = .ok (.iload_n 2, 1) := by decide +kernel
theorem dX7_falls_70 : decode cX7_falls 70 = .ok (.isub, 1) := by decide +kernel
theorem dX7_falls_71 : decode cX7_falls 71 = .ok (.invokestatic 91, 3) := by decide +kernel
theorem dX7_falls_74 : decode cX7_falls 74 = .ok (.aload_n 0, 1) := by decide +kernel
theorem dX7_falls_75 : decode cX7_falls 75 = .ok (.getfield 26, 3) := by decide +kernel
theorem dX7_falls_78 : decode cX7_falls 78 = .ok (.if_icmp .gt 7, 3) := by decide +kernel
theorem dX7_falls_81 : decode cX7_falls 81 = .ok (.iconst 1, 1) := by decide +kernel
theorem dX7_falls_82 : decode cX7_falls 82 = .ok (.goto 4, 3) := by decide +kernel
theorem dX7_falls_85 : decode cX7_falls 85 = .ok (.iconst 0, 1) := by decide +kernel
theorem dX7_falls_86 : decode cX7_falls 86 = .ok (.ireturn, 1) := by decide +kernel
theorem dX7_goSpurs_0 : decode cX7_goSpurs 0 = .ok (.iconst 0, 1) := by decide +kernel
theorem dX7_goSpurs_1 : decode cX7_goSpurs 1 = .ok (.istore 4, 2) := by decide +kernel
theorem dX7_goSpurs_3 : decode cX7_goSpurs 3 = .ok (.iconst 0, 1) := by decide +kernel
theorem dX7_goSpurs_4 : decode cX7_goSpurs 4 = .ok (.istore 5, 2) := by decide +kernel
theorem dX7_goSpurs_6 : decode cX7_goSpurs 6 = .ok (.iload 5, 2) := by decide +kernel
theorem dX7_goSpurs_8 : decode cX7_goSpurs 8 = .ok (.aload_n 0, 1) := by decide +kernel
theorem dX7_goSpurs_9 : decode cX7_goSpurs 9 = .ok (.getfield 72, 3) := by decide +kernel
theorem dX7_goSpurs_12 : decode cX7_goSpurs 12 = .ok (.if_icmp .ge 109, 3) := by decide +kernel
theorem dX7_goSpurs_15 : decode cX7_goSpurs 15 = .ok (.iconst 1, 1) := by decide +kernel
theorem dX7_goSpurs_16 : decode cX7_goSpurs 16 = .ok (.istore 6, 2) := by decide +kernel
theorem dX7_goSpurs_18 : decode cX7_goSpurs 18 = .ok (.iload 6, 2) := by decide +kernel
theorem dX7_goSpurs_20 : decode cX7_goSpurs 20 = .ok (.aload_n 0, 1) := by decide +kernel
theorem dX7_goSpurs_21 : decode cX7_goSpurs 21 = .ok (.getfield 23, 3) := by decide +kernel
theorem dX7_goSpurs_24 : decode cX7_goSpurs 24 = .ok (.if_icmp .gt 91, 3) := by decide +kernel
theorem dX7_goSpurs_27 : decode cX7_goSpurs 27 = .ok (.iconst 1, 1) := by decide +kernel
theorem dX7_goSpurs_28 : decode cX7_goSpurs 28 = .ok (.istore 7, 2) := by decide +kernel
theorem dX7_goSpurs_30 : decode cX7_goSpurs 30 = .ok (.iload 7, 2) := by decide +kernel
theorem dX7_goSpurs_32 : decode cX7_goSpurs 32 = .ok (.aload_n 0, 1) := by decide +kernel
theorem dX7_goSpurs_33 : decode cX7_goSpurs 33 = .ok (.getfield 23, 3) := by decide +kernel
theorem dX7_goSpurs_36 : decode cX7_goSpurs 36 = .ok (.if_icmp .gt 73, 3) := by decide +kernel
theorem dX7_goSpurs_39 : decode cX7_goSpurs 39 = .ok (.iconst 1, 1) := by decide +kernel
theorem dX7_goSpurs_40 : decode cX7_goSpurs 40 = .ok (.istore 8, 2) := by decide +kernel
theorem dX7_goSpurs_42 : decode cX7_goSpurs 42 = .ok (.iload 8, 2) := by decide +kernel
theorem dX7_goSpurs_44 : decode cX7_goSpurs 44 = .ok (.ifCond .lt 59, 3) := by decide +kernel
theorem dX7_goSpurs_47 : decode cX7_goSpurs 47 = .ok (.aload_n 0, 1) := by decide +kernel
theorem dX7_goSpurs_48 : decode cX7_goSpurs 48 = .ok (.iload_n 1, 1) := by decide +kernel
theorem dX7_goSpurs_49 : decode cX7_goSpurs 49 = .ok (.iload_n 2, 1) := by decide +kernel
theorem dX7_goSpurs_50 : decode cX7_goSpurs 50 = .ok (.iload 5, 2) := by decide +kernel
theorem dX7_goSpurs_52 : decode cX7_goSpurs 52 = .ok (.iload 6, 2) := by decide +kernel
theorem dX7_goSpurs_54 : decode cX7_goSpurs 54 = .ok (.iload 7, 2) := by decide +kernel
theorem dX7_goSpurs_56 : decode cX7_goSpurs 56 = .ok (.iload 8, 2) := by decide +kernel
theorem dX7_goSpurs_58 : decode cX7_goSpurs 58 = .ok (.invokevirtual 95, 3) := by decide +kernel
theorem dX7_goSpurs_61 : decode cX7_goSpurs 61 = .ok (.ifCond .eq 36, 3) := by decide +kernel
theorem dX7_goSpurs_64 : decode cX7_goSpurs 64 = .ok (.iload 4, 2) := by decide +kernel
theorem dX7_goSpurs_66 : decode cX7_goSpurs 66 = .ok (.iload_n 3, 1) := by decide +kernel
theorem dX7_goSpurs_67 : decode cX7_goSpurs 67 = .ok (.if_icmp .ne 27, 3) := by decide +kernel
theorem dX7_goSpurs_70 : decode cX7_goSpurs 70 = .ok (.aload_n 0, 1) := by decide +kernel
theorem dX7_goSpurs_71 : decode cX7_goSpurs 71 = .ok (.iload 5, 2) := by decide +kernel
theorem dX7_goSpurs_73 : decode cX7_goSpurs 73 = .ok (.putfield 99, 3) := by decide +kernel
theorem dX7_goSpurs_76 : decode cX7_goSpurs 76 = .ok (.aload_n 0, 1) := by decide +kernel
theorem dX7_goSpurs_77 : decode cX7_goSpurs 77 = .ok (.iload 6, 2) := by decide +kernel
theorem dX7_goSpurs_79 : decode cX7_goSpurs 79 = .ok (.putfield 102, 3) := by decide +kernel
theorem dX7_goSpurs_82 : decode cX7_goSpurs 82 = .ok (.aload_n 0, 1) := by decide +kernel
theorem dX7_goSpurs_83 : decode cX7_goSpurs 83 = .ok (.iload 7, 2) := by decide +kernel
theorem dX7_goSpurs_85 : decode cX7_goSpurs 85 = .ok (.putfield 105, 3) := by decide +kernel
theorem dX7_goSpurs_88 : decode cX7_goSpurs 88 = .ok (.aload_n 0, 1) := by decide +kernel
theorem dX7_goSpurs_89 : decode cX7_goSpurs 89 = .ok (.iload 8, 2) := by decide +kernel
theorem dX7_goSpurs_91 : decode cX7_goSpurs 91 = .ok (.putfield 108, 3) := by decide +kernel
theorem dX7_goSpurs_94 : decode cX7_goSpurs 94 = .ok (.iinc 4 1, 3) := by decide +kernel
theorem dX7_goSpurs_97 : decode cX7_goSpurs 97 = .ok (.iinc 8 (-1), 3) := by decide +kernel
theorem dX7_goSpurs_100 : decode cX7_goSpurs 100 = .ok (.goto (-58), 3) := by decide +kernel
theorem dX7_goSpurs_103 : decode cX7_goSpurs 103 = .ok (.iinc 7 1, 3) := by decide +kernel
theorem dX7_goSpurs_106 : decode cX7_goSpurs 106 = .ok (.goto (-76), 3) := by decide +kernel
theorem dX7_goSpurs_109 : decode cX7_goSpurs 109 = .ok (.iinc 6 1, 3) := by decide +kernel
theorem dX7_goSpurs_112 : decode cX7_goSpurs 112 = .ok (.goto (-94), 3) := by decide +kernel
theorem dX7_goSpurs_115 : decode cX7_goSpurs 115 = .ok (.iinc 5 1, 3) := by decide +kernel
theorem dX7_goSpurs_118 : decode cX7_goSpurs 118 = .ok (.goto (-112), 3) := by decide +kernel
theorem dX7_goSpurs_121 : decode cX7_goSpurs 121 = .ok (.iload 4, 2) := by decide +kernel
theorem dX7_goSpurs_123 : decode cX7_goSpurs 123 = .ok (.ireturn, 1) := by decide +kernel
theorem dX7_spurs_0 : decode cX7_spurs 0 = .ok (.aload_n 0, 1) := by decide +kernel
theorem dX7_spurs_1 : decode cX7_spurs 1 = .ok (.iload_n 1, 1) := by decide +kernel
theorem dX7_spurs_2 : decode cX7_spurs 2 = .ok (.invokevirtual 83, 3) := by decide +kernel
theorem dX7_spurs_5 : decode cX7_spurs 5 = .ok (.ifCond .eq 16, 3) := by decide +kernel
theorem dX7_spurs_8 : decode cX7_spurs 8 = .ok (.aload_n 0, 1) := by decide +kernel
theorem dX7_spurs_9 : decode cX7_spurs 9 = .ok (.iload_n 1, 1) := by decide +kernel
theorem dX7_spurs_10 : decode cX7_spurs 10 = .ok (.aload_n 0, 1) := by decide +kernel
theorem dX7_spurs_11 : decode cX7_spurs 11 = .ok (.getfield 16, 3) := by decide +kernel
theorem dX7_spurs_14 : decode cX7_spurs 14 = .ok (.iconst (-1), 1) := by decide +kernel
theorem dX7_spurs_15 : decode cX7_spurs 15 = .ok (.invokevirtual 111, 3) := by decide +kernel
theorem dX7_spurs_18 : decode cX7_spurs 18 = .ok (.goto 4, 3) := by decide +kernel
theorem dX7_spurs_21 : decode cX7_spurs 21 = .ok (.iconst (-1), 1) := by decide +kernel
theorem dX7_spurs_22 : decode cX7_spurs 22 = .ok (.ireturn, 1) := by decide +kernel
theorem dX7_weightAtHand_0 : decode cX7_weightAtHand 0 = .ok (.aload_n 0, 1) := by decide +kernel
theorem dX7_weightAtHand_1 : decode cX7_weightAtHand 1 = .ok (.getfield 13, 3) := by decide +kernel
theorem dX7_weightAtHand_4 : decode cX7_weightAtHand 4 = .ok (.aload_n 0, 1) := by decide +kernel
theorem dX7_weightAtHand_5 : decode cX7_weightAtHand 5 = .ok (.getfield 99, 3) := by decide +kernel
theorem dX7_weightAtHand_8 : decode cX7_weightAtHand 8 = .ok (.iaload, 1) := by decide +kernel
theorem dX7_weightAtHand_9 : decode cX7_weightAtHand 9 = .ok (.aload_n 0, 1) := by decide +kernel
theorem dX7_weightAtHand_10 : decode cX7_weightAtHand 10 = .ok (.getfield 102, 3) := by decide +kernel
theorem dX7_weightAtHand_13 : decode cX7_weightAtHand 13 = .ok (.aload_n 0, 1) := by decide +kernel
theorem dX7_weightAtHand_14 : decode cX7_weightAtHand 14 = .ok (.getfield 105, 3) := by decide +kernel
theorem dX7_weightAtHand_17 : decode cX7_weightAtHand 17 = .ok (.imul, 1) := by decide +kernel
theorem dX7_weightAtHand_18 : decode cX7_weightAtHand 18 = .ok (.idiv, 1) := by decide +kernel
theorem dX7_weightAtHand_19 : decode cX7_weightAtHand 19 = .ok (.ireturn, 1) := by decide +kernel
theorem dX7_spur_0 : decode cX7_spur 0 = .ok (.aload_n 0, 1) := by decide +kernel
theorem dX7_spur_1 : decode cX7_spur 1 = .ok (.iload_n 1, 1) := by decide +kernel
theorem dX7_spur_2 : decode cX7_spur 2 = .ok (.invokevirtual 83, 3) := by decide +kernel
theorem dX7_spur_5 : decode cX7_spur 5 = .ok (.ifCond .eq 30, 3) := by decide +kernel
theorem dX7_spur_8 : decode cX7_spur 8 = .ok (.iload_n 2, 1) := by decide +kernel
theorem dX7_spur_9 : decode cX7_spur 9 = .ok (.ifCond .lt 26, 3) := by decide +kernel
theorem dX7_spur_12 : decode cX7_spur 12 = .ok (.iload_n 3, 1) := by decide +kernel
theorem dX7_spur_13 : decode cX7_spur 13 = .ok (.iconst 0, 1) := by decide +kernel
theorem dX7_spur_14 : decode cX7_spur 14 = .ok (.iconst 4, 1) := by decide +kernel
theorem dX7_spur_15 : decode cX7_spur 15 = .ok (.invokestatic 75, 3) := by decide +kernel
theorem dX7_spur_18 : decode cX7_spur 18 = .ok (.ifCond .eq 17, 3) := by decide +kernel
theorem dX7_spur_21 : decode cX7_spur 21 = .ok (.iload_n 2, 1) := by decide +kernel
theorem dX7_spur_22 : decode cX7_spur 22 = .ok (.aload_n 0, 1) := by decide +kernel
theorem dX7_spur_23 : decode cX7_spur 23 = .ok (.iload_n 1, 1) := by decide +kernel
theorem dX7_spur_24 : decode cX7_spur 24 = .ok (.aload_n 0, 1) := by decide +kernel
theorem dX7_spur_25 : decode cX7_spur 25 = .ok (.getfield 16, 3) := by decide +kernel
theorem dX7_spur_28 : decode cX7_spur 28 = .ok (.iload_n 2, 1) := by decide +kernel
theorem dX7_spur_29 : decode cX7_spur 29 = .ok (.invokevirtual 111, 3) := by decide +kernel
theorem dX7_spur_32 : decode cX7_spur 32 = .ok (.if_icmp .lt 5, 3) := by decide +kernel
theorem dX7_spur_35 : decode cX7_spur 35 = .ok (.iconst (-1), 1) := by decide +kernel
theorem dX7_spur_36 : decode cX7_spur 36 = .ok (.ireturn, 1) := by decide +kernel
theorem dX7_spur_37 : decode cX7_spur 37 = .ok (.iload_n 3, 1) := by decide +kernel
theorem dX7_spur_38 : decode cX7_spur 38 = .ok (.ifCond .ne 10, 3) := by decide +kernel
theorem dX7_spur_41 : decode cX7_spur 41 = .ok (.aload_n 0, 1) := by decide +kernel
theorem dX7_spur_42 : decode cX7_spur 42 = .ok (.getfield 99, 3) := by decide +kernel
theorem dX7_spur_45 : decode cX7_spur 45 = .ok (.goto 43, 3) := by decide +kernel
theorem dX7_spur_48 : decode cX7_spur 48 = .ok (.iload_n 3, 1) := by decide +kernel
theorem dX7_spur_49 : decode cX7_spur 49 = .ok (.iconst 1, 1) := by decide +kernel
theorem dX7_spur_50 : decode cX7_spur 50 = .ok (.if_icmp .ne 10, 3) := by decide +kernel
theorem dX7_spur_53 : decode cX7_spur 53 = .ok (.aload_n 0, 1) := by decide +kernel
theorem dX7_spur_54 : decode cX7_spur 54 = .ok (.getfield 102, 3) := by decide +kernel
theorem dX7_spur_57 : decode cX7_spur 57 = .ok (.goto 31, 3) := by decide +kernel
theorem dX7_spur_60 : decode cX7_spur 60 = .ok (.iload_n 3, 1) := by decide +kernel
theorem dX7_spur_61 : decode cX7_spur 61 = .ok (.iconst 2, 1) := by decide +kernel
theorem dX7_spur_62 : decode cX7_spur 62 = .ok (.if_icmp .ne 10, 3) := by decide +kernel
theorem dX7_spur_65 : decode cX7_spur 65 = .ok (.aload_n 0, 1) := by decide +kernel
theorem dX7_spur_66 : decode cX7_spur 66 = .ok (.getfield 105, 3) := by decide +kernel
theorem dX7_spur_69 : decode cX7_spur 69 = .ok (.goto 19, 3) := by decide +kernel
theorem dX7_spur_72 : decode cX7_spur 72 = .ok (.iload_n 3, 1) := by decide +kernel
theorem dX7_spur_73 : decode cX7_spur 73 = .ok (.iconst 3, 1) := by decide +kernel
theorem dX7_spur_74 : decode cX7_spur 74 = .ok (.if_icmp .ne 10, 3) := by decide +kernel
theorem dX7_spur_77 : decode cX7_spur 77 = .ok (.aload_n 0, 1) := by decide +kernel
theorem dX7_spur_78 : decode cX7_spur 78 = .ok (.getfield 108, 3) := by decide +kernel
theorem dX7_spur_81 : decode cX7_spur 81 = .ok (.goto 7, 3) := by decide +kernel
theorem dX7_spur_84 : decode cX7_spur 84 = .ok (.aload_n 0, 1) := by decide +kernel
theorem dX7_spur_85 : decode cX7_spur 85 = .ok (.invokevirtual 115, 3) := by decide +kernel
theorem dX7_spur_88 : decode cX7_spur 88 = .ok (.ireturn, 1) := by decide +kernel
theorem dX7_image_0 : decode cX7_image 0 = .ok (.aload_n 0, 1) := by decide +kernel
theorem dX7_image_1 : decode cX7_image 1 = .ok (.iload_n 1, 1) := by decide +kernel
theorem dX7_image_2 : decode cX7_image 2 = .ok (.invokevirtual 83, 3) := by decide +kernel
theorem dX7_image_5 : decode cX7_image 5 = .ok (.ifCond .eq 35, 3) := by decide +kernel
theorem dX7_image_8 : decode cX7_image 8 = .ok (.aload_n 0, 1) := by decide +kernel
theorem dX7_image_9 : decode cX7_image 9 = .ok (.iload_n 2, 1) := by decide +kernel
theorem dX7_image_10 : decode cX7_image 10 = .ok (.invokevirtual 83, 3) := by decide +kernel
theorem dX7_image_13 : decode cX7_image 13 = .ok (.ifCond .eq 27, 3) := by decide +kernel
theorem dX7_image_16 : decode cX7_image 16 = .ok (.aload_n 0, 1) := by decide +kernel
theorem dX7_image_17 : decode cX7_image 17 = .ok (.iload_n 1, 1) := by decide +kernel
theorem dX7_image_18 : decode cX7_image 18 = .ok (.aload_n 0, 1) := by decide +kernel
theorem dX7_image_19 : decode cX7_image 19 = .ok (.getfield 16, 3) := by decide +kernel
theorem dX7_image_22 : decode cX7_image 22 = .ok (.iload_n 2, 1) := by decide +kernel
theorem dX7_image_23 : decode cX7_image 23 = .ok (.iconst 1, 1) := by decide +kernel
theorem dX7_image_24 : decode cX7_image 24 = .ok (.iconst 1, 1) := by decide +kernel
theorem dX7_image_25 : decode cX7_image 25 = .ok (.iconst 0, 1) := by decide +kernel
theorem dX7_image_26 : decode cX7_image 26 = .ok (.invokevirtual 95, 3) := by decide +kernel
theorem dX7_image_29 : decode cX7_image 29 = .ok (.ifCond .eq 7, 3) := by decide +kernel
theorem dX7_image_32 : decode cX7_image 32 = .ok (.iconst 1, 1) := by decide +kernel
theorem dX7_image_33 : decode cX7_image 33 = .ok (.goto 8, 3) := by decide +kernel
theorem dX7_image_36 : decode cX7_image 36 = .ok (.iconst 0, 1) := by decide +kernel
theorem dX7_image_37 : decode cX7_image 37 = .ok (.goto 4, 3) := by decide +kernel
theorem dX7_image_40 : decode cX7_image 40 = .ok (.iconst (-1), 1) := by decide +kernel
theorem dX7_image_41 : decode cX7_image 41 = .ok (.ireturn, 1) := by decide +kernel
theorem dX7_worst_0 : decode cX7_worst 0 = .ok (.aload_n 0, 1) := by decide +kernel
theorem dX7_worst_1 : decode cX7_worst 1 = .ok (.iload_n 1, 1) := by decide +kernel
theorem dX7_worst_2 : decode cX7_worst 2 = .ok (.invokevirtual 83, 3) := by decide +kernel
theorem dX7_worst_5 : decode cX7_worst 5 = .ok (.ifCond .ne 5, 3) := by decide +kernel
theorem dX7_worst_8 : decode cX7_worst 8 = .ok (.iconst (-1), 1) := by decide +kernel
theorem dX7_worst_9 : decode cX7_worst 9 = .ok (.ireturn, 1) := by decide +kernel
theorem dX7_worst_10 : decode cX7_worst 10 = .ok (.aload_n 0, 1) := by decide +kernel
theorem dX7_worst_11 : decode cX7_worst 11 = .ok (.iload_n 1, 1) := by decide +kernel
theorem dX7_worst_12 : decode cX7_worst 12 = .ok (.aload_n 0, 1) := by decide +kernel
theorem dX7_worst_13 : decode cX7_worst 13 = .ok (.getfield 16, 3) := by decide +kernel
theorem dX7_worst_16 : decode cX7_worst 16 = .ok (.iconst (-1), 1) := by decide +kernel
theorem dX7_worst_17 : decode cX7_worst 17 = .ok (.invokevirtual 111, 3) := by decide +kernel
theorem dX7_worst_20 : decode cX7_worst 20 = .ok (.istore_n 2, 1) := by decide +kernel
theorem dX7_worst_21 : decode cX7_worst 21 = .ok (.bipush (-4), 2) := by decide +kernel
theorem dX7_worst_23 : decode cX7_worst 23 = .ok (.istore_n 3, 1) := by decide +kernel
theorem dX7_worst_24 : decode cX7_worst 24 = .ok (.iconst 0, 1) := by decide +kernel
theorem dX7_worst_25 : decode cX7_worst 25 = .ok (.istore 4, 2) := by decide +kernel
theorem dX7_worst_27 : decode cX7_worst 27 = .ok (.iconst 0, 1) := by decide +kernel
theorem dX7_worst_28 : decode cX7_worst 28 = .ok (.istore 5, 2) := by decide +kernel
theorem dX7_worst_30 : decode cX7_worst 30 = .ok (.iload 5, 2) := by decide +kernel
theorem dX7_worst_32 : decode cX7_worst 32 = .ok (.iload_n 2, 1) := by decide +kernel
theorem dX7_worst_33 : decode cX7_worst 33 = .ok (.if_icmp .ge 44, 3) := by decide +kernel
theorem dX7_worst_36 : decode cX7_worst 36 = .ok (.aload_n 0, 1) := by decide +kernel
theorem dX7_worst_37 : decode cX7_worst 37 = .ok (.iload_n 1, 1) := by decide +kernel
theorem dX7_worst_38 : decode cX7_worst 38 = .ok (.aload_n 0, 1) := by decide +kernel
theorem dX7_worst_39 : decode cX7_worst 39 = .ok (.getfield 16, 3) := by decide +kernel
theorem dX7_worst_42 : decode cX7_worst 42 = .ok (.iload 5, 2) := by decide +kernel
theorem dX7_worst_44 : decode cX7_worst 44 = .ok (.invokevirtual 111, 3) := by decide +kernel
theorem dX7_worst_47 : decode cX7_worst 47 = .ok (.istore 6, 2) := by decide +kernel
theorem dX7_worst_49 : decode cX7_worst 49 = .ok (.iload_n 3, 1) := by decide +kernel
theorem dX7_worst_50 : decode cX7_worst 50 = .ok (.ifCond .lt 12, 3) := by decide +kernel
theorem dX7_worst_53 : decode cX7_worst 53 = .ok (.aload_n 0, 1) := by decide +kernel
theorem dX7_worst_54 : decode cX7_worst 54 = .ok (.invokevirtual 115, 3) := by decide +kernel
theorem dX7_worst_57 : decode cX7_worst 57 = .ok (.iload 4, 2) := by decide +kernel
theorem dX7_worst_59 : decode cX7_worst 59 = .ok (.if_icmp .le 12, 3) := by decide +kernel
theorem dX7_worst_62 : decode cX7_worst 62 = .ok (.iload 5, 2) := by decide +kernel
theorem dX7_worst_64 : decode cX7_worst 64 = .ok (.istore_n 3, 1) := by decide +kernel
theorem dX7_worst_65 : decode cX7_worst 65 = .ok (.aload_n 0, 1) := by decide +kernel
theorem dX7_worst_66 : decode cX7_worst 66 = .ok (.invokevirtual 115, 3) := by decide +kernel
theorem dX7_worst_69 : decode cX7_worst 69 = .ok (.istore 4, 2) := by decide +kernel
theorem dX7_worst_71 : decode cX7_worst 71 = .ok (.iinc 5 1, 3) := by decide +kernel
theorem dX7_worst_74 : decode cX7_worst 74 = .ok (.goto (-44), 3) := by decide +kernel
theorem dX7_worst_77 : decode cX7_worst 77 = .ok (.iload_n 3, 1) := by decide +kernel
theorem dX7_worst_78 : decode cX7_worst 78 = .ok (.ireturn, 1) := by decide +kernel
theorem dX7_birdiesOf_0 : decode cX7_birdiesOf 0 = .ok (.iconst 0, 1) := by decide +kernel
theorem dX7_birdiesOf_1 : decode cX7_birdiesOf 1 = .ok (.istore_n 2, 1) := by decide +kernel
theorem dX7_birdiesOf_2 : decode cX7_birdiesOf 2 = .ok (.iconst 0, 1) := by decide +kernel
theorem dX7_birdiesOf_3 : decode cX7_birdiesOf 3 = .ok (.istore_n 3, 1) := by decide +kernel
theorem dX7_birdiesOf_4 : decode cX7_birdiesOf 4 = .ok (.iload_n 3, 1) := by decide +kernel
theorem dX7_birdiesOf_5 : decode cX7_birdiesOf 5 = .ok (.aload_n 0, 1) := by decide +kernel
theorem dX7_birdiesOf_6 : decode cX7_birdiesOf 6 = .ok (.getfield 72, 3) := by decide +kernel
theorem dX7_birdiesOf_9 : decode cX7_birdiesOf 9 = .ok (.if_icmp .ge 58, 3) := by decide +kernel
theorem dX7_birdiesOf_12 : decode cX7_birdiesOf 12 = .ok (.iconst 2, 1) := by decide +kernel
theorem dX7_birdiesOf_13 : decode cX7_birdiesOf 13 = .ok (.istore 4, 2) := by decide +kernel
theorem dX7_birdiesOf_15 : decode cX7_birdiesOf 15 = .ok (.iload 4, 2) := by decide +kernel
theorem dX7_birdiesOf_17 : decode cX7_birdiesOf 17 = .ok (.aload_n 0, 1) := by decide +kernel
theorem dX7_birdiesOf_18 : decode cX7_birdiesOf 18 = .ok (.getfield 23, 3) := by decide +kernel
theorem dX7_birdiesOf_21 : decode cX7_birdiesOf 21 = .ok (.iconst 3, 1) := by decide +kernel
theorem dX7_birdiesOf_22 : decode cX7_birdiesOf 22 = .ok (.iadd, 1) := by decide +kernel
theorem dX7_birdiesOf_23 : decode cX7_birdiesOf 23 = .ok (.if_icmp .gt 38, 3) := by decide +kernel
theorem dX7_birdiesOf_26 : decode cX7_birdiesOf 26 = .ok (.iload_n 2, 1) := by decide +kernel
theorem dX7_birdiesOf_27 : decode cX7_birdiesOf 27 = .ok (.iload 4, 2) := by decide +kernel
theorem dX7_birdiesOf_29 : decode cX7_birdiesOf 29 = .ok (.iload_n 1, 1) := by decide +kernel
theorem dX7_birdiesOf_30 : decode cX7_birdiesOf 30 = .ok (.imul, 1) := by decide +kernel
theorem dX7_birdiesOf_31 : decode cX7_birdiesOf 31 = .ok (.aload_n 0, 1) := by decide +kernel
theorem dX7_birdiesOf_32 : decode cX7_birdiesOf 32 = .ok (.getfield 9, 3) := by decide +kernel
theorem dX7_birdiesOf_35 : decode cX7_birdiesOf 35 = .ok (.iload_n 3, 1) := by decide +kernel
theorem dX7_birdiesOf_36 : decode cX7_birdiesOf 36 = .ok (.iaload, 1) := by decide +kernel
theorem dX7_birdiesOf_37 : decode cX7_birdiesOf 37 = .ok (.isub, 1) := by decide +kernel
theorem dX7_birdiesOf_38 : decode cX7_birdiesOf 38 = .ok (.invokestatic 91, 3) := by decide +kernel
theorem dX7_birdiesOf_41 : decode cX7_birdiesOf 41 = .ok (.aload_n 0, 1) := by decide +kernel
theorem dX7_birdiesOf_42 : decode cX7_birdiesOf 42 = .ok (.getfield 26, 3) := by decide +kernel
theorem dX7_birdiesOf_45 : decode cX7_birdiesOf 45 = .ok (.if_icmp .gt 7, 3) := by decide +kernel
theorem dX7_birdiesOf_48 : decode cX7_birdiesOf 48 = .ok (.iconst 1, 1) := by decide +kernel
theorem dX7_birdiesOf_49 : decode cX7_birdiesOf 49 = .ok (.goto 4, 3) := by decide +kernel
theorem dX7_birdiesOf_52 : decode cX7_birdiesOf 52 = .ok (.iconst 0, 1) := by decide +kernel
theorem dX7_birdiesOf_53 : decode cX7_birdiesOf 53 = .ok (.iadd, 1) := by decide +kernel
theorem dX7_birdiesOf_54 : decode cX7_birdiesOf 54 = .ok (.istore_n 2, 1) := by decide +kernel
theorem dX7_birdiesOf_55 : decode cX7_birdiesOf 55 = .ok (.iinc 4 1, 3) := by decide +kernel
theorem dX7_birdiesOf_58 : decode cX7_birdiesOf 58 = .ok (.goto (-43), 3) := by decide +kernel
theorem dX7_birdiesOf_61 : decode cX7_birdiesOf 61 = .ok (.iinc 3 1, 3) := by decide +kernel
theorem dX7_birdiesOf_64 : decode cX7_birdiesOf 64 = .ok (.goto (-60), 3) := by decide +kernel
theorem dX7_birdiesOf_67 : decode cX7_birdiesOf 67 = .ok (.iload_n 2, 1) := by decide +kernel
theorem dX7_birdiesOf_68 : decode cX7_birdiesOf 68 = .ok (.ireturn, 1) := by decide +kernel
theorem dX7_birdies_0 : decode cX7_birdies 0 = .ok (.aload_n 0, 1) := by decide +kernel
theorem dX7_birdies_1 : decode cX7_birdies 1 = .ok (.aload_n 0, 1) := by decide +kernel
theorem dX7_birdies_2 : decode cX7_birdies 2 = .ok (.getfield 16, 3) := by decide +kernel
theorem dX7_birdies_5 : decode cX7_birdies 5 = .ok (.invokevirtual 119, 3) := by decide +kernel
theorem dX7_birdies_8 : decode cX7_birdies 8 = .ok (.ireturn, 1) := by decide +kernel
theorem dX7_loadOf_0 : decode cX7_loadOf 0 = .ok (.bipush 10, 2) := by decide +kernel
theorem dX7_loadOf_2 : decode cX7_loadOf 2 = .ok (.aload_n 0, 1) := by decide +kernel
theorem dX7_loadOf_3 : decode cX7_loadOf 3 = .ok (.iload_n 1, 1) := by decide +kernel
theorem dX7_loadOf_4 : decode cX7_loadOf 4 = .ok (.invokevirtual 119, 3) := by decide +kernel
theorem dX7_loadOf_7 : decode cX7_loadOf 7 = .ok (.imul, 1) := by decide +kernel
theorem dX7_loadOf_8 : decode cX7_loadOf 8 = .ok (.istore_n 2, 1) := by decide +kernel
theorem dX7_loadOf_9 : decode cX7_loadOf 9 = .ok (.iconst 0, 1) := by decide +kernel
theorem dX7_loadOf_10 : decode cX7_loadOf 10 = .ok (.istore_n 3, 1) := by decide +kernel
theorem dX7_loadOf_11 : decode cX7_loadOf 11 = .ok (.iload_n 3, 1) := by decide +kernel
theorem dX7_loadOf_12 : decode cX7_loadOf 12 = .ok (.aload_n 0, 1) := by decide +kernel
theorem dX7_loadOf_13 : decode cX7_loadOf 13 = .ok (.getfield 72, 3) := by decide +kernel
theorem dX7_loadOf_16 : decode cX7_loadOf 16 = .ok (.if_icmp .ge 153, 3) := by decide +kernel
theorem dX7_loadOf_19 : decode cX7_loadOf 19 = .ok (.iload_n 2, 1) := by decide +kernel
theorem dX7_loadOf_20 : decode cX7_loadOf 20 = .ok (.aload_n 0, 1) := by decide +kernel
theorem dX7_loadOf_21 : decode cX7_loadOf 21 = .ok (.iload_n 3, 1) := by decide +kernel
theorem dX7_loadOf_22 : decode cX7_loadOf 22 = .ok (.iload_n 1, 1) := by decide +kernel
theorem dX7_loadOf_23 : decode cX7_loadOf 23 = .ok (.invokevirtual 86, 3) := by decide +kernel
theorem dX7_loadOf_26 : decode cX7_loadOf 26 = .ok (.ifCond .gt 8, 3) := by decide +kernel
theorem dX7_loadOf_29 : decode cX7_loadOf 29 = .ok (.bipush 100, 2) := by decide +kernel
theorem dX7_loadOf_31 : decode cX7_loadOf 31 = .ok (.goto 4, 3) := by decide +kernel
theorem dX7_loadOf_34 : decode cX7_loadOf 34 = .ok (.iconst 0, 1) := by decide +kernel
theorem dX7_loadOf_35 : decode cX7_loadOf 35 = .ok (.iadd, 1) := by decide +kernel
theorem dX7_loadOf_36 : decode cX7_loadOf 36 = .ok (.istore_n 2, 1) := by decide +kernel
theorem dX7_loadOf_37 : decode cX7_loadOf 37 = .ok (.iconst 0, 1) := by decide +kernel
theorem dX7_loadOf_38 : decode cX7_loadOf 38 = .ok (.istore 4, 2) := by decide +kernel
theorem dX7_loadOf_40 : decode cX7_loadOf 40 = .ok (.iload 4, 2) := by decide +kernel
theorem dX7_loadOf_42 : decode cX7_loadOf 42 = .ok (.aload_n 0, 1) := by decide +kernel
theorem dX7_loadOf_43 : decode cX7_loadOf 43 = .ok (.getfield 72, 3) := by decide +kernel
theorem dX7_loadOf_46 : decode cX7_loadOf 46 = .ok (.if_icmp .ge 117, 3) := by decide +kernel
theorem dX7_loadOf_49 : decode cX7_loadOf 49 = .ok (.iconst 1, 1) := by decide +kernel
theorem dX7_loadOf_50 : decode cX7_loadOf 50 = .ok (.istore 5, 2) := by decide +kernel
theorem dX7_loadOf_52 : decode cX7_loadOf 52 = .ok (.iload 5, 2) := by decide +kernel
theorem dX7_loadOf_54 : decode cX7_loadOf 54 = .ok (.aload_n 0, 1) := by decide +kernel
theorem dX7_loadOf_55 : decode cX7_loadOf 55 = .ok (.getfield 23, 3) := by decide +kernel
theorem dX7_loadOf_58 : decode cX7_loadOf 58 = .ok (.if_icmp .gt 99, 3) := by decide +kernel
theorem dX7_loadOf_61 : decode cX7_loadOf 61 = .ok (.iconst 1, 1) := by decide +kernel
theorem dX7_loadOf_62 : decode cX7_loadOf 62 = .ok (.istore 6, 2) := by decide +kernel
theorem dX7_loadOf_64 : decode cX7_loadOf 64 = .ok (.iload 6, 2) := by decide +kernel
theorem dX7_loadOf_66 : decode cX7_loadOf 66 = .ok (.aload_n 0, 1) := by decide +kernel
theorem dX7_loadOf_67 : decode cX7_loadOf 67 = .ok (.getfield 23, 3) := by decide +kernel
theorem dX7_loadOf_70 : decode cX7_loadOf 70 = .ok (.if_icmp .gt 81, 3) := by decide +kernel
theorem dX7_loadOf_73 : decode cX7_loadOf 73 = .ok (.iload_n 2, 1) := by decide +kernel
theorem dX7_loadOf_74 : decode cX7_loadOf 74 = .ok (.aload_n 0, 1) := by decide +kernel
theorem dX7_loadOf_75 : decode cX7_loadOf 75 = .ok (.iload_n 3, 1) := by decide +kernel
theorem dX7_loadOf_76 : decode cX7_loadOf 76 = .ok (.iload_n 1, 1) := by decide +kernel
theorem dX7_loadOf_77 : decode cX7_loadOf 77 = .ok (.iload 4, 2) := by decide +kernel
theorem dX7_loadOf_79 : decode cX7_loadOf 79 = .ok (.iload 5, 2) := by decide +kernel
theorem dX7_loadOf_81 : decode cX7_loadOf 81 = .ok (.iload 6, 2) := by decide +kernel
theorem dX7_loadOf_83 : decode cX7_loadOf 83 = .ok (.iconst 1, 1) := by decide +kernel
theorem dX7_loadOf_84 : decode cX7_loadOf 84 = .ok (.invokevirtual 95, 3) := by decide +kernel
theorem dX7_loadOf_87 : decode cX7_loadOf 87 = .ok (.ifCond .eq 19, 3) := by decide +kernel
theorem dX7_loadOf_90 : decode cX7_loadOf 90 = .ok (.aload_n 0, 1) := by decide +kernel
theorem dX7_loadOf_91 : decode cX7_loadOf 91 = .ok (.getfield 13, 3) := by decide +kernel
theorem dX7_loadOf_94 : decode cX7_loadOf 94 = .ok (.iload 4, 2) := by decide +kernel
theorem dX7_loadOf_96 : decode cX7_loadOf 96 = .ok (.iaload, 1) := by decide +kernel
theorem dX7_loadOf_97 : decode cX7_loadOf 97 = .ok (.iload 5, 2) := by decide +kernel
theorem dX7_loadOf_99 : decode cX7_loadOf 99 = .ok (.iload 6, 2) := by decide +kernel
theorem dX7_loadOf_101 : decode cX7_loadOf 101 = .ok (.imul, 1) := by decide +kernel
theorem dX7_loadOf_102 : decode cX7_loadOf 102 = .ok (.idiv, 1) := by decide +kernel
theorem dX7_loadOf_103 : decode cX7_loadOf 103 = .ok (.goto 4, 3) := by decide +kernel
theorem dX7_loadOf_106 : decode cX7_loadOf 106 = .ok (.iconst 0, 1) := by decide +kernel
theorem dX7_loadOf_107 : decode cX7_loadOf 107 = .ok (.iadd, 1) := by decide +kernel
theorem dX7_loadOf_108 : decode cX7_loadOf 108 = .ok (.istore_n 2, 1) := by decide +kernel
theorem dX7_loadOf_109 : decode cX7_loadOf 109 = .ok (.iload_n 2, 1) := by decide +kernel
theorem dX7_loadOf_110 : decode cX7_loadOf 110 = .ok (.aload_n 0, 1) := by decide +kernel
theorem dX7_loadOf_111 : decode cX7_loadOf 111 = .ok (.iload_n 3, 1) := by decide +kernel
theorem dX7_loadOf_112 : decode cX7_loadOf 112 = .ok (.iload_n 1, 1) := by decide +kernel
theorem dX7_loadOf_113 : decode cX7_loadOf 113 = .ok (.iload 4, 2) := by decide +kernel
theorem dX7_loadOf_115 : decode cX7_loadOf 115 = .ok (.iload 5, 2) := by decide +kernel
theorem dX7_loadOf_117 : decode cX7_loadOf 117 = .ok (.iload 6, 2) := by decide +kernel
theorem dX7_loadOf_119 : decode cX7_loadOf 119 = .ok (.iconst 0, 1) := by decide +kernel
theorem dX7_loadOf_120 : decode cX7_loadOf 120 = .ok (.invokevirtual 95, 3) := by decide +kernel
theorem dX7_loadOf_123 : decode cX7_loadOf 123 = .ok (.ifCond .eq 19, 3) := by decide +kernel
theorem dX7_loadOf_126 : decode cX7_loadOf 126 = .ok (.aload_n 0, 1) := by decide +kernel
theorem dX7_loadOf_127 : decode cX7_loadOf 127 = .ok (.getfield 13, 3) := by decide +kernel
theorem dX7_loadOf_130 : decode cX7_loadOf 130 = .ok (.iload 4, 2) := by decide +kernel
theorem dX7_loadOf_132 : decode cX7_loadOf 132 = .ok (.iaload, 1) := by decide +kernel
theorem dX7_loadOf_133 : decode cX7_loadOf 133 = .ok (.iload 5, 2) := by decide +kernel
theorem dX7_loadOf_135 : decode cX7_loadOf 135 = .ok (.iload 6, 2) := by decide +kernel
theorem dX7_loadOf_137 : decode cX7_loadOf 137 = .ok (.imul, 1) := by decide +kernel
theorem dX7_loadOf_138 : decode cX7_loadOf 138 = .ok (.idiv, 1) := by decide +kernel
theorem dX7_loadOf_139 : decode cX7_loadOf 139 = .ok (.goto 4, 3) := by decide +kernel
theorem dX7_loadOf_142 : decode cX7_loadOf 142 = .ok (.iconst 0, 1) := by decide +kernel
theorem dX7_loadOf_143 : decode cX7_loadOf 143 = .ok (.iadd, 1) := by decide +kernel
theorem dX7_loadOf_144 : decode cX7_loadOf 144 = .ok (.istore_n 2, 1) := by decide +kernel
theorem dX7_loadOf_145 : decode cX7_loadOf 145 = .ok (.iinc 6 1, 3) := by decide +kernel
theorem dX7_loadOf_148 : decode cX7_loadOf 148 = .ok (.goto (-84), 3) := by decide +kernel
theorem dX7_loadOf_151 : decode cX7_loadOf 151 = .ok (.iinc 5 1, 3) := by decide +kernel
theorem dX7_loadOf_154 : decode cX7_loadOf 154 = .ok (.goto (-102), 3) := by decide +kernel
theorem dX7_loadOf_157 : decode cX7_loadOf 157 = .ok (.iinc 4 1, 3) := by decide +kernel
theorem dX7_loadOf_160 : decode cX7_loadOf 160 = .ok (.goto (-120), 3) := by decide +kernel
theorem dX7_loadOf_163 : decode cX7_loadOf 163 = .ok (.iinc 3 1, 3) := by decide +kernel
theorem dX7_loadOf_166 : decode cX7_loadOf 166 = .ok (.goto (-155), 3) := by decide +kernel
theorem dX7_loadOf_169 : decode cX7_loadOf 169 = .ok (.iload_n 2, 1) := by decide +kernel
theorem dX7_loadOf_170 : decode cX7_loadOf 170 = .ok (.ireturn, 1) := by decide +kernel
theorem dX7_load_0 : decode cX7_load 0 = .ok (.iload_n 1, 1) := by decide +kernel
theorem dX7_load_1 : decode cX7_load 1 = .ok (.invokestatic 79, 3) := by decide +kernel
theorem dX7_load_4 : decode cX7_load 4 = .ok (.ifCond .eq 11, 3) := by decide +kernel
theorem dX7_load_7 : decode cX7_load 7 = .ok (.aload_n 0, 1) := by decide +kernel
theorem dX7_load_8 : decode cX7_load 8 = .ok (.iload_n 1, 1) := by decide +kernel
theorem dX7_load_9 : decode cX7_load 9 = .ok (.invokevirtual 122, 3) := by decide +kernel
theorem dX7_load_12 : decode cX7_load 12 = .ok (.goto 4, 3) := by decide +kernel
theorem dX7_load_15 : decode cX7_load 15 = .ok (.iconst (-1), 1) := by decide +kernel
theorem dX7_load_16 : decode cX7_load 16 = .ok (.ireturn, 1) := by decide +kernel
theorem dX7_best_0 : decode cX7_best 0 = .ok (.iload_n 1, 1) := by decide +kernel
theorem dX7_best_1 : decode cX7_best 1 = .ok (.invokestatic 79, 3) := by decide +kernel
theorem dX7_best_4 : decode cX7_best 4 = .ok (.ifCond .eq 37, 3) := by decide +kernel
theorem dX7_best_7 : decode cX7_best 7 = .ok (.iload_n 2, 1) := by decide +kernel
theorem dX7_best_8 : decode cX7_best 8 = .ok (.iconst 1, 1) := by decide +kernel
theorem dX7_best_9 : decode cX7_best 9 = .ok (.bipush 99, 2) := by decide +kernel
theorem dX7_best_11 : decode cX7_best 11 = .ok (.invokestatic 75, 3) := by decide +kernel
theorem dX7_best_14 : decode cX7_best 14 = .ok (.ifCond .eq 27, 3) := by decide +kernel
theorem dX7_best_17 : decode cX7_best 17 = .ok (.iload_n 3, 1) := by decide +kernel
theorem dX7_best_18 : decode cX7_best 18 = .ok (.iconst 1, 1) := by decide +kernel
theorem dX7_best_19 : decode cX7_best 19 = .ok (.sipush 200, 3) := by decide +kernel
theorem dX7_best_22 : decode cX7_best 22 = .ok (.invokestatic 75, 3) := by decide +kernel
theorem dX7_best_25 : decode cX7_best 25 = .ok (.ifCond .eq 16, 3) := by decide +kernel
theorem dX7_best_28 : decode cX7_best 28 = .ok (.iload_n 1, 1) := by decide +kernel
theorem dX7_best_29 : decode cX7_best 29 = .ok (.iload_n 2, 1) := by decide +kernel
theorem dX7_best_30 : decode cX7_best 30 = .ok (.iload_n 3, 1) := by decide +kernel
theorem dX7_best_31 : decode cX7_best 31 = .ok (.iconst 1, 1) := by decide +kernel
theorem dX7_best_32 : decode cX7_best 32 = .ok (.isub, 1) := by decide +kernel
theorem dX7_best_33 : decode cX7_best 33 = .ok (.imul, 1) := by decide +kernel
theorem dX7_best_34 : decode cX7_best 34 = .ok (.iadd, 1) := by decide +kernel
theorem dX7_best_35 : decode cX7_best 35 = .ok (.sipush 900, 3) := by decide +kernel
theorem dX7_best_38 : decode cX7_best 38 = .ok (.if_icmp .le 5, 3) := by decide +kernel
theorem dX7_best_41 : decode cX7_best 41 = .ok (.iconst (-1), 1) := by decide +kernel
theorem dX7_best_42 : decode cX7_best 42 = .ok (.ireturn, 1) := by decide +kernel
theorem dX7_best_43 : decode cX7_best 43 = .ok (.iload_n 1, 1) := by decide +kernel
theorem dX7_best_44 : decode cX7_best 44 = .ok (.istore 4, 2) := by decide +kernel
theorem dX7_best_46 : decode cX7_best 46 = .ok (.aload_n 0, 1) := by decide +kernel
theorem dX7_best_47 : decode cX7_best 47 = .ok (.iload_n 1, 1) := by decide +kernel
theorem dX7_best_48 : decode cX7_best 48 = .ok (.invokevirtual 122, 3) := by decide +kernel
theorem dX7_best_51 : decode cX7_best 51 = .ok (.istore 5, 2) := by decide +kernel
theorem dX7_best_53 : decode cX7_best 53 = .ok (.iconst 1, 1) := by decide +kernel
theorem dX7_best_54 : decode cX7_best 54 = .ok (.istore 6, 2) := by decide +kernel
theorem dX7_best_56 : decode cX7_best 56 = .ok (.iload 6, 2) := by decide +kernel
theorem dX7_best_58 : decode cX7_best 58 = .ok (.iload_n 3, 1) := by decide +kernel
theorem dX7_best_59 : decode cX7_best 59 = .ok (.if_icmp .ge 40, 3) := by decide +kernel
theorem dX7_best_62 : decode cX7_best 62 = .ok (.aload_n 0, 1) := by decide +kernel
theorem dX7_best_63 : decode cX7_best 63 = .ok (.iload_n 1, 1) := by decide +kernel
theorem dX7_best_64 : decode cX7_best 64 = .ok (.iload_n 2, 1) := by decide +kernel
theorem dX7_best_65 : decode cX7_best 65 = .ok (.iload 6, 2) := by decide +kernel
theorem dX7_best_67 : decode cX7_best 67 = .ok (.imul, 1) := by decide +kernel
theorem dX7_best_68 : decode cX7_best 68 = .ok (.iadd, 1) := by decide +kernel
theorem dX7_best_69 : decode cX7_best 69 = .ok (.invokevirtual 122, 3) := by decide +kernel
theorem dX7_best_72 : decode cX7_best 72 = .ok (.istore 7, 2) := by decide +kernel
theorem dX7_best_74 : decode cX7_best 74 = .ok (.iload 7, 2) := by decide +kernel
theorem dX7_best_76 : decode cX7_best 76 = .ok (.iload 5, 2) := by decide +kernel
theorem dX7_best_78 : decode cX7_best 78 = .ok (.if_icmp .ge 15, 3) := by decide +kernel
theorem dX7_best_81 : decode cX7_best 81 = .ok (.iload_n 1, 1) := by decide +kernel
theorem dX7_best_82 : decode cX7_best 82 = .ok (.iload_n 2, 1) := by decide +kernel
theorem dX7_best_83 : decode cX7_best 83 = .ok (.iload 6, 2) := by decide +kernel
theorem dX7_best_85 : decode cX7_best 85 = .ok (.imul, 1) := by decide +kernel
theorem dX7_best_86 : decode cX7_best 86 = .ok (.iadd, 1) := by decide +kernel
theorem dX7_best_87 : decode cX7_best 87 = .ok (.istore 4, 2) := by decide +kernel
theorem dX7_best_89 : decode cX7_best 89 = .ok (.iload 7, 2) := by decide +kernel
theorem dX7_best_91 : decode cX7_best 91 = .ok (.istore 5, 2) := by decide +kernel
theorem dX7_best_93 : decode cX7_best 93 = .ok (.iinc 6 1, 3) := by decide +kernel
theorem dX7_best_96 : decode cX7_best 96 = .ok (.goto (-40), 3) := by decide +kernel
theorem dX7_best_99 : decode cX7_best 99 = .ok (.iload 4, 2) := by decide +kernel
theorem dX7_best_101 : decode cX7_best 101 = .ok (.ireturn, 1) := by decide +kernel
theorem dX7_isPlace_0 : decode cX7_isPlace 0 = .ok (.iload_n 0, 1) := by decide +kernel
theorem dX7_isPlace_1 : decode cX7_isPlace 1 = .ok (.iconst 0, 1) := by decide +kernel
theorem dX7_isPlace_2 : decode cX7_isPlace 2 = .ok (.bipush 100, 2) := by decide +kernel
theorem dX7_isPlace_4 : decode cX7_isPlace 4 = .ok (.invokestatic 75, 3) := by decide +kernel
theorem dX7_isPlace_7 : decode cX7_isPlace 7 = .ok (.ireturn, 1) := by decide +kernel
theorem dX7_gang_0 : decode cX7_gang 0 = .ok (.iload_n 1, 1) := by decide +kernel
theorem dX7_gang_1 : decode cX7_gang 1 = .ok (.bipush 10, 2) := by decide +kernel
theorem dX7_gang_3 : decode cX7_gang 3 = .ok (.sipush 999, 3) := by decide +kernel
theorem dX7_gang_6 : decode cX7_gang 6 = .ok (.invokestatic 75, 3) := by decide +kernel
theorem dX7_gang_9 : decode cX7_gang 9 = .ok (.ifCond .eq 15, 3) := by decide +kernel
theorem dX7_gang_12 : decode cX7_gang 12 = .ok (.iload_n 2, 1) := by decide +kernel
theorem dX7_gang_13 : decode cX7_gang 13 = .ok (.bipush 10, 2) := by decide +kernel
theorem dX7_gang_15 : decode cX7_gang 15 = .ok (.sipush 999, 3) := by decide +kernel
theorem dX7_gang_18 : decode cX7_gang 18 = .ok (.invokestatic 75, 3) := by decide +kernel
theorem dX7_gang_21 : decode cX7_gang 21 = .ok (.ifCond .ne 5, 3) := by decide +kernel
theorem dX7_gang_24 : decode cX7_gang 24 = .ok (.iconst (-1), 1) := by decide +kernel
theorem dX7_gang_25 : decode cX7_gang 25 = .ok (.ireturn, 1) := by decide +kernel
theorem dX7_gang_26 : decode cX7_gang 26 = .ok (.aload_n 0, 1) := by decide +kernel
theorem dX7_gang_27 : decode cX7_gang 27 = .ok (.iload_n 1, 1) := by decide +kernel
theorem dX7_gang_28 : decode cX7_gang 28 = .ok (.putfield 29, 3) := by decide +kernel
theorem dX7_gang_31 : decode cX7_gang 31 = .ok (.aload_n 0, 1) := by decide +kernel
theorem dX7_gang_32 : decode cX7_gang 32 = .ok (.iload_n 2, 1) := by decide +kernel
theorem dX7_gang_33 : decode cX7_gang 33 = .ok (.putfield 32, 3) := by decide +kernel
theorem dX7_gang_36 : decode cX7_gang 36 = .ok (.iconst 1, 1) := by decide +kernel
theorem dX7_gang_37 : decode cX7_gang 37 = .ok (.ireturn, 1) := by decide +kernel
theorem dX7_isPart_0 : decode cX7_isPart 0 = .ok (.iload_n 0, 1) := by decide +kernel
theorem dX7_isPart_1 : decode cX7_isPart 1 = .ok (.iconst 0, 1) := by decide +kernel
theorem dX7_isPart_2 : decode cX7_isPart 2 = .ok (.iconst 1, 1) := by decide +kernel
theorem dX7_isPart_3 : decode cX7_isPart 3 = .ok (.invokestatic 75, 3) := by decide +kernel
theorem dX7_isPart_6 : decode cX7_isPart 6 = .ok (.ifCond .eq 13, 3) := by decide +kernel
theorem dX7_isPart_9 : decode cX7_isPart 9 = .ok (.iload_n 1, 1) := by decide +kernel
theorem dX7_isPart_10 : decode cX7_isPart 10 = .ok (.iconst 0, 1) := by decide +kernel
theorem dX7_isPart_11 : decode cX7_isPart 11 = .ok (.bipush 99, 2) := by decide +kernel
theorem dX7_isPart_13 : decode cX7_isPart 13 = .ok (.invokestatic 75, 3) := by decide +kernel
theorem dX7_isPart_16 : decode cX7_isPart 16 = .ok (.ifCond .ne 23, 3) := by decide +kernel
theorem dX7_isPart_19 : decode cX7_isPart 19 = .ok (.iload_n 0, 1) := by decide +kernel
theorem dX7_isPart_20 : decode cX7_isPart 20 = .ok (.iconst 2, 1) := by decide +kernel
theorem dX7_isPart_21 : decode cX7_isPart 21 = .ok (.iconst 4, 1) := by decide +kernel
theorem dX7_isPart_22 : decode cX7_isPart 22 = .ok (.invokestatic 75, 3) := by decide +kernel
theorem dX7_isPart_25 : decode cX7_isPart 25 = .ok (.ifCond .eq 18, 3) := by decide +kernel
theorem dX7_isPart_28 : decode cX7_isPart 28 = .ok (.iload_n 1, 1) := by decide +kernel
theorem dX7_isPart_29 : decode cX7_isPart 29 = .ok (.iconst 1, 1) := by decide +kernel
theorem dX7_isPart_30 : decode cX7_isPart 30 = .ok (.sipush 9999, 3) := by decide +kernel
theorem dX7_isPart_33 : decode cX7_isPart 33 = .ok (.invokestatic 75, 3) := by decide +kernel
theorem dX7_isPart_36 : decode cX7_isPart 36 = .ok (.ifCond .eq 7, 3) := by decide +kernel
theorem dX7_isPart_39 : decode cX7_isPart 39 = .ok (.iconst 1, 1) := by decide +kernel
theorem dX7_isPart_40 : decode cX7_isPart 40 = .ok (.goto 4, 3) := by decide +kernel
theorem dX7_isPart_43 : decode cX7_isPart 43 = .ok (.iconst 0, 1) := by decide +kernel
theorem dX7_isPart_44 : decode cX7_isPart 44 = .ok (.ireturn, 1) := by decide +kernel
theorem dX7_part_0 : decode cX7_part 0 = .ok (.iload_n 1, 1) := by decide +kernel
theorem dX7_part_1 : decode cX7_part 1 = .ok (.iload_n 2, 1) := by decide +kernel
theorem dX7_part_2 : decode cX7_part 2 = .ok (.invokestatic 125, 3) := by decide +kernel
theorem dX7_part_5 : decode cX7_part 5 = .ok (.ifCond .ne 5, 3) := by decide +kernel
theorem dX7_part_8 : decode cX7_part 8 = .ok (.iconst (-1), 1) := by decide +kernel
theorem dX7_part_9 : decode cX7_part 9 = .ok (.ireturn, 1) := by decide +kernel
theorem dX7_part_10 : decode cX7_part 10 = .ok (.aload_n 0, 1) := by decide +kernel
theorem dX7_part_11 : decode cX7_part 11 = .ok (.getfield 35, 3) := by decide +kernel
theorem dX7_part_14 : decode cX7_part 14 = .ok (.iload_n 1, 1) := by decide +kernel
end
section
theorem dX7_part_15 : decode cX7_part 15 = .ok (.iaload, 1) := by decide +kernel
theorem dX7_part_16 : decode cX7_part 16 = .ok (.istore_n 3, 1) := by decide +kernel
theorem dX7_part_17 : decode cX7_part 17 = .ok (.aload_n 0, 1) := by decide +kernel
theorem dX7_part_18 : decode cX7_part 18 = .ok (.getfield 35, 3) := by decide +kernel
theorem dX7_part_21 : decode cX7_part 21 = .ok (.iload_n 1, 1) := by decide +kernel
theorem dX7_part_22 : decode cX7_part 22 = .ok (.iload_n 2, 1) := by decide +kernel
theorem dX7_part_23 : decode cX7_part 23 = .ok (.iastore, 1) := by decide +kernel
theorem dX7_part_24 : decode cX7_part 24 = .ok (.iload_n 3, 1) := by decide +kernel
theorem dX7_part_25 : decode cX7_part 25 = .ok (.ireturn, 1) := by decide +kernel
theorem dX7_gangAt_0 : decode cX7_gangAt 0 = .ok (.aload_n 0, 1) := by decide +kernel
theorem dX7_gangAt_1 : decode cX7_gangAt 1 = .ok (.getfield 29, 3) := by decide +kernel
theorem dX7_gangAt_4 : decode cX7_gangAt 4 = .ok (.aload_n 0, 1) := by decide +kernel
theorem dX7_gangAt_5 : decode cX7_gangAt 5 = .ok (.getfield 32, 3) := by decide +kernel
theorem dX7_gangAt_8 : decode cX7_gangAt 8 = .ok (.aload_n 0, 1) := by decide +kernel
theorem dX7_gangAt_9 : decode cX7_gangAt 9 = .ok (.getfield 29, 3) := by decide +kernel
theorem dX7_gangAt_12 : decode cX7_gangAt 12 = .ok (.isub, 1) := by decide +kernel
theorem dX7_gangAt_13 : decode cX7_gangAt 13 = .ok (.iload_n 1, 1) := by decide +kernel
theorem dX7_gangAt_14 : decode cX7_gangAt 14 = .ok (.imul, 1) := by decide +kernel
theorem dX7_gangAt_15 : decode cX7_gangAt 15 = .ok (.bipush 100, 2) := by decide +kernel
theorem dX7_gangAt_17 : decode cX7_gangAt 17 = .ok (.idiv, 1) := by decide +kernel
theorem dX7_gangAt_18 : decode cX7_gangAt 18 = .ok (.iadd, 1) := by decide +kernel
theorem dX7_gangAt_19 : decode cX7_gangAt 19 = .ok (.ireturn, 1) := by decide +kernel
theorem dX7_root_0 : decode cX7_root 0 = .ok (.lconst 0, 1) := by decide +kernel
theorem dX7_root_1 : decode cX7_root 1 = .ok (.lstore_n 2, 1) := by decide +kernel
theorem dX7_root_2 : decode cX7_root 2 = .ok (.ldc2_w 129, 3) := by decide +kernel
theorem dX7_root_5 : decode cX7_root 5 = .ok (.lstore 4, 2) := by decide +kernel
theorem dX7_root_7 : decode cX7_root 7 = .ok (.lload_n 2, 1) := by decide +kernel
theorem dX7_root_8 : decode cX7_root 8 = .ok (.lload 4, 2) := by decide +kernel
theorem dX7_root_10 : decode cX7_root 10 = .ok (.lcmp, 1) := by decide +kernel
theorem dX7_root_11 : decode cX7_root 11 = .ok (.ifCond .ge 40, 3) := by decide +kernel
theorem dX7_root_14 : decode cX7_root 14 = .ok (.lload_n 2, 1) := by decide +kernel
theorem dX7_root_15 : decode cX7_root 15 = .ok (.lload 4, 2) := by decide +kernel
theorem dX7_root_17 : decode cX7_root 17 = .ok (.ladd, 1) := by decide +kernel
theorem dX7_root_18 : decode cX7_root 18 = .ok (.lconst 1, 1) := by decide +kernel
theorem dX7_root_19 : decode cX7_root 19 = .ok (.ladd, 1) := by decide +kernel
theorem dX7_root_20 : decode cX7_root 20 = .ok (.ldc2_w 131, 3) := by decide +kernel
theorem dX7_root_23 : decode cX7_root 23 = .ok (.ldiv, 1) := by decide +kernel
theorem dX7_root_24 : decode cX7_root 24 = .ok (.lstore 6, 2) := by decide +kernel
theorem dX7_root_26 : decode cX7_root 26 = .ok (.lload 6, 2) := by decide +kernel
theorem dX7_root_28 : decode cX7_root 28 = .ok (.lload 6, 2) := by decide +kernel
theorem dX7_root_30 : decode cX7_root 30 = .ok (.lmul, 1) := by decide +kernel
theorem dX7_root_31 : decode cX7_root 31 = .ok (.lload_n 0, 1) := by decide +kernel
theorem dX7_root_32 : decode cX7_root 32 = .ok (.lcmp, 1) := by decide +kernel
theorem dX7_root_33 : decode cX7_root 33 = .ok (.ifCond .gt 9, 3) := by decide +kernel
theorem dX7_root_36 : decode cX7_root 36 = .ok (.lload 6, 2) := by decide +kernel
theorem dX7_root_38 : decode cX7_root 38 = .ok (.lstore_n 2, 1) := by decide +kernel
theorem dX7_root_39 : decode cX7_root 39 = .ok (.goto 9, 3) := by decide +kernel
theorem dX7_root_42 : decode cX7_root 42 = .ok (.lload 6, 2) := by decide +kernel
theorem dX7_root_44 : decode cX7_root 44 = .ok (.lconst 1, 1) := by decide +kernel
theorem dX7_root_45 : decode cX7_root 45 = .ok (.lsub, 1) := by decide +kernel
theorem dX7_root_46 : decode cX7_root 46 = .ok (.lstore 4, 2) := by decide +kernel
theorem dX7_root_48 : decode cX7_root 48 = .ok (.goto (-41), 3) := by decide +kernel
theorem dX7_root_51 : decode cX7_root 51 = .ok (.lload_n 2, 1) := by decide +kernel
theorem dX7_root_52 : decode cX7_root 52 = .ok (.l2i, 1) := by decide +kernel
theorem dX7_root_53 : decode cX7_root 53 = .ok (.ireturn, 1) := by decide +kernel
theorem dX7_tunedTo_0 : decode cX7_tunedTo 0 = .ok (.ldc2_w 133, 3) := by decide +kernel
theorem dX7_tunedTo_3 : decode cX7_tunedTo 3 = .ok (.iload_n 0, 1) := by decide +kernel
theorem dX7_tunedTo_4 : decode cX7_tunedTo 4 = .ok (.i2l, 1) := by decide +kernel
theorem dX7_tunedTo_5 : decode cX7_tunedTo 5 = .ok (.iload_n 1, 1) := by decide +kernel
theorem dX7_tunedTo_6 : decode cX7_tunedTo 6 = .ok (.i2l, 1) := by decide +kernel
theorem dX7_tunedTo_7 : decode cX7_tunedTo 7 = .ok (.lmul, 1) := by decide +kernel
theorem dX7_tunedTo_8 : decode cX7_tunedTo 8 = .ok (.ldiv, 1) := by decide +kernel
theorem dX7_tunedTo_9 : decode cX7_tunedTo 9 = .ok (.invokestatic 135, 3) := by decide +kernel
theorem dX7_tunedTo_12 : decode cX7_tunedTo 12 = .ok (.ireturn, 1) := by decide +kernel
theorem dX7_signalAt_0 : decode cX7_signalAt 0 = .ok (.iload_n 3, 1) := by decide +kernel
theorem dX7_signalAt_1 : decode cX7_signalAt 1 = .ok (.aload_n 0, 1) := by decide +kernel
theorem dX7_signalAt_2 : decode cX7_signalAt 2 = .ok (.iload_n 1, 1) := by decide +kernel
theorem dX7_signalAt_3 : decode cX7_signalAt 3 = .ok (.invokevirtual 139, 3) := by decide +kernel
theorem dX7_signalAt_6 : decode cX7_signalAt 6 = .ok (.iload_n 2, 1) := by decide +kernel
theorem dX7_signalAt_7 : decode cX7_signalAt 7 = .ok (.iadd, 1) := by decide +kernel
theorem dX7_signalAt_8 : decode cX7_signalAt 8 = .ok (.invokestatic 142, 3) := by decide +kernel
theorem dX7_signalAt_11 : decode cX7_signalAt 11 = .ok (.ireturn, 1) := by decide +kernel
theorem dX7_oscillatorAt_0 : decode cX7_oscillatorAt 0 = .ok (.aload_n 0, 1) := by decide +kernel
theorem dX7_oscillatorAt_1 : decode cX7_oscillatorAt 1 = .ok (.iload_n 1, 1) := by decide +kernel
theorem dX7_oscillatorAt_2 : decode cX7_oscillatorAt 2 = .ok (.invokevirtual 139, 3) := by decide +kernel
theorem dX7_oscillatorAt_5 : decode cX7_oscillatorAt 5 = .ok (.iload_n 2, 1) := by decide +kernel
theorem dX7_oscillatorAt_6 : decode cX7_oscillatorAt 6 = .ok (.iadd, 1) := by decide +kernel
theorem dX7_oscillatorAt_7 : decode cX7_oscillatorAt 7 = .ok (.istore 5, 2) := by decide +kernel
theorem dX7_oscillatorAt_9 : decode cX7_oscillatorAt 9 = .ok (.iload_n 3, 1) := by decide +kernel
theorem dX7_oscillatorAt_10 : decode cX7_oscillatorAt 10 = .ok (.i2l, 1) := by decide +kernel
theorem dX7_oscillatorAt_11 : decode cX7_oscillatorAt 11 = .ok (.iload 5, 2) := by decide +kernel
theorem dX7_oscillatorAt_13 : decode cX7_oscillatorAt 13 = .ok (.i2l, 1) := by decide +kernel
theorem dX7_oscillatorAt_14 : decode cX7_oscillatorAt 14 = .ok (.lmul, 1) := by decide +kernel
theorem dX7_oscillatorAt_15 : decode cX7_oscillatorAt 15 = .ok (.iload_n 3, 1) := by decide +kernel
theorem dX7_oscillatorAt_16 : decode cX7_oscillatorAt 16 = .ok (.iload 5, 2) := by decide +kernel
theorem dX7_oscillatorAt_18 : decode cX7_oscillatorAt 18 = .ok (.iadd, 1) := by decide +kernel
theorem dX7_oscillatorAt_19 : decode cX7_oscillatorAt 19 = .ok (.i2l, 1) := by decide +kernel
theorem dX7_oscillatorAt_20 : decode cX7_oscillatorAt 20 = .ok (.ldiv, 1) := by decide +kernel
theorem dX7_oscillatorAt_21 : decode cX7_oscillatorAt 21 = .ok (.l2i, 1) := by decide +kernel
theorem dX7_oscillatorAt_22 : decode cX7_oscillatorAt 22 = .ok (.istore 6, 2) := by decide +kernel
theorem dX7_oscillatorAt_24 : decode cX7_oscillatorAt 24 = .ok (.iload 4, 2) := by decide +kernel
theorem dX7_oscillatorAt_26 : decode cX7_oscillatorAt 26 = .ok (.iload 6, 2) := by decide +kernel
theorem dX7_oscillatorAt_28 : decode cX7_oscillatorAt 28 = .ok (.iconst 1, 1) := by decide +kernel
theorem dX7_oscillatorAt_29 : decode cX7_oscillatorAt 29 = .ok (.if_icmp .ge 7, 3) := by decide +kernel
theorem dX7_oscillatorAt_32 : decode cX7_oscillatorAt 32 = .ok (.iconst 1, 1) := by decide +kernel
theorem dX7_oscillatorAt_33 : decode cX7_oscillatorAt 33 = .ok (.goto 5, 3) := by decide +kernel
theorem dX7_oscillatorAt_36 : decode cX7_oscillatorAt 36 = .ok (.iload 6, 2) := by decide +kernel
theorem dX7_oscillatorAt_38 : decode cX7_oscillatorAt 38 = .ok (.invokestatic 142, 3) := by decide +kernel
theorem dX7_oscillatorAt_41 : decode cX7_oscillatorAt 41 = .ok (.ireturn, 1) := by decide +kernel
theorem dX7_errorBy_0 : decode cX7_errorBy 0 = .ok (.aload_n 0, 1) := by decide +kernel
theorem dX7_errorBy_1 : decode cX7_errorBy 1 = .ok (.getfield 20, 3) := by decide +kernel
theorem dX7_errorBy_4 : decode cX7_errorBy 4 = .ok (.iconst 1, 1) := by decide +kernel
theorem dX7_errorBy_5 : decode cX7_errorBy 5 = .ok (.if_icmp .ne 11, 3) := by decide +kernel
theorem dX7_errorBy_8 : decode cX7_errorBy 8 = .ok (.iload_n 2, 1) := by decide +kernel
theorem dX7_errorBy_9 : decode cX7_errorBy 9 = .ok (.iload_n 1, 1) := by decide +kernel
theorem dX7_errorBy_10 : decode cX7_errorBy 10 = .ok (.isub, 1) := by decide +kernel
theorem dX7_errorBy_11 : decode cX7_errorBy 11 = .ok (.iload_n 3, 1) := by decide +kernel
theorem dX7_errorBy_12 : decode cX7_errorBy 12 = .ok (.isub, 1) := by decide +kernel
theorem dX7_errorBy_13 : decode cX7_errorBy 13 = .ok (.goto 8, 3) := by decide +kernel
theorem dX7_errorBy_16 : decode cX7_errorBy 16 = .ok (.iload_n 1, 1) := by decide +kernel
theorem dX7_errorBy_17 : decode cX7_errorBy 17 = .ok (.iload_n 2, 1) := by decide +kernel
theorem dX7_errorBy_18 : decode cX7_errorBy 18 = .ok (.isub, 1) := by decide +kernel
theorem dX7_errorBy_19 : decode cX7_errorBy 19 = .ok (.iload_n 3, 1) := by decide +kernel
theorem dX7_errorBy_20 : decode cX7_errorBy 20 = .ok (.isub, 1) := by decide +kernel
theorem dX7_errorBy_21 : decode cX7_errorBy 21 = .ok (.ireturn, 1) := by decide +kernel
theorem dX7_errorAt_0 : decode cX7_errorAt 0 = .ok (.aload_n 0, 1) := by decide +kernel
theorem dX7_errorAt_1 : decode cX7_errorAt 1 = .ok (.aload_n 0, 1) := by decide +kernel
theorem dX7_errorAt_2 : decode cX7_errorAt 2 = .ok (.iload_n 1, 1) := by decide +kernel
theorem dX7_errorAt_3 : decode cX7_errorAt 3 = .ok (.iload_n 2, 1) := by decide +kernel
theorem dX7_errorAt_4 : decode cX7_errorAt 4 = .ok (.iload 5, 2) := by decide +kernel
theorem dX7_errorAt_6 : decode cX7_errorAt 6 = .ok (.invokevirtual 145, 3) := by decide +kernel
theorem dX7_errorAt_9 : decode cX7_errorAt 9 = .ok (.aload_n 0, 1) := by decide +kernel
theorem dX7_errorAt_10 : decode cX7_errorAt 10 = .ok (.iload_n 1, 1) := by decide +kernel
theorem dX7_errorAt_11 : decode cX7_errorAt 11 = .ok (.iload_n 3, 1) := by decide +kernel
theorem dX7_errorAt_12 : decode cX7_errorAt 12 = .ok (.iload 4, 2) := by decide +kernel
theorem dX7_errorAt_14 : decode cX7_errorAt 14 = .ok (.iload 6, 2) := by decide +kernel
theorem dX7_errorAt_16 : decode cX7_errorAt 16 = .ok (.invokevirtual 148, 3) := by decide +kernel
theorem dX7_errorAt_19 : decode cX7_errorAt 19 = .ok (.iload 7, 2) := by decide +kernel
theorem dX7_errorAt_21 : decode cX7_errorAt 21 = .ok (.invokevirtual 152, 3) := by decide +kernel
theorem dX7_errorAt_24 : decode cX7_errorAt 24 = .ok (.ireturn, 1) := by decide +kernel
theorem dX7_tuned_0 : decode cX7_tuned 0 = .ok (.iload_n 1, 1) := by decide +kernel
theorem dX7_tuned_1 : decode cX7_tuned 1 = .ok (.invokestatic 155, 3) := by decide +kernel
theorem dX7_tuned_4 : decode cX7_tuned 4 = .ok (.ifCond .eq 12, 3) := by decide +kernel
theorem dX7_tuned_7 : decode cX7_tuned 7 = .ok (.iload_n 2, 1) := by decide +kernel
theorem dX7_tuned_8 : decode cX7_tuned 8 = .ok (.iconst 0, 1) := by decide +kernel
theorem dX7_tuned_9 : decode cX7_tuned 9 = .ok (.iconst 2, 1) := by decide +kernel
theorem dX7_tuned_10 : decode cX7_tuned 10 = .ok (.invokestatic 75, 3) := by decide +kernel
theorem dX7_tuned_13 : decode cX7_tuned 13 = .ok (.ifCond .ne 5, 3) := by decide +kernel
theorem dX7_tuned_16 : decode cX7_tuned 16 = .ok (.iconst (-1), 1) := by decide +kernel
theorem dX7_tuned_17 : decode cX7_tuned 17 = .ok (.ireturn, 1) := by decide +kernel
theorem dX7_tuned_18 : decode cX7_tuned 18 = .ok (.iload_n 2, 1) := by decide +kernel
theorem dX7_tuned_19 : decode cX7_tuned 19 = .ok (.ifCond .ne 23, 3) := by decide +kernel
theorem dX7_tuned_22 : decode cX7_tuned 22 = .ok (.aload_n 0, 1) := by decide +kernel
theorem dX7_tuned_23 : decode cX7_tuned 23 = .ok (.iload_n 1, 1) := by decide +kernel
theorem dX7_tuned_24 : decode cX7_tuned 24 = .ok (.aload_n 0, 1) := by decide +kernel
theorem dX7_tuned_25 : decode cX7_tuned 25 = .ok (.getfield 35, 3) := by decide +kernel
theorem dX7_tuned_28 : decode cX7_tuned 28 = .ok (.iconst 0, 1) := by decide +kernel
theorem dX7_tuned_29 : decode cX7_tuned 29 = .ok (.iaload, 1) := by decide +kernel
theorem dX7_tuned_30 : decode cX7_tuned 30 = .ok (.aload_n 0, 1) := by decide +kernel
theorem dX7_tuned_31 : decode cX7_tuned 31 = .ok (.getfield 35, 3) := by decide +kernel
theorem dX7_tuned_34 : decode cX7_tuned 34 = .ok (.iconst 3, 1) := by decide +kernel
theorem dX7_tuned_35 : decode cX7_tuned 35 = .ok (.iaload, 1) := by decide +kernel
theorem dX7_tuned_36 : decode cX7_tuned 36 = .ok (.invokevirtual 145, 3) := by decide +kernel
theorem dX7_tuned_39 : decode cX7_tuned 39 = .ok (.goto 39, 3) := by decide +kernel
theorem dX7_tuned_42 : decode cX7_tuned 42 = .ok (.iload_n 2, 1) := by decide +kernel
theorem dX7_tuned_43 : decode cX7_tuned 43 = .ok (.iconst 1, 1) := by decide +kernel
theorem dX7_tuned_44 : decode cX7_tuned 44 = .ok (.if_icmp .ne 29, 3) := by decide +kernel
theorem dX7_tuned_47 : decode cX7_tuned 47 = .ok (.aload_n 0, 1) := by decide +kernel
theorem dX7_tuned_48 : decode cX7_tuned 48 = .ok (.iload_n 1, 1) := by decide +kernel
theorem dX7_tuned_49 : decode cX7_tuned 49 = .ok (.aload_n 0, 1) := by decide +kernel
theorem dX7_tuned_50 : decode cX7_tuned 50 = .ok (.getfield 35, 3) := by decide +kernel
theorem dX7_tuned_53 : decode cX7_tuned 53 = .ok (.iconst 1, 1) := by decide +kernel
theorem dX7_tuned_54 : decode cX7_tuned 54 = .ok (.iaload, 1) := by decide +kernel
theorem dX7_tuned_55 : decode cX7_tuned 55 = .ok (.aload_n 0, 1) := by decide +kernel
theorem dX7_tuned_56 : decode cX7_tuned 56 = .ok (.getfield 35, 3) := by decide +kernel
theorem dX7_tuned_59 : decode cX7_tuned 59 = .ok (.iconst 2, 1) := by decide +kernel
theorem dX7_tuned_60 : decode cX7_tuned 60 = .ok (.iaload, 1) := by decide +kernel
theorem dX7_tuned_61 : decode cX7_tuned 61 = .ok (.aload_n 0, 1) := by decide +kernel
theorem dX7_tuned_62 : decode cX7_tuned 62 = .ok (.getfield 35, 3) := by decide +kernel
theorem dX7_tuned_65 : decode cX7_tuned 65 = .ok (.iconst 4, 1) := by decide +kernel
theorem dX7_tuned_66 : decode cX7_tuned 66 = .ok (.iaload, 1) := by decide +kernel
theorem dX7_tuned_67 : decode cX7_tuned 67 = .ok (.invokevirtual 148, 3) := by decide +kernel
theorem dX7_tuned_70 : decode cX7_tuned 70 = .ok (.goto 8, 3) := by decide +kernel
theorem dX7_tuned_73 : decode cX7_tuned 73 = .ok (.aload_n 0, 1) := by decide +kernel
theorem dX7_tuned_74 : decode cX7_tuned 74 = .ok (.iload_n 1, 1) := by decide +kernel
theorem dX7_tuned_75 : decode cX7_tuned 75 = .ok (.invokevirtual 139, 3) := by decide +kernel
theorem dX7_tuned_78 : decode cX7_tuned 78 = .ok (.ireturn, 1) := by decide +kernel
theorem dX7_error_0 : decode cX7_error 0 = .ok (.iload_n 1, 1) := by decide +kernel
theorem dX7_error_1 : decode cX7_error 1 = .ok (.invokestatic 155, 3) := by decide +kernel
theorem dX7_error_4 : decode cX7_error 4 = .ok (.ifCond .eq 45, 3) := by decide +kernel
theorem dX7_error_7 : decode cX7_error 7 = .ok (.aload_n 0, 1) := by decide +kernel
theorem dX7_error_8 : decode cX7_error 8 = .ok (.iload_n 1, 1) := by decide +kernel
theorem dX7_error_9 : decode cX7_error 9 = .ok (.aload_n 0, 1) := by decide +kernel
theorem dX7_error_10 : decode cX7_error 10 = .ok (.getfield 35, 3) := by decide +kernel
theorem dX7_error_13 : decode cX7_error 13 = .ok (.iconst 0, 1) := by decide +kernel
theorem dX7_error_14 : decode cX7_error 14 = .ok (.iaload, 1) := by decide +kernel
theorem dX7_error_15 : decode cX7_error 15 = .ok (.aload_n 0, 1) := by decide +kernel
theorem dX7_error_16 : decode cX7_error 16 = .ok (.getfield 35, 3) := by decide +kernel
theorem dX7_error_19 : decode cX7_error 19 = .ok (.iconst 1, 1) := by decide +kernel
theorem dX7_error_20 : decode cX7_error 20 = .ok (.iaload, 1) := by decide +kernel
theorem dX7_error_21 : decode cX7_error 21 = .ok (.aload_n 0, 1) := by decide +kernel
theorem dX7_error_22 : decode cX7_error 22 = .ok (.getfield 35, 3) := by decide +kernel
theorem dX7_error_25 : decode cX7_error 25 = .ok (.iconst 2, 1) := by decide +kernel
theorem dX7_error_26 : decode cX7_error 26 = .ok (.iaload, 1) := by decide +kernel
theorem dX7_error_27 : decode cX7_error 27 = .ok (.aload_n 0, 1) := by decide +kernel
theorem dX7_error_28 : decode cX7_error 28 = .ok (.getfield 35, 3) := by decide +kernel
theorem dX7_error_31 : decode cX7_error 31 = .ok (.iconst 3, 1) := by decide +kernel
theorem dX7_error_32 : decode cX7_error 32 = .ok (.iaload, 1) := by decide +kernel
theorem dX7_error_33 : decode cX7_error 33 = .ok (.aload_n 0, 1) := by decide +kernel
theorem dX7_error_34 : decode cX7_error 34 = .ok (.getfield 35, 3) := by decide +kernel
theorem dX7_error_37 : decode cX7_error 37 = .ok (.iconst 4, 1) := by decide +kernel
theorem dX7_error_38 : decode cX7_error 38 = .ok (.iaload, 1) := by decide +kernel
theorem dX7_error_39 : decode cX7_error 39 = .ok (.aload_n 0, 1) := by decide +kernel
theorem dX7_error_40 : decode cX7_error 40 = .ok (.getfield 16, 3) := by decide +kernel
theorem dX7_error_43 : decode cX7_error 43 = .ok (.invokevirtual 158, 3) := by decide +kernel
theorem dX7_error_46 : decode cX7_error 46 = .ok (.goto 5, 3) := by decide +kernel
theorem dX7_error_49 : decode cX7_error 49 = .ok (.ldc 90, 2) := by decide +kernel
theorem dX7_error_51 : decode cX7_error 51 = .ok (.ireturn, 1) := by decide +kernel
theorem dX7_point_0 : decode cX7_point 0 = .ok (.iload_n 1, 1) := by decide +kernel
theorem dX7_point_1 : decode cX7_point 1 = .ok (.invokestatic 155, 3) := by decide +kernel
theorem dX7_point_4 : decode cX7_point 4 = .ok (.ifCond .eq 12, 3) := by decide +kernel
theorem dX7_point_7 : decode cX7_point 7 = .ok (.iload_n 2, 1) := by decide +kernel
theorem dX7_point_8 : decode cX7_point 8 = .ok (.iconst 0, 1) := by decide +kernel
theorem dX7_point_9 : decode cX7_point 9 = .ok (.iconst 1, 1) := by decide +kernel
theorem dX7_point_10 : decode cX7_point 10 = .ok (.invokestatic 75, 3) := by decide +kernel
theorem dX7_point_13 : decode cX7_point 13 = .ok (.ifCond .ne 5, 3) := by decide +kernel
theorem dX7_point_16 : decode cX7_point 16 = .ok (.iconst (-1), 1) := by decide +kernel
theorem dX7_point_17 : decode cX7_point 17 = .ok (.ireturn, 1) := by decide +kernel
theorem dX7_point_18 : decode cX7_point 18 = .ok (.iconst (-1), 1) := by decide +kernel
theorem dX7_point_19 : decode cX7_point 19 = .ok (.istore_n 3, 1) := by decide +kernel
theorem dX7_point_20 : decode cX7_point 20 = .ok (.iconst 0, 1) := by decide +kernel
theorem dX7_point_21 : decode cX7_point 21 = .ok (.istore 4, 2) := by decide +kernel
theorem dX7_point_23 : decode cX7_point 23 = .ok (.iload 4, 2) := by decide +kernel
theorem dX7_point_25 : decode cX7_point 25 = .ok (.aload_n 0, 1) := by decide +kernel
theorem dX7_point_26 : decode cX7_point 26 = .ok (.getfield 162, 3) := by decide +kernel
theorem dX7_point_29 : decode cX7_point 29 = .ok (.if_icmp .ge 27, 3) := by decide +kernel
theorem dX7_point_32 : decode cX7_point 32 = .ok (.aload_n 0, 1) := by decide +kernel
theorem dX7_point_33 : decode cX7_point 33 = .ok (.getfield 38, 3) := by decide +kernel
theorem dX7_point_36 : decode cX7_point 36 = .ok (.iload 4, 2) := by decide +kernel
theorem dX7_point_38 : decode cX7_point 38 = .ok (.iaload, 1) := by decide +kernel
theorem dX7_point_39 : decode cX7_point 39 = .ok (.iload_n 1, 1) := by decide +kernel
theorem dX7_point_40 : decode cX7_point 40 = .ok (.if_icmp .ne 8, 3) := by decide +kernel
theorem dX7_point_43 : decode cX7_point 43 = .ok (.iload 4, 2) := by decide +kernel
theorem dX7_point_45 : decode cX7_point 45 = .ok (.goto 4, 3) := by decide +kernel
theorem dX7_point_48 : decode cX7_point 48 = .ok (.iload_n 3, 1) := by decide +kernel
theorem dX7_point_49 : decode cX7_point 49 = .ok (.istore_n 3, 1) := by decide +kernel
theorem dX7_point_50 : decode cX7_point 50 = .ok (.iinc 4 1, 3) := by decide +kernel
theorem dX7_point_53 : decode cX7_point 53 = .ok (.goto (-30), 3) := by decide +kernel
theorem dX7_point_56 : decode cX7_point 56 = .ok (.iload_n 2, 1) := by decide +kernel
theorem dX7_point_57 : decode cX7_point 57 = .ok (.iconst 1, 1) := by decide +kernel
theorem dX7_point_58 : decode cX7_point 58 = .ok (.if_icmp .ne 38, 3) := by decide +kernel
theorem dX7_point_61 : decode cX7_point 61 = .ok (.iload_n 3, 1) := by decide +kernel
theorem dX7_point_62 : decode cX7_point 62 = .ok (.ifCond .ge 34, 3) := by decide +kernel
theorem dX7_point_65 : decode cX7_point 65 = .ok (.aload_n 0, 1) := by decide +kernel
theorem dX7_point_66 : decode cX7_point 66 = .ok (.getfield 162, 3) := by decide +kernel
theorem dX7_point_69 : decode cX7_point 69 = .ok (.iconst 5, 1) := by decide +kernel
theorem dX7_point_70 : decode cX7_point 70 = .ok (.if_icmp .ne 6, 3) := by decide +kernel
theorem dX7_point_73 : decode cX7_point 73 = .ok (.bipush (-2), 2) := by decide +kernel
theorem dX7_point_75 : decode cX7_point 75 = .ok (.ireturn, 1) := by decide +kernel
theorem dX7_point_76 : decode cX7_point 76 = .ok (.aload_n 0, 1) := by decide +kernel
theorem dX7_point_77 : decode cX7_point 77 = .ok (.getfield 38, 3) := by decide +kernel
theorem dX7_point_80 : decode cX7_point 80 = .ok (.aload_n 0, 1) := by decide +kernel
theorem dX7_point_81 : decode cX7_point 81 = .ok (.getfield 162, 3) := by decide +kernel
theorem dX7_point_84 : decode cX7_point 84 = .ok (.iload_n 1, 1) := by decide +kernel
theorem dX7_point_85 : decode cX7_point 85 = .ok (.iastore, 1) := by decide +kernel
theorem dX7_point_86 : decode cX7_point 86 = .ok (.aload_n 0, 1) := by decide +kernel
theorem dX7_point_87 : decode cX7_point 87 = .ok (.dup, 1) := by decide +kernel
theorem dX7_point_88 : decode cX7_point 88 = .ok (.getfield 162, 3) := by decide +kernel
theorem dX7_point_91 : decode cX7_point 91 = .ok (.iconst 1, 1) := by decide +kernel
theorem dX7_point_92 : decode cX7_point 92 = .ok (.iadd, 1) := by decide +kernel
theorem dX7_point_93 : decode cX7_point 93 = .ok (.putfield 162, 3) := by decide +kernel
theorem dX7_point_96 : decode cX7_point 96 = .ok (.iload_n 2, 1) := by decide +kernel
theorem dX7_point_97 : decode cX7_point 97 = .ok (.ifCond .ne 32, 3) := by decide +kernel
theorem dX7_point_100 : decode cX7_point 100 = .ok (.iload_n 3, 1) := by decide +kernel
theorem dX7_point_101 : decode cX7_point 101 = .ok (.ifCond .lt 28, 3) := by decide +kernel
theorem dX7_point_104 : decode cX7_point 104 = .ok (.aload_n 0, 1) := by decide +kernel
theorem dX7_point_105 : decode cX7_point 105 = .ok (.dup, 1) := by decide +kernel
theorem dX7_point_106 : decode cX7_point 106 = .ok (.getfield 162, 3) := by decide +kernel
theorem dX7_point_109 : decode cX7_point 109 = .ok (.iconst 1, 1) := by decide +kernel
theorem dX7_point_110 : decode cX7_point 110 = .ok (.isub, 1) := by decide +kernel
theorem dX7_point_111 : decode cX7_point 111 = .ok (.putfield 162, 3) := by decide +kernel
theorem dX7_point_114 : decode cX7_point 114 = .ok (.aload_n 0, 1) := by decide +kernel
theorem dX7_point_115 : decode cX7_point 115 = .ok (.getfield 38, 3) := by decide +kernel
theorem dX7_point_118 : decode cX7_point 118 = .ok (.iload_n 3, 1) := by decide +kernel
theorem dX7_point_119 : decode cX7_point 119 = .ok (.aload_n 0, 1) := by decide +kernel
theorem dX7_point_120 : decode cX7_point 120 = .ok (.getfield 38, 3) := by decide +kernel
theorem dX7_point_123 : decode cX7_point 123 = .ok (.aload_n 0, 1) := by decide +kernel
theorem dX7_point_124 : decode cX7_point 124 = .ok (.getfield 162, 3) := by decide +kernel
theorem dX7_point_127 : decode cX7_point 127 = .ok (.iaload, 1) := by decide +kernel
theorem dX7_point_128 : decode cX7_point 128 = .ok (.iastore, 1) := by decide +kernel
theorem dX7_point_129 : decode cX7_point 129 = .ok (.iload_n 3, 1) := by decide +kernel
theorem dX7_point_130 : decode cX7_point 130 = .ok (.ifCond .ge 7, 3) := by decide +kernel
theorem dX7_point_133 : decode cX7_point 133 = .ok (.iconst 0, 1) := by decide +kernel
theorem dX7_point_134 : decode cX7_point 134 = .ok (.goto 4, 3) := by decide +kernel
theorem dX7_point_137 : decode cX7_point 137 = .ok (.iconst 1, 1) := by decide +kernel
theorem dX7_point_138 : decode cX7_point 138 = .ok (.ireturn, 1) := by decide +kernel
theorem dX7_offWith_0 : decode cX7_offWith 0 = .ok (.iconst 0, 1) := by decide +kernel
theorem dX7_offWith_1 : decode cX7_offWith 1 = .ok (.istore 7, 2) := by decide +kernel
theorem dX7_offWith_3 : decode cX7_offWith 3 = .ok (.iconst 0, 1) := by decide +kernel
theorem dX7_offWith_4 : decode cX7_offWith 4 = .ok (.istore 8, 2) := by decide +kernel
theorem dX7_offWith_6 : decode cX7_offWith 6 = .ok (.iload 8, 2) := by decide +kernel
theorem dX7_offWith_8 : decode cX7_offWith 8 = .ok (.aload_n 0, 1) := by decide +kernel
theorem dX7_offWith_9 : decode cX7_offWith 9 = .ok (.getfield 162, 3) := by decide +kernel
theorem dX7_offWith_12 : decode cX7_offWith 12 = .ok (.if_icmp .ge 37, 3) := by decide +kernel
theorem dX7_offWith_15 : decode cX7_offWith 15 = .ok (.iload 7, 2) := by decide +kernel
theorem dX7_offWith_17 : decode cX7_offWith 17 = .ok (.aload_n 0, 1) := by decide +kernel
theorem dX7_offWith_18 : decode cX7_offWith 18 = .ok (.aload_n 0, 1) := by decide +kernel
theorem dX7_offWith_19 : decode cX7_offWith 19 = .ok (.getfield 38, 3) := by decide +kernel
theorem dX7_offWith_22 : decode cX7_offWith 22 = .ok (.iload 8, 2) := by decide +kernel
theorem dX7_offWith_24 : decode cX7_offWith 24 = .ok (.iaload, 1) := by decide +kernel
theorem dX7_offWith_25 : decode cX7_offWith 25 = .ok (.iload_n 1, 1) := by decide +kernel
theorem dX7_offWith_26 : decode cX7_offWith 26 = .ok (.iload_n 2, 1) := by decide +kernel
theorem dX7_offWith_27 : decode cX7_offWith 27 = .ok (.iload_n 3, 1) := by decide +kernel
theorem dX7_offWith_28 : decode cX7_offWith 28 = .ok (.iload 4, 2) := by decide +kernel
theorem dX7_offWith_30 : decode cX7_offWith 30 = .ok (.iload 5, 2) := by decide +kernel
theorem dX7_offWith_32 : decode cX7_offWith 32 = .ok (.iload 6, 2) := by decide +kernel
theorem dX7_offWith_34 : decode cX7_offWith 34 = .ok (.invokevirtual 158, 3) := by decide +kernel
theorem dX7_offWith_37 : decode cX7_offWith 37 = .ok (.invokestatic 91, 3) := by decide +kernel
theorem dX7_offWith_40 : decode cX7_offWith 40 = .ok (.iadd, 1) := by decide +kernel
theorem dX7_offWith_41 : decode cX7_offWith 41 = .ok (.istore 7, 2) := by decide +kernel
theorem dX7_offWith_43 : decode cX7_offWith 43 = .ok (.iinc 8 1, 3) := by decide +kernel
theorem dX7_offWith_46 : decode cX7_offWith 46 = .ok (.goto (-40), 3) := by decide +kernel
theorem dX7_offWith_49 : decode cX7_offWith 49 = .ok (.iload 7, 2) := by decide +kernel
theorem dX7_offWith_51 : decode cX7_offWith 51 = .ok (.ireturn, 1) := by decide +kernel
theorem dX7_off_0 : decode cX7_off 0 = .ok (.aload_n 0, 1) := by decide +kernel
theorem dX7_off_1 : decode cX7_off 1 = .ok (.aload_n 0, 1) := by decide +kernel
theorem dX7_off_2 : decode cX7_off 2 = .ok (.getfield 35, 3) := by decide +kernel
theorem dX7_off_5 : decode cX7_off 5 = .ok (.iconst 0, 1) := by decide +kernel
theorem dX7_off_6 : decode cX7_off 6 = .ok (.iaload, 1) := by decide +kernel
theorem dX7_off_7 : decode cX7_off 7 = .ok (.aload_n 0, 1) := by decide +kernel
theorem dX7_off_8 : decode cX7_off 8 = .ok (.getfield 35, 3) := by decide +kernel
theorem dX7_off_11 : decode cX7_off 11 = .ok (.iconst 1, 1) := by decide +kernel
theorem dX7_off_12 : decode cX7_off 12 = .ok (.iaload, 1) := by decide +kernel
theorem dX7_off_13 : decode cX7_off 13 = .ok (.aload_n 0, 1) := by decide +kernel
theorem dX7_off_14 : decode cX7_off 14 = .ok (.getfield 35, 3) := by decide +kernel
theorem dX7_off_17 : decode cX7_off 17 = .ok (.iconst 2, 1) := by decide +kernel
theorem dX7_off_18 : decode cX7_off 18 = .ok (.iaload, 1) := by decide +kernel
theorem dX7_off_19 : decode cX7_off 19 = .ok (.aload_n 0, 1) := by decide +kernel
theorem dX7_off_20 : decode cX7_off 20 = .ok (.getfield 35, 3) := by decide +kernel
theorem dX7_off_23 : decode cX7_off 23 = .ok (.iconst 3, 1) := by decide +kernel
theorem dX7_off_24 : decode cX7_off 24 = .ok (.iaload, 1) := by decide +kernel
theorem dX7_off_25 : decode cX7_off 25 = .ok (.aload_n 0, 1) := by decide +kernel
theorem dX7_off_26 : decode cX7_off 26 = .ok (.getfield 35, 3) := by decide +kernel
theorem dX7_off_29 : decode cX7_off 29 = .ok (.iconst 4, 1) := by decide +kernel
theorem dX7_off_30 : decode cX7_off 30 = .ok (.iaload, 1) := by decide +kernel
theorem dX7_off_31 : decode cX7_off 31 = .ok (.aload_n 0, 1) := by decide +kernel
theorem dX7_off_32 : decode cX7_off 32 = .ok (.getfield 16, 3) := by decide +kernel
theorem dX7_off_35 : decode cX7_off 35 = .ok (.invokevirtual 165, 3) := by decide +kernel
theorem dX7_off_38 : decode cX7_off 38 = .ok (.ireturn, 1) := by decide +kernel
theorem dX7_trimmed_0 : decode cX7_trimmed 0 = .ok (.iload_n 1, 1) := by decide +kernel
theorem dX7_trimmed_1 : decode cX7_trimmed 1 = .ok (.iconst 1, 1) := by decide +kernel
theorem dX7_trimmed_2 : decode cX7_trimmed 2 = .ok (.if_icmp .lt 24, 3) := by decide +kernel
theorem dX7_trimmed_5 : decode cX7_trimmed 5 = .ok (.iload_n 2, 1) := by decide +kernel
theorem dX7_trimmed_6 : decode cX7_trimmed 6 = .ok (.iload_n 1, 1) := by decide +kernel
theorem dX7_trimmed_7 : decode cX7_trimmed 7 = .ok (.if_icmp .lt 19, 3) := by decide +kernel
theorem dX7_trimmed_10 : decode cX7_trimmed 10 = .ok (.iload_n 2, 1) := by decide +kernel
theorem dX7_trimmed_11 : decode cX7_trimmed 11 = .ok (.sipush 9999, 3) := by decide +kernel
theorem dX7_trimmed_14 : decode cX7_trimmed 14 = .ok (.if_icmp .gt 12, 3) := by decide +kernel
theorem dX7_trimmed_17 : decode cX7_trimmed 17 = .ok (.iload_n 2, 1) := by decide +kernel
theorem dX7_trimmed_18 : decode cX7_trimmed 18 = .ok (.iload_n 1, 1) := by decide +kernel
theorem dX7_trimmed_19 : decode cX7_trimmed 19 = .ok (.isub, 1) := by decide +kernel
theorem dX7_trimmed_20 : decode cX7_trimmed 20 = .ok (.sipush 300, 3) := by decide +kernel
theorem dX7_trimmed_23 : decode cX7_trimmed 23 = .ok (.if_icmp .le 5, 3) := by decide +kernel
theorem dX7_trimmed_26 : decode cX7_trimmed 26 = .ok (.iconst (-1), 1) := by decide +kernel
theorem dX7_trimmed_27 : decode cX7_trimmed 27 = .ok (.ireturn, 1) := by decide +kernel
theorem dX7_trimmed_28 : decode cX7_trimmed 28 = .ok (.aload_n 0, 1) := by decide +kernel
theorem dX7_trimmed_29 : decode cX7_trimmed 29 = .ok (.getfield 162, 3) := by decide +kernel
theorem dX7_trimmed_32 : decode cX7_trimmed 32 = .ok (.ifCond .ne 6, 3) := by decide +kernel
theorem dX7_trimmed_35 : decode cX7_trimmed 35 = .ok (.bipush (-3), 2) := by decide +kernel
theorem dX7_trimmed_37 : decode cX7_trimmed 37 = .ok (.ireturn, 1) := by decide +kernel
theorem dX7_trimmed_38 : decode cX7_trimmed 38 = .ok (.iconst (-1), 1) := by decide +kernel
theorem dX7_trimmed_39 : decode cX7_trimmed 39 = .ok (.istore_n 3, 1) := by decide +kernel
theorem dX7_trimmed_40 : decode cX7_trimmed 40 = .ok (.iconst 0, 1) := by decide +kernel
theorem dX7_trimmed_41 : decode cX7_trimmed 41 = .ok (.istore 4, 2) := by decide +kernel
theorem dX7_trimmed_43 : decode cX7_trimmed 43 = .ok (.iconst 0, 1) := by decide +kernel
theorem dX7_trimmed_44 : decode cX7_trimmed 44 = .ok (.istore 5, 2) := by decide +kernel
theorem dX7_trimmed_46 : decode cX7_trimmed 46 = .ok (.iload_n 1, 1) := by decide +kernel
theorem dX7_trimmed_47 : decode cX7_trimmed 47 = .ok (.istore 6, 2) := by decide +kernel
theorem dX7_trimmed_49 : decode cX7_trimmed 49 = .ok (.iload 6, 2) := by decide +kernel
theorem dX7_trimmed_51 : decode cX7_trimmed 51 = .ok (.iload_n 2, 1) := by decide +kernel
theorem dX7_trimmed_52 : decode cX7_trimmed 52 = .ok (.if_icmp .gt 156, 3) := by decide +kernel
theorem dX7_trimmed_55 : decode cX7_trimmed 55 = .ok (.iconst 0, 1) := by decide +kernel
theorem dX7_trimmed_56 : decode cX7_trimmed 56 = .ok (.istore 7, 2) := by decide +kernel
theorem dX7_trimmed_58 : decode cX7_trimmed 58 = .ok (.iload 7, 2) := by decide +kernel
theorem dX7_trimmed_60 : decode cX7_trimmed 60 = .ok (.bipush 100, 2) := by decide +kernel
theorem dX7_trimmed_62 : decode cX7_trimmed 62 = .ok (.if_icmp .ge 140, 3) := by decide +kernel
theorem dX7_trimmed_65 : decode cX7_trimmed 65 = .ok (.iconst 0, 1) := by decide +kernel
theorem dX7_trimmed_66 : decode cX7_trimmed 66 = .ok (.istore 8, 2) := by decide +kernel
theorem dX7_trimmed_68 : decode cX7_trimmed 68 = .ok (.iconst 0, 1) := by decide +kernel
theorem dX7_trimmed_69 : decode cX7_trimmed 69 = .ok (.istore 9, 2) := by decide +kernel
theorem dX7_trimmed_71 : decode cX7_trimmed 71 = .ok (.iconst 0, 1) := by decide +kernel
theorem dX7_trimmed_72 : decode cX7_trimmed 72 = .ok (.istore 10, 2) := by decide +kernel
theorem dX7_trimmed_74 : decode cX7_trimmed 74 = .ok (.iload 10, 2) := by decide +kernel
theorem dX7_trimmed_76 : decode cX7_trimmed 76 = .ok (.aload_n 0, 1) := by decide +kernel
theorem dX7_trimmed_77 : decode cX7_trimmed 77 = .ok (.getfield 162, 3) := by decide +kernel
theorem dX7_trimmed_80 : decode cX7_trimmed 80 = .ok (.if_icmp .ge 74, 3) := by decide +kernel
theorem dX7_trimmed_83 : decode cX7_trimmed 83 = .ok (.aload_n 0, 1) := by decide +kernel
theorem dX7_trimmed_84 : decode cX7_trimmed 84 = .ok (.aload_n 0, 1) := by decide +kernel
theorem dX7_trimmed_85 : decode cX7_trimmed 85 = .ok (.getfield 38, 3) := by decide +kernel
theorem dX7_trimmed_88 : decode cX7_trimmed 88 = .ok (.iload 10, 2) := by decide +kernel
theorem dX7_trimmed_90 : decode cX7_trimmed 90 = .ok (.iaload, 1) := by decide +kernel
theorem dX7_trimmed_91 : decode cX7_trimmed 91 = .ok (.aload_n 0, 1) := by decide +kernel
theorem dX7_trimmed_92 : decode cX7_trimmed 92 = .ok (.getfield 35, 3) := by decide +kernel
theorem dX7_trimmed_95 : decode cX7_trimmed 95 = .ok (.iconst 0, 1) := by decide +kernel
theorem dX7_trimmed_96 : decode cX7_trimmed 96 = .ok (.iaload, 1) := by decide +kernel
theorem dX7_trimmed_97 : decode cX7_trimmed 97 = .ok (.iload 7, 2) := by decide +kernel
theorem dX7_trimmed_99 : decode cX7_trimmed 99 = .ok (.iload 6, 2) := by decide +kernel
theorem dX7_trimmed_101 : decode cX7_trimmed 101 = .ok (.aload_n 0, 1) := by decide +kernel
theorem dX7_trimmed_102 : decode cX7_trimmed 102 = .ok (.getfield 35, 3) := by decide +kernel
theorem dX7_trimmed_105 : decode cX7_trimmed 105 = .ok (.iconst 3, 1) := by decide +kernel
theorem dX7_trimmed_106 : decode cX7_trimmed 106 = .ok (.iaload, 1) := by decide +kernel
theorem dX7_trimmed_107 : decode cX7_trimmed 107 = .ok (.aload_n 0, 1) := by decide +kernel
theorem dX7_trimmed_108 : decode cX7_trimmed 108 = .ok (.getfield 35, 3) := by decide +kernel
theorem dX7_trimmed_111 : decode cX7_trimmed 111 = .ok (.iconst 4, 1) := by decide +kernel
theorem dX7_trimmed_112 : decode cX7_trimmed 112 = .ok (.iaload, 1) := by decide +kernel
theorem dX7_trimmed_113 : decode cX7_trimmed 113 = .ok (.aload_n 0, 1) := by decide +kernel
theorem dX7_trimmed_114 : decode cX7_trimmed 114 = .ok (.getfield 16, 3) := by decide +kernel
theorem dX7_trimmed_117 : decode cX7_trimmed 117 = .ok (.invokevirtual 158, 3) := by decide +kernel
theorem dX7_trimmed_120 : decode cX7_trimmed 120 = .ok (.invokestatic 91, 3) := by decide +kernel
theorem dX7_trimmed_123 : decode cX7_trimmed 123 = .ok (.istore 11, 2) := by decide +kernel
theorem dX7_trimmed_125 : decode cX7_trimmed 125 = .ok (.iload 11, 2) := by decide +kernel
theorem dX7_trimmed_127 : decode cX7_trimmed 127 = .ok (.iload 8, 2) := by decide +kernel
theorem dX7_trimmed_129 : decode cX7_trimmed 129 = .ok (.if_icmp .le 8, 3) := by decide +kernel
theorem dX7_trimmed_132 : decode cX7_trimmed 132 = .ok (.iload 11, 2) := by decide +kernel
theorem dX7_trimmed_134 : decode cX7_trimmed 134 = .ok (.goto 5, 3) := by decide +kernel
theorem dX7_trimmed_137 : decode cX7_trimmed 137 = .ok (.iload 8, 2) := by decide +kernel
theorem dX7_trimmed_139 : decode cX7_trimmed 139 = .ok (.istore 8, 2) := by decide +kernel
theorem dX7_trimmed_141 : decode cX7_trimmed 141 = .ok (.iload 9, 2) := by decide +kernel
theorem dX7_trimmed_143 : decode cX7_trimmed 143 = .ok (.iload 11, 2) := by decide +kernel
theorem dX7_trimmed_145 : decode cX7_trimmed 145 = .ok (.iadd, 1) := by decide +kernel
theorem dX7_trimmed_146 : decode cX7_trimmed 146 = .ok (.istore 9, 2) := by decide +kernel
theorem dX7_trimmed_148 : decode cX7_trimmed 148 = .ok (.iinc 10 1, 3) := by decide +kernel
theorem dX7_trimmed_151 : decode cX7_trimmed 151 = .ok (.goto (-77), 3) := by decide +kernel
theorem dX7_trimmed_154 : decode cX7_trimmed 154 = .ok (.iload_n 3, 1) := by decide +kernel
theorem dX7_trimmed_155 : decode cX7_trimmed 155 = .ok (.ifCond .lt 24, 3) := by decide +kernel
theorem dX7_trimmed_158 : decode cX7_trimmed 158 = .ok (.iload 8, 2) := by decide +kernel
theorem dX7_trimmed_160 : decode cX7_trimmed 160 = .ok (.iload 4, 2) := by decide +kernel
theorem dX7_trimmed_162 : decode cX7_trimmed 162 = .ok (.if_icmp .lt 17, 3) := by decide +kernel
theorem dX7_trimmed_165 : decode cX7_trimmed 165 = .ok (.iload 8, 2) := by decide +kernel
theorem dX7_trimmed_167 : decode cX7_trimmed 167 = .ok (.iload 4, 2) := by decide +kernel
theorem dX7_trimmed_169 : decode cX7_trimmed 169 = .ok (.if_icmp .ne 27, 3) := by decide +kernel
theorem dX7_trimmed_172 : decode cX7_trimmed 172 = .ok (.iload 9, 2) := by decide +kernel
theorem dX7_trimmed_174 : decode cX7_trimmed 174 = .ok (.iload 5, 2) := by decide +kernel
theorem dX7_trimmed_176 : decode cX7_trimmed 176 = .ok (.if_icmp .ge 20, 3) := by decide +kernel
theorem dX7_trimmed_179 : decode cX7_trimmed 179 = .ok (.bipush 100, 2) := by decide +kernel
theorem dX7_trimmed_181 : decode cX7_trimmed 181 = .ok (.iload 6, 2) := by decide +kernel
theorem dX7_trimmed_183 : decode cX7_trimmed 183 = .ok (.imul, 1) := by decide +kernel
theorem dX7_trimmed_184 : decode cX7_trimmed 184 = .ok (.iload 7, 2) := by decide +kernel
theorem dX7_trimmed_186 : decode cX7_trimmed 186 = .ok (.iadd, 1) := by decide +kernel
theorem dX7_trimmed_187 : decode cX7_trimmed 187 = .ok (.istore_n 3, 1) := by decide +kernel
theorem dX7_trimmed_188 : decode cX7_trimmed 188 = .ok (.iload 8, 2) := by decide +kernel
theorem dX7_trimmed_190 : decode cX7_trimmed 190 = .ok (.istore 4, 2) := by decide +kernel
theorem dX7_trimmed_192 : decode cX7_trimmed 192 = .ok (.iload 9, 2) := by decide +kernel
theorem dX7_trimmed_194 : decode cX7_trimmed 194 = .ok (.istore 5, 2) := by decide +kernel
theorem dX7_trimmed_196 : decode cX7_trimmed 196 = .ok (.iinc 7 1, 3) := by decide +kernel
theorem dX7_trimmed_199 : decode cX7_trimmed 199 = .ok (.goto (-141), 3) := by decide +kernel
theorem dX7_trimmed_202 : decode cX7_trimmed 202 = .ok (.iinc 6 1, 3) := by decide +kernel
theorem dX7_trimmed_205 : decode cX7_trimmed 205 = .ok (.goto (-156), 3) := by decide +kernel
theorem dX7_trimmed_208 : decode cX7_trimmed 208 = .ok (.iload_n 3, 1) := by decide +kernel
theorem dX7_trimmed_209 : decode cX7_trimmed 209 = .ok (.ireturn, 1) := by decide +kernel
theorem dX7_mark_0 : decode cX7_mark 0 = .ok (.iload_n 1, 1) := by decide +kernel
theorem dX7_mark_1 : decode cX7_mark 1 = .ok (.iconst 1, 1) := by decide +kernel
theorem dX7_mark_2 : decode cX7_mark 2 = .ok (.ldc 169, 2) := by decide +kernel
theorem dX7_mark_4 : decode cX7_mark 4 = .ok (.invokestatic 75, 3) := by decide +kernel
theorem dX7_mark_7 : decode cX7_mark 7 = .ok (.ifCond .ne 5, 3) := by decide +kernel
theorem dX7_mark_10 : decode cX7_mark 10 = .ok (.iconst (-1), 1) := by decide +kernel
theorem dX7_mark_11 : decode cX7_mark 11 = .ok (.ireturn, 1) := by decide +kernel
theorem dX7_mark_12 : decode cX7_mark 12 = .ok (.iconst 0, 1) := by decide +kernel
theorem dX7_mark_13 : decode cX7_mark 13 = .ok (.istore_n 2, 1) := by decide +kernel
theorem dX7_mark_14 : decode cX7_mark 14 = .ok (.iconst 1, 1) := by decide +kernel
theorem dX7_mark_15 : decode cX7_mark 15 = .ok (.istore_n 3, 1) := by decide +kernel
theorem dX7_mark_16 : decode cX7_mark 16 = .ok (.iload_n 3, 1) := by decide +kernel
theorem dX7_mark_17 : decode cX7_mark 17 = .ok (.bipush 100, 2) := by decide +kernel
theorem dX7_mark_19 : decode cX7_mark 19 = .ok (.if_icmp .gt 58, 3) := by decide +kernel
theorem dX7_mark_22 : decode cX7_mark 22 = .ok (.aload_n 0, 1) := by decide +kernel
theorem dX7_mark_23 : decode cX7_mark 23 = .ok (.iload_n 3, 1) := by decide +kernel
theorem dX7_mark_24 : decode cX7_mark 24 = .ok (.aload_n 0, 1) := by decide +kernel
theorem dX7_mark_25 : decode cX7_mark 25 = .ok (.getfield 35, 3) := by decide +kernel
theorem dX7_mark_28 : decode cX7_mark 28 = .ok (.iconst 0, 1) := by decide +kernel
theorem dX7_mark_29 : decode cX7_mark 29 = .ok (.iaload, 1) := by decide +kernel
theorem dX7_mark_30 : decode cX7_mark 30 = .ok (.aload_n 0, 1) := by decide +kernel
theorem dX7_mark_31 : decode cX7_mark 31 = .ok (.getfield 35, 3) := by decide +kernel
theorem dX7_mark_34 : decode cX7_mark 34 = .ok (.iconst 3, 1) := by decide +kernel
theorem dX7_mark_35 : decode cX7_mark 35 = .ok (.iaload, 1) := by decide +kernel
theorem dX7_mark_36 : decode cX7_mark 36 = .ok (.invokevirtual 145, 3) := by decide +kernel
theorem dX7_mark_39 : decode cX7_mark 39 = .ok (.iload_n 1, 1) := by decide +kernel
theorem dX7_mark_40 : decode cX7_mark 40 = .ok (.isub, 1) := by decide +kernel
theorem dX7_mark_41 : decode cX7_mark 41 = .ok (.invokestatic 91, 3) := by decide +kernel
theorem dX7_mark_44 : decode cX7_mark 44 = .ok (.aload_n 0, 1) := by decide +kernel
theorem dX7_mark_45 : decode cX7_mark 45 = .ok (.iload_n 2, 1) := by decide +kernel
theorem dX7_mark_46 : decode cX7_mark 46 = .ok (.aload_n 0, 1) := by decide +kernel
theorem dX7_mark_47 : decode cX7_mark 47 = .ok (.getfield 35, 3) := by decide +kernel
theorem dX7_mark_50 : decode cX7_mark 50 = .ok (.iconst 0, 1) := by decide +kernel
theorem dX7_mark_51 : decode cX7_mark 51 = .ok (.iaload, 1) := by decide +kernel
theorem dX7_mark_52 : decode cX7_mark 52 = .ok (.aload_n 0, 1) := by decide +kernel
theorem dX7_mark_53 : decode cX7_mark 53 = .ok (.getfield 35, 3) := by decide +kernel
theorem dX7_mark_56 : decode cX7_mark 56 = .ok (.iconst 3, 1) := by decide +kernel
theorem dX7_mark_57 : decode cX7_mark 57 = .ok (.iaload, 1) := by decide +kernel
theorem dX7_mark_58 : decode cX7_mark 58 = .ok (.invokevirtual 145, 3) := by decide +kernel
theorem dX7_mark_61 : decode cX7_mark 61 = .ok (.iload_n 1, 1) := by decide +kernel
theorem dX7_mark_62 : decode cX7_mark 62 = .ok (.isub, 1) := by decide +kernel
theorem dX7_mark_63 : decode cX7_mark 63 = .ok (.invokestatic 91, 3) := by decide +kernel
theorem dX7_mark_66 : decode cX7_mark 66 = .ok (.if_icmp .ge 5, 3) := by decide +kernel
theorem dX7_mark_69 : decode cX7_mark 69 = .ok (.iload_n 3, 1) := by decide +kernel
theorem dX7_mark_70 : decode cX7_mark 70 = .ok (.istore_n 2, 1) := by decide +kernel
theorem dX7_mark_71 : decode cX7_mark 71 = .ok (.iinc 3 1, 3) := by decide +kernel
theorem dX7_mark_74 : decode cX7_mark 74 = .ok (.goto (-58), 3) := by decide +kernel
theorem dX7_mark_77 : decode cX7_mark 77 = .ok (.iload_n 2, 1) := by decide +kernel
theorem dX7_mark_78 : decode cX7_mark 78 = .ok (.ireturn, 1) := by decide +kernel
theorem dX7_isSet_0 : decode cX7_isSet 0 = .ok (.iload_n 1, 1) := by decide +kernel
theorem dX7_isSet_1 : decode cX7_isSet 1 = .ok (.ifCond .lt 15, 3) := by decide +kernel
theorem dX7_isSet_4 : decode cX7_isSet 4 = .ok (.iload_n 1, 1) := by decide +kernel
theorem dX7_isSet_5 : decode cX7_isSet 5 = .ok (.aload_n 0, 1) := by decide +kernel
theorem dX7_isSet_6 : decode cX7_isSet 6 = .ok (.getfield 170, 3) := by decide +kernel
theorem dX7_isSet_9 : decode cX7_isSet 9 = .ok (.if_icmp .ge 7, 3) := by decide +kernel
theorem dX7_isSet_12 : decode cX7_isSet 12 = .ok (.iconst 1, 1) := by decide +kernel
theorem dX7_isSet_13 : decode cX7_isSet 13 = .ok (.goto 4, 3) := by decide +kernel
theorem dX7_isSet_16 : decode cX7_isSet 16 = .ok (.iconst 0, 1) := by decide +kernel
theorem dX7_isSet_17 : decode cX7_isSet 17 = .ok (.ireturn, 1) := by decide +kernel
theorem dX7_set_0 : decode cX7_set 0 = .ok (.aload_n 0, 1) := by decide +kernel
theorem dX7_set_1 : decode cX7_set 1 = .ok (.getfield 170, 3) := by decide +kernel
theorem dX7_set_4 : decode cX7_set 4 = .ok (.bipush 10, 2) := by decide +kernel
theorem dX7_set_6 : decode cX7_set 6 = .ok (.if_icmp .ne 6, 3) := by decide +kernel
theorem dX7_set_9 : decode cX7_set 9 = .ok (.bipush (-2), 2) := by decide +kernel
theorem dX7_set_11 : decode cX7_set 11 = .ok (.ireturn, 1) := by decide +kernel
theorem dX7_set_12 : decode cX7_set 12 = .ok (.iconst 0, 1) := by decide +kernel
theorem dX7_set_13 : decode cX7_set 13 = .ok (.istore_n 1, 1) := by decide +kernel
theorem dX7_set_14 : decode cX7_set 14 = .ok (.iload_n 1, 1) := by decide +kernel
theorem dX7_set_15 : decode cX7_set 15 = .ok (.bipush 6, 2) := by decide +kernel
theorem dX7_set_17 : decode cX7_set 17 = .ok (.if_icmp .ge 41, 3) := by decide +kernel
theorem dX7_set_20 : decode cX7_set 20 = .ok (.aload_n 0, 1) := by decide +kernel
theorem dX7_set_21 : decode cX7_set 21 = .ok (.getfield 41, 3) := by decide +kernel
theorem dX7_set_24 : decode cX7_set 24 = .ok (.bipush 6, 2) := by decide +kernel
theorem dX7_set_26 : decode cX7_set 26 = .ok (.aload_n 0, 1) := by decide +kernel
theorem dX7_set_27 : decode cX7_set 27 = .ok (.getfield 170, 3) := by decide +kernel
theorem dX7_set_30 : decode cX7_set 30 = .ok (.imul, 1) := by decide +kernel
theorem dX7_set_31 : decode cX7_set 31 = .ok (.iload_n 1, 1) := by decide +kernel
theorem dX7_set_32 : decode cX7_set 32 = .ok (.iadd, 1) := by decide +kernel
theorem dX7_set_33 : decode cX7_set 33 = .ok (.iload_n 1, 1) := by decide +kernel
theorem dX7_set_34 : decode cX7_set 34 = .ok (.iconst 5, 1) := by decide +kernel
theorem dX7_set_35 : decode cX7_set 35 = .ok (.if_icmp .ne 10, 3) := by decide +kernel
theorem dX7_set_38 : decode cX7_set 38 = .ok (.aload_n 0, 1) := by decide +kernel
theorem dX7_set_39 : decode cX7_set 39 = .ok (.getfield 16, 3) := by decide +kernel
theorem dX7_set_42 : decode cX7_set 42 = .ok (.goto 9, 3) := by decide +kernel
theorem dX7_set_45 : decode cX7_set 45 = .ok (.aload_n 0, 1) := by decide +kernel
theorem dX7_set_46 : decode cX7_set 46 = .ok (.getfield 35, 3) := by decide +kernel
theorem dX7_set_49 : decode cX7_set 49 = .ok (.iload_n 1, 1) := by decide +kernel
theorem dX7_set_50 : decode cX7_set 50 = .ok (.iaload, 1) := by decide +kernel
theorem dX7_set_51 : decode cX7_set 51 = .ok (.iastore, 1) := by decide +kernel
theorem dX7_set_52 : decode cX7_set 52 = .ok (.iinc 1 1, 3) := by decide +kernel
theorem dX7_set_55 : decode cX7_set 55 = .ok (.goto (-41), 3) := by decide +kernel
theorem dX7_set_58 : decode cX7_set 58 = .ok (.aload_n 0, 1) := by decide +kernel
theorem dX7_set_59 : decode cX7_set 59 = .ok (.dup, 1) := by decide +kernel
theorem dX7_set_60 : decode cX7_set 60 = .ok (.getfield 170, 3) := by decide +kernel
theorem dX7_set_63 : decode cX7_set 63 = .ok (.iconst 1, 1) := by decide +kernel
theorem dX7_set_64 : decode cX7_set 64 = .ok (.iadd, 1) := by decide +kernel
theorem dX7_set_65 : decode cX7_set 65 = .ok (.putfield 170, 3) := by decide +kernel
theorem dX7_set_68 : decode cX7_set 68 = .ok (.aload_n 0, 1) := by decide +kernel
theorem dX7_set_69 : decode cX7_set 69 = .ok (.getfield 170, 3) := by decide +kernel
theorem dX7_set_72 : decode cX7_set 72 = .ok (.iconst 1, 1) := by decide +kernel
theorem dX7_set_73 : decode cX7_set 73 = .ok (.isub, 1) := by decide +kernel
theorem dX7_set_74 : decode cX7_set 74 = .ok (.ireturn, 1) := by decide +kernel
theorem dX7_offBy_0 : decode cX7_offBy 0 = .ok (.aload_n 0, 1) := by decide +kernel
theorem dX7_offBy_1 : decode cX7_offBy 1 = .ok (.iload_n 1, 1) := by decide +kernel
theorem dX7_offBy_2 : decode cX7_offBy 2 = .ok (.invokevirtual 173, 3) := by decide +kernel
theorem dX7_offBy_5 : decode cX7_offBy 5 = .ok (.ifCond .eq 23, 3) := by decide +kernel
theorem dX7_offBy_8 : decode cX7_offBy 8 = .ok (.iload_n 2, 1) := by decide +kernel
theorem dX7_offBy_9 : decode cX7_offBy 9 = .ok (.iconst 0, 1) := by decide +kernel
theorem dX7_offBy_10 : decode cX7_offBy 10 = .ok (.iconst 5, 1) := by decide +kernel
theorem dX7_offBy_11 : decode cX7_offBy 11 = .ok (.invokestatic 75, 3) := by decide +kernel
theorem dX7_offBy_14 : decode cX7_offBy 14 = .ok (.ifCond .eq 14, 3) := by decide +kernel
theorem dX7_offBy_17 : decode cX7_offBy 17 = .ok (.iload_n 3, 1) := by decide +kernel
theorem dX7_offBy_18 : decode cX7_offBy 18 = .ok (.bipush (-50), 2) := by decide +kernel
theorem dX7_offBy_20 : decode cX7_offBy 20 = .ok (.bipush 50, 2) := by decide +kernel
theorem dX7_offBy_22 : decode cX7_offBy 22 = .ok (.invokestatic 75, 3) := by decide +kernel
theorem dX7_offBy_25 : decode cX7_offBy 25 = .ok (.ifCond .ne 6, 3) := by decide +kernel
theorem dX7_offBy_28 : decode cX7_offBy 28 = .ok (.ldc 90, 2) := by decide +kernel
theorem dX7_offBy_30 : decode cX7_offBy 30 = .ok (.ireturn, 1) := by decide +kernel
theorem dX7_offBy_31 : decode cX7_offBy 31 = .ok (.aload_n 0, 1) := by decide +kernel
theorem dX7_offBy_32 : decode cX7_offBy 32 = .ok (.getfield 44, 3) := by decide +kernel
theorem dX7_offBy_35 : decode cX7_offBy 35 = .ok (.bipush 6, 2) := by decide +kernel
theorem dX7_offBy_37 : decode cX7_offBy 37 = .ok (.iload_n 1, 1) := by decide +kernel
theorem dX7_offBy_38 : decode cX7_offBy 38 = .ok (.imul, 1) := by decide +kernel
theorem dX7_offBy_39 : decode cX7_offBy 39 = .ok (.iload_n 2, 1) := by decide +kernel
theorem dX7_offBy_40 : decode cX7_offBy 40 = .ok (.iadd, 1) := by decide +kernel
theorem dX7_offBy_41 : decode cX7_offBy 41 = .ok (.iaload, 1) := by decide +kernel
theorem dX7_offBy_42 : decode cX7_offBy 42 = .ok (.istore 4, 2) := by decide +kernel
theorem dX7_offBy_44 : decode cX7_offBy 44 = .ok (.aload_n 0, 1) := by decide +kernel
theorem dX7_offBy_45 : decode cX7_offBy 45 = .ok (.getfield 44, 3) := by decide +kernel
theorem dX7_offBy_48 : decode cX7_offBy 48 = .ok (.bipush 6, 2) := by decide +kernel
theorem dX7_offBy_50 : decode cX7_offBy 50 = .ok (.iload_n 1, 1) := by decide +kernel
theorem dX7_offBy_51 : decode cX7_offBy 51 = .ok (.imul, 1) := by decide +kernel
theorem dX7_offBy_52 : decode cX7_offBy 52 = .ok (.iload_n 2, 1) := by decide +kernel
theorem dX7_offBy_53 : decode cX7_offBy 53 = .ok (.iadd, 1) := by decide +kernel
theorem dX7_offBy_54 : decode cX7_offBy 54 = .ok (.iload_n 3, 1) := by decide +kernel
theorem dX7_offBy_55 : decode cX7_offBy 55 = .ok (.iastore, 1) := by decide +kernel
theorem dX7_offBy_56 : decode cX7_offBy 56 = .ok (.iload 4, 2) := by decide +kernel
theorem dX7_offBy_58 : decode cX7_offBy 58 = .ok (.ireturn, 1) := by decide +kernel
theorem dX7_valueOf_0 : decode cX7_valueOf 0 = .ok (.aload_n 0, 1) := by decide +kernel
theorem dX7_valueOf_1 : decode cX7_valueOf 1 = .ok (.getfield 41, 3) := by decide +kernel
theorem dX7_valueOf_4 : decode cX7_valueOf 4 = .ok (.bipush 6, 2) := by decide +kernel
theorem dX7_valueOf_6 : decode cX7_valueOf 6 = .ok (.iload_n 1, 1) := by decide +kernel
theorem dX7_valueOf_7 : decode cX7_valueOf 7 = .ok (.imul, 1) := by decide +kernel
theorem dX7_valueOf_8 : decode cX7_valueOf 8 = .ok (.iload_n 2, 1) := by decide +kernel
theorem dX7_valueOf_9 : decode cX7_valueOf 9 = .ok (.iadd, 1) := by decide +kernel
theorem dX7_valueOf_10 : decode cX7_valueOf 10 = .ok (.iaload, 1) := by decide +kernel
theorem dX7_valueOf_11 : decode cX7_valueOf 11 = .ok (.aload_n 0, 1) := by decide +kernel
theorem dX7_valueOf_12 : decode cX7_valueOf 12 = .ok (.getfield 44, 3) := by decide +kernel
theorem dX7_valueOf_15 : decode cX7_valueOf 15 = .ok (.bipush 6, 2) := by decide +kernel
theorem dX7_valueOf_17 : decode cX7_valueOf 17 = .ok (.iload_n 1, 1) := by decide +kernel
theorem dX7_valueOf_18 : decode cX7_valueOf 18 = .ok (.imul, 1) := by decide +kernel
theorem dX7_valueOf_19 : decode cX7_valueOf 19 = .ok (.iload_n 2, 1) := by decide +kernel
theorem dX7_valueOf_20 : decode cX7_valueOf 20 = .ok (.iadd, 1) := by decide +kernel
theorem dX7_valueOf_21 : decode cX7_valueOf 21 = .ok (.iaload, 1) := by decide +kernel
theorem dX7_valueOf_22 : decode cX7_valueOf 22 = .ok (.iadd, 1) := by decide +kernel
theorem dX7_valueOf_23 : decode cX7_valueOf 23 = .ok (.aload_n 0, 1) := by decide +kernel
theorem dX7_valueOf_24 : decode cX7_valueOf 24 = .ok (.getfield 47, 3) := by decide +kernel
theorem dX7_valueOf_27 : decode cX7_valueOf 27 = .ok (.bipush 6, 2) := by decide +kernel
theorem dX7_valueOf_29 : decode cX7_valueOf 29 = .ok (.iload_n 1, 1) := by decide +kernel
theorem dX7_valueOf_30 : decode cX7_valueOf 30 = .ok (.imul, 1) := by decide +kernel
theorem dX7_valueOf_31 : decode cX7_valueOf 31 = .ok (.iload_n 2, 1) := by decide +kernel
theorem dX7_valueOf_32 : decode cX7_valueOf 32 = .ok (.iadd, 1) := by decide +kernel
theorem dX7_valueOf_33 : decode cX7_valueOf 33 = .ok (.iaload, 1) := by decide +kernel
theorem dX7_valueOf_34 : decode cX7_valueOf 34 = .ok (.iadd, 1) := by decide +kernel
theorem dX7_valueOf_35 : decode cX7_valueOf 35 = .ok (.istore_n 3, 1) := by decide +kernel
theorem dX7_valueOf_36 : decode cX7_valueOf 36 = .ok (.iload_n 2, 1) := by decide +kernel
theorem dX7_valueOf_37 : decode cX7_valueOf 37 = .ok (.iconst 2, 1) := by decide +kernel
theorem dX7_valueOf_38 : decode cX7_valueOf 38 = .ok (.if_icmp .ge 7, 3) := by decide +kernel
theorem dX7_valueOf_41 : decode cX7_valueOf 41 = .ok (.iconst 0, 1) := by decide +kernel
theorem dX7_valueOf_42 : decode cX7_valueOf 42 = .ok (.goto 14, 3) := by decide +kernel
theorem dX7_valueOf_45 : decode cX7_valueOf 45 = .ok (.iload_n 2, 1) := by decide +kernel
theorem dX7_valueOf_46 : decode cX7_valueOf 46 = .ok (.iconst 5, 1) := by decide +kernel
theorem dX7_valueOf_47 : decode cX7_valueOf 47 = .ok (.if_icmp .ne 8, 3) := by decide +kernel
theorem dX7_valueOf_50 : decode cX7_valueOf 50 = .ok (.bipush 20, 2) := by decide +kernel
theorem dX7_valueOf_52 : decode cX7_valueOf 52 = .ok (.goto 4, 3) := by decide +kernel
theorem dX7_valueOf_55 : decode cX7_valueOf 55 = .ok (.iconst 1, 1) := by decide +kernel
theorem dX7_valueOf_56 : decode cX7_valueOf 56 = .ok (.istore 4, 2) := by decide +kernel
theorem dX7_valueOf_58 : decode cX7_valueOf 58 = .ok (.iload_n 2, 1) := by decide +kernel
theorem dX7_valueOf_59 : decode cX7_valueOf 59 = .ok (.iconst 2, 1) := by decide +kernel
theorem dX7_valueOf_60 : decode cX7_valueOf 60 = .ok (.if_icmp .ge 8, 3) := by decide +kernel
theorem dX7_valueOf_63 : decode cX7_valueOf 63 = .ok (.bipush 99, 2) := by decide +kernel
theorem dX7_valueOf_65 : decode cX7_valueOf 65 = .ok (.goto 17, 3) := by decide +kernel
theorem dX7_valueOf_68 : decode cX7_valueOf 68 = .ok (.iload_n 2, 1) := by decide +kernel
theorem dX7_valueOf_69 : decode cX7_valueOf 69 = .ok (.iconst 5, 1) := by decide +kernel
theorem dX7_valueOf_70 : decode cX7_valueOf 70 = .ok (.if_icmp .ne 9, 3) := by decide +kernel
theorem dX7_valueOf_73 : decode cX7_valueOf 73 = .ok (.sipush 900, 3) := by decide +kernel
theorem dX7_valueOf_76 : decode cX7_valueOf 76 = .ok (.goto 6, 3) := by decide +kernel
theorem dX7_valueOf_79 : decode cX7_valueOf 79 = .ok (.sipush 9999, 3) := by decide +kernel
theorem dX7_valueOf_82 : decode cX7_valueOf 82 = .ok (.istore 5, 2) := by decide +kernel
theorem dX7_valueOf_84 : decode cX7_valueOf 84 = .ok (.iload_n 3, 1) := by decide +kernel
theorem dX7_valueOf_85 : decode cX7_valueOf 85 = .ok (.iload 4, 2) := by decide +kernel
theorem dX7_valueOf_87 : decode cX7_valueOf 87 = .ok (.if_icmp .ge 8, 3) := by decide +kernel
theorem dX7_valueOf_90 : decode cX7_valueOf 90 = .ok (.iload 4, 2) := by decide +kernel
theorem dX7_valueOf_92 : decode cX7_valueOf 92 = .ok (.goto 15, 3) := by decide +kernel
theorem dX7_valueOf_95 : decode cX7_valueOf 95 = .ok (.iload_n 3, 1) := by decide +kernel
theorem dX7_valueOf_96 : decode cX7_valueOf 96 = .ok (.iload 5, 2) := by decide +kernel
theorem dX7_valueOf_98 : decode cX7_valueOf 98 = .ok (.if_icmp .le 8, 3) := by decide +kernel
theorem dX7_valueOf_101 : decode cX7_valueOf 101 = .ok (.iload 5, 2) := by decide +kernel
theorem dX7_valueOf_103 : decode cX7_valueOf 103 = .ok (.goto 4, 3) := by decide +kernel
theorem dX7_valueOf_106 : decode cX7_valueOf 106 = .ok (.iload_n 3, 1) := by decide +kernel
theorem dX7_valueOf_107 : decode cX7_valueOf 107 = .ok (.ireturn, 1) := by decide +kernel
theorem dX7_ofSet_0 : decode cX7_ofSet 0 = .ok (.aload_n 0, 1) := by decide +kernel
theorem dX7_ofSet_1 : decode cX7_ofSet 1 = .ok (.iload_n 1, 1) := by decide +kernel
theorem dX7_ofSet_2 : decode cX7_ofSet 2 = .ok (.invokevirtual 173, 3) := by decide +kernel
theorem dX7_ofSet_5 : decode cX7_ofSet 5 = .ok (.ifCond .eq 21, 3) := by decide +kernel
theorem dX7_ofSet_8 : decode cX7_ofSet 8 = .ok (.iload_n 2, 1) := by decide +kernel
theorem dX7_ofSet_9 : decode cX7_ofSet 9 = .ok (.iconst 0, 1) := by decide +kernel
theorem dX7_ofSet_10 : decode cX7_ofSet 10 = .ok (.iconst 5, 1) := by decide +kernel
theorem dX7_ofSet_11 : decode cX7_ofSet 11 = .ok (.invokestatic 75, 3) := by decide +kernel
theorem dX7_ofSet_14 : decode cX7_ofSet 14 = .ok (.ifCond .eq 12, 3) := by decide +kernel
theorem dX7_ofSet_17 : decode cX7_ofSet 17 = .ok (.iload_n 3, 1) := by decide +kernel
theorem dX7_ofSet_18 : decode cX7_ofSet 18 = .ok (.iconst 0, 1) := by decide +kernel
theorem dX7_ofSet_19 : decode cX7_ofSet 19 = .ok (.iconst 1, 1) := by decide +kernel
theorem dX7_ofSet_20 : decode cX7_ofSet 20 = .ok (.invokestatic 75, 3) := by decide +kernel
theorem dX7_ofSet_23 : decode cX7_ofSet 23 = .ok (.ifCond .ne 6, 3) := by decide +kernel
theorem dX7_ofSet_26 : decode cX7_ofSet 26 = .ok (.ldc 90, 2) := by decide +kernel
theorem dX7_ofSet_28 : decode cX7_ofSet 28 = .ok (.ireturn, 1) := by decide +kernel
theorem dX7_ofSet_29 : decode cX7_ofSet 29 = .ok (.iload_n 3, 1) := by decide +kernel
theorem dX7_ofSet_30 : decode cX7_ofSet 30 = .ok (.ifCond .ne 12, 3) := by decide +kernel
theorem dX7_ofSet_33 : decode cX7_ofSet 33 = .ok (.aload_n 0, 1) := by decide +kernel
theorem dX7_ofSet_34 : decode cX7_ofSet 34 = .ok (.iload_n 1, 1) := by decide +kernel
theorem dX7_ofSet_35 : decode cX7_ofSet 35 = .ok (.iload_n 2, 1) := by decide +kernel
theorem dX7_ofSet_36 : decode cX7_ofSet 36 = .ok (.invokevirtual 176, 3) := by decide +kernel
theorem dX7_ofSet_39 : decode cX7_ofSet 39 = .ok (.goto 14, 3) := by decide +kernel
theorem dX7_ofSet_42 : decode cX7_ofSet 42 = .ok (.aload_n 0, 1) := by decide +kernel
theorem dX7_ofSet_43 : decode cX7_ofSet 43 = .ok (.getfield 47, 3) := by decide +kernel
theorem dX7_ofSet_46 : decode cX7_ofSet 46 = .ok (.bipush 6, 2) := by decide +kernel
theorem dX7_ofSet_48 : decode cX7_ofSet 48 = .ok (.iload_n 1, 1) := by decide +kernel
theorem dX7_ofSet_49 : decode cX7_ofSet 49 = .ok (.imul, 1) := by decide +kernel
theorem dX7_ofSet_50 : decode cX7_ofSet 50 = .ok (.iload_n 2, 1) := by decide +kernel
theorem dX7_ofSet_51 : decode cX7_ofSet 51 = .ok (.iadd, 1) := by decide +kernel
theorem dX7_ofSet_52 : decode cX7_ofSet 52 = .ok (.iaload, 1) := by decide +kernel
theorem dX7_ofSet_53 : decode cX7_ofSet 53 = .ok (.ireturn, 1) := by decide +kernel
theorem dX7_errorNow_0 : decode cX7_errorNow 0 = .ok (.aload_n 0, 1) := by decide +kernel
theorem dX7_errorNow_1 : decode cX7_errorNow 1 = .ok (.iload_n 1, 1) := by decide +kernel
theorem dX7_errorNow_2 : decode cX7_errorNow 2 = .ok (.iconst 5, 1) := by decide +kernel
theorem dX7_errorNow_3 : decode cX7_errorNow 3 = .ok (.invokevirtual 176, 3) := by decide +kernel
theorem dX7_errorNow_6 : decode cX7_errorNow 6 = .ok (.istore_n 2, 1) := by decide +kernel
theorem dX7_errorNow_7 : decode cX7_errorNow 7 = .ok (.aload_n 0, 1) := by decide +kernel
theorem dX7_errorNow_8 : decode cX7_errorNow 8 = .ok (.aload_n 0, 1) := by decide +kernel
theorem dX7_errorNow_9 : decode cX7_errorNow 9 = .ok (.iload_n 1, 1) := by decide +kernel
theorem dX7_errorNow_10 : decode cX7_errorNow 10 = .ok (.iconst 0, 1) := by decide +kernel
theorem dX7_errorNow_11 : decode cX7_errorNow 11 = .ok (.invokevirtual 176, 3) := by decide +kernel
theorem dX7_errorNow_14 : decode cX7_errorNow 14 = .ok (.aload_n 0, 1) := by decide +kernel
theorem dX7_errorNow_15 : decode cX7_errorNow 15 = .ok (.iload_n 1, 1) := by decide +kernel
theorem dX7_errorNow_16 : decode cX7_errorNow 16 = .ok (.iconst 1, 1) := by decide +kernel
theorem dX7_errorNow_17 : decode cX7_errorNow 17 = .ok (.invokevirtual 176, 3) := by decide +kernel
theorem dX7_errorNow_20 : decode cX7_errorNow 20 = .ok (.aload_n 0, 1) := by decide +kernel
theorem dX7_errorNow_21 : decode cX7_errorNow 21 = .ok (.iload_n 1, 1) := by decide +kernel
theorem dX7_errorNow_22 : decode cX7_errorNow 22 = .ok (.iconst 2, 1) := by decide +kernel
theorem dX7_errorNow_23 : decode cX7_errorNow 23 = .ok (.invokevirtual 176, 3) := by decide +kernel
theorem dX7_errorNow_26 : decode cX7_errorNow 26 = .ok (.aload_n 0, 1) := by decide +kernel
theorem dX7_errorNow_27 : decode cX7_errorNow 27 = .ok (.iload_n 1, 1) := by decide +kernel
theorem dX7_errorNow_28 : decode cX7_errorNow 28 = .ok (.iconst 3, 1) := by decide +kernel
theorem dX7_errorNow_29 : decode cX7_errorNow 29 = .ok (.invokevirtual 176, 3) := by decide +kernel
theorem dX7_errorNow_32 : decode cX7_errorNow 32 = .ok (.aload_n 0, 1) := by decide +kernel
theorem dX7_errorNow_33 : decode cX7_errorNow 33 = .ok (.iload_n 1, 1) := by decide +kernel
theorem dX7_errorNow_34 : decode cX7_errorNow 34 = .ok (.iconst 4, 1) := by decide +kernel
theorem dX7_errorNow_35 : decode cX7_errorNow 35 = .ok (.invokevirtual 176, 3) := by decide +kernel
theorem dX7_errorNow_38 : decode cX7_errorNow 38 = .ok (.iload_n 2, 1) := by decide +kernel
theorem dX7_errorNow_39 : decode cX7_errorNow 39 = .ok (.invokevirtual 165, 3) := by decide +kernel
theorem dX7_errorNow_42 : decode cX7_errorNow 42 = .ok (.bipush 10, 2) := by decide +kernel
theorem dX7_errorNow_44 : decode cX7_errorNow 44 = .ok (.iload_n 2, 1) := by decide +kernel
theorem dX7_errorNow_45 : decode cX7_errorNow 45 = .ok (.aload_n 0, 1) := by decide +kernel
theorem dX7_errorNow_46 : decode cX7_errorNow 46 = .ok (.getfield 41, 3) := by decide +kernel
theorem dX7_errorNow_49 : decode cX7_errorNow 49 = .ok (.bipush 6, 2) := by decide +kernel
theorem dX7_errorNow_51 : decode cX7_errorNow 51 = .ok (.iload_n 1, 1) := by decide +kernel
theorem dX7_errorNow_52 : decode cX7_errorNow 52 = .ok (.imul, 1) := by decide +kernel
theorem dX7_errorNow_53 : decode cX7_errorNow 53 = .ok (.iconst 5, 1) := by decide +kernel
theorem dX7_errorNow_54 : decode cX7_errorNow 54 = .ok (.iadd, 1) := by decide +kernel
theorem dX7_errorNow_55 : decode cX7_errorNow 55 = .ok (.iaload, 1) := by decide +kernel
theorem dX7_errorNow_56 : decode cX7_errorNow 56 = .ok (.isub, 1) := by decide +kernel
theorem dX7_errorNow_57 : decode cX7_errorNow 57 = .ok (.invokestatic 91, 3) := by decide +kernel
theorem dX7_errorNow_60 : decode cX7_errorNow 60 = .ok (.imul, 1) := by decide +kernel
theorem dX7_errorNow_61 : decode cX7_errorNow 61 = .ok (.iadd, 1) := by decide +kernel
theorem dX7_errorNow_62 : decode cX7_errorNow 62 = .ok (.ireturn, 1) := by decide +kernel
theorem dX7_errorOf_0 : decode cX7_errorOf 0 = .ok (.aload_n 0, 1) := by decide +kernel
theorem dX7_errorOf_1 : decode cX7_errorOf 1 = .ok (.iload_n 1, 1) := by decide +kernel
theorem dX7_errorOf_2 : decode cX7_errorOf 2 = .ok (.invokevirtual 173, 3) := by decide +kernel
theorem dX7_errorOf_5 : decode cX7_errorOf 5 = .ok (.ifCond .eq 11, 3) := by decide +kernel
theorem dX7_errorOf_8 : decode cX7_errorOf 8 = .ok (.aload_n 0, 1) := by decide +kernel
theorem dX7_errorOf_9 : decode cX7_errorOf 9 = .ok (.iload_n 1, 1) := by decide +kernel
theorem dX7_errorOf_10 : decode cX7_errorOf 10 = .ok (.invokevirtual 179, 3) := by decide +kernel
theorem dX7_errorOf_13 : decode cX7_errorOf 13 = .ok (.goto 4, 3) := by decide +kernel
theorem dX7_errorOf_16 : decode cX7_errorOf 16 = .ok (.iconst (-1), 1) := by decide +kernel
theorem dX7_errorOf_17 : decode cX7_errorOf 17 = .ok (.ireturn, 1) := by decide +kernel
theorem dX7_sheet_0 : decode cX7_sheet 0 = .ok (.iload_n 1, 1) := by decide +kernel
theorem dX7_sheet_1 : decode cX7_sheet 1 = .ok (.iconst 0, 1) := by decide +kernel
theorem dX7_sheet_2 : decode cX7_sheet 2 = .ok (.iconst 5, 1) := by decide +kernel
theorem dX7_sheet_3 : decode cX7_sheet 3 = .ok (.invokestatic 75, 3) := by decide +kernel
theorem dX7_sheet_6 : decode cX7_sheet 6 = .ok (.ifCond .eq 13, 3) := by decide +kernel
theorem dX7_sheet_9 : decode cX7_sheet 9 = .ok (.iload_n 2, 1) := by decide +kernel
theorem dX7_sheet_10 : decode cX7_sheet 10 = .ok (.iconst 1, 1) := by decide +kernel
theorem dX7_sheet_11 : decode cX7_sheet 11 = .ok (.bipush 20, 2) := by decide +kernel
theorem dX7_sheet_13 : decode cX7_sheet 13 = .ok (.invokestatic 75, 3) := by decide +kernel
theorem dX7_sheet_16 : decode cX7_sheet 16 = .ok (.ifCond .ne 5, 3) := by decide +kernel
theorem dX7_sheet_19 : decode cX7_sheet 19 = .ok (.iconst (-1), 1) := by decide +kernel
theorem dX7_sheet_20 : decode cX7_sheet 20 = .ok (.ireturn, 1) := by decide +kernel
theorem dX7_sheet_21 : decode cX7_sheet 21 = .ok (.aload_n 0, 1) := by decide +kernel
theorem dX7_sheet_22 : decode cX7_sheet 22 = .ok (.getfield 182, 3) := by decide +kernel
theorem dX7_sheet_25 : decode cX7_sheet 25 = .ok (.bipush 8, 2) := by decide +kernel
theorem dX7_sheet_27 : decode cX7_sheet 27 = .ok (.if_icmp .ne 6, 3) := by decide +kernel
theorem dX7_sheet_30 : decode cX7_sheet 30 = .ok (.bipush (-2), 2) := by decide +kernel
theorem dX7_sheet_32 : decode cX7_sheet 32 = .ok (.ireturn, 1) := by decide +kernel
theorem dX7_sheet_33 : decode cX7_sheet 33 = .ok (.aload_n 0, 1) := by decide +kernel
theorem dX7_sheet_34 : decode cX7_sheet 34 = .ok (.getfield 50, 3) := by decide +kernel
theorem dX7_sheet_37 : decode cX7_sheet 37 = .ok (.aload_n 0, 1) := by decide +kernel
theorem dX7_sheet_38 : decode cX7_sheet 38 = .ok (.getfield 182, 3) := by decide +kernel
theorem dX7_sheet_41 : decode cX7_sheet 41 = .ok (.iload_n 1, 1) := by decide +kernel
theorem dX7_sheet_42 : decode cX7_sheet 42 = .ok (.iastore, 1) := by decide +kernel
theorem dX7_sheet_43 : decode cX7_sheet 43 = .ok (.aload_n 0, 1) := by decide +kernel
theorem dX7_sheet_44 : decode cX7_sheet 44 = .ok (.getfield 53, 3) := by decide +kernel
theorem dX7_sheet_47 : decode cX7_sheet 47 = .ok (.aload_n 0, 1) := by decide +kernel
theorem dX7_sheet_48 : decode cX7_sheet 48 = .ok (.getfield 182, 3) := by decide +kernel
theorem dX7_sheet_51 : decode cX7_sheet 51 = .ok (.iload_n 2, 1) := by decide +kernel
theorem dX7_sheet_52 : decode cX7_sheet 52 = .ok (.iastore, 1) := by decide +kernel
theorem dX7_sheet_53 : decode cX7_sheet 53 = .ok (.aload_n 0, 1) := by decide +kernel
theorem dX7_sheet_54 : decode cX7_sheet 54 = .ok (.dup, 1) := by decide +kernel
theorem dX7_sheet_55 : decode cX7_sheet 55 = .ok (.getfield 182, 3) := by decide +kernel
theorem dX7_sheet_58 : decode cX7_sheet 58 = .ok (.iconst 1, 1) := by decide +kernel
theorem dX7_sheet_59 : decode cX7_sheet 59 = .ok (.iadd, 1) := by decide +kernel
theorem dX7_sheet_60 : decode cX7_sheet 60 = .ok (.putfield 182, 3) := by decide +kernel
theorem dX7_sheet_63 : decode cX7_sheet 63 = .ok (.aload_n 0, 1) := by decide +kernel
theorem dX7_sheet_64 : decode cX7_sheet 64 = .ok (.getfield 182, 3) := by decide +kernel
theorem dX7_sheet_67 : decode cX7_sheet 67 = .ok (.ireturn, 1) := by decide +kernel
theorem dX7_turn_0 : decode cX7_turn 0 = .ok (.iconst 0, 1) := by decide +kernel
theorem dX7_turn_1 : decode cX7_turn 1 = .ok (.istore 4, 2) := by decide +kernel
theorem dX7_turn_3 : decode cX7_turn 3 = .ok (.aload_n 0, 1) := by decide +kernel
theorem dX7_turn_4 : decode cX7_turn 4 = .ok (.iload_n 1, 1) := by decide +kernel
theorem dX7_turn_5 : decode cX7_turn 5 = .ok (.invokevirtual 179, 3) := by decide +kernel
theorem dX7_turn_8 : decode cX7_turn 8 = .ok (.istore 5, 2) := by decide +kernel
theorem dX7_turn_10 : decode cX7_turn 10 = .ok (.iconst 1, 1) := by decide +kernel
theorem dX7_turn_11 : decode cX7_turn 11 = .ok (.istore 6, 2) := by decide +kernel
theorem dX7_turn_13 : decode cX7_turn 13 = .ok (.iload 6, 2) := by decide +kernel
theorem dX7_turn_15 : decode cX7_turn 15 = .ok (.ifCond .eq 79, 3) := by decide +kernel
theorem dX7_turn_18 : decode cX7_turn 18 = .ok (.iload 4, 2) := by decide +kernel
theorem dX7_turn_20 : decode cX7_turn 20 = .ok (.bipush 30, 2) := by decide +kernel
theorem dX7_turn_22 : decode cX7_turn 22 = .ok (.if_icmp .ge 72, 3) := by decide +kernel
theorem dX7_turn_25 : decode cX7_turn 25 = .ok (.aload_n 0, 1) := by decide +kernel
theorem dX7_turn_26 : decode cX7_turn 26 = .ok (.getfield 47, 3) := by decide +kernel
theorem dX7_turn_29 : decode cX7_turn 29 = .ok (.bipush 6, 2) := by decide +kernel
theorem dX7_turn_31 : decode cX7_turn 31 = .ok (.iload_n 1, 1) := by decide +kernel
theorem dX7_turn_32 : decode cX7_turn 32 = .ok (.imul, 1) := by decide +kernel
theorem dX7_turn_33 : decode cX7_turn 33 = .ok (.iload_n 2, 1) := by decide +kernel
theorem dX7_turn_34 : decode cX7_turn 34 = .ok (.iadd, 1) := by decide +kernel
theorem dX7_turn_35 : decode cX7_turn 35 = .ok (.dup2, 1) := by decide +kernel
theorem dX7_turn_36 : decode cX7_turn 36 = .ok (.iaload, 1) := by decide +kernel
theorem dX7_turn_37 : decode cX7_turn 37 = .ok (.iload_n 3, 1) := by decide +kernel
theorem dX7_turn_38 : decode cX7_turn 38 = .ok (.iadd, 1) := by decide +kernel
theorem dX7_turn_39 : decode cX7_turn 39 = .ok (.iastore, 1) := by decide +kernel
end
section
theorem dX7_turn_40 : decode cX7_turn 40 = .ok (.aload_n 0, 1) := by decide +kernel
theorem dX7_turn_41 : decode cX7_turn 41 = .ok (.iload_n 1, 1) := by decide +kernel
theorem dX7_turn_42 : decode cX7_turn 42 = .ok (.invokevirtual 179, 3) := by decide +kernel
theorem dX7_turn_45 : decode cX7_turn 45 = .ok (.istore 7, 2) := by decide +kernel
theorem dX7_turn_47 : decode cX7_turn 47 = .ok (.iload 7, 2) := by decide +kernel
theorem dX7_turn_49 : decode cX7_turn 49 = .ok (.iload 5, 2) := by decide +kernel
theorem dX7_turn_51 : decode cX7_turn 51 = .ok (.if_icmp .ge 7, 3) := by decide +kernel
theorem dX7_turn_54 : decode cX7_turn 54 = .ok (.iconst 1, 1) := by decide +kernel
theorem dX7_turn_55 : decode cX7_turn 55 = .ok (.goto 4, 3) := by decide +kernel
theorem dX7_turn_58 : decode cX7_turn 58 = .ok (.iconst 0, 1) := by decide +kernel
theorem dX7_turn_59 : decode cX7_turn 59 = .ok (.istore 6, 2) := by decide +kernel
theorem dX7_turn_61 : decode cX7_turn 61 = .ok (.iload 6, 2) := by decide +kernel
theorem dX7_turn_63 : decode cX7_turn 63 = .ok (.ifCond .eq 13, 3) := by decide +kernel
theorem dX7_turn_66 : decode cX7_turn 66 = .ok (.iload 7, 2) := by decide +kernel
theorem dX7_turn_68 : decode cX7_turn 68 = .ok (.istore 5, 2) := by decide +kernel
theorem dX7_turn_70 : decode cX7_turn 70 = .ok (.iinc 4 1, 3) := by decide +kernel
theorem dX7_turn_73 : decode cX7_turn 73 = .ok (.goto 18, 3) := by decide +kernel
theorem dX7_turn_76 : decode cX7_turn 76 = .ok (.aload_n 0, 1) := by decide +kernel
theorem dX7_turn_77 : decode cX7_turn 77 = .ok (.getfield 47, 3) := by decide +kernel
theorem dX7_turn_80 : decode cX7_turn 80 = .ok (.bipush 6, 2) := by decide +kernel
theorem dX7_turn_82 : decode cX7_turn 82 = .ok (.iload_n 1, 1) := by decide +kernel
theorem dX7_turn_83 : decode cX7_turn 83 = .ok (.imul, 1) := by decide +kernel
theorem dX7_turn_84 : decode cX7_turn 84 = .ok (.iload_n 2, 1) := by decide +kernel
theorem dX7_turn_85 : decode cX7_turn 85 = .ok (.iadd, 1) := by decide +kernel
theorem dX7_turn_86 : decode cX7_turn 86 = .ok (.dup2, 1) := by decide +kernel
theorem dX7_turn_87 : decode cX7_turn 87 = .ok (.iaload, 1) := by decide +kernel
theorem dX7_turn_88 : decode cX7_turn 88 = .ok (.iload_n 3, 1) := by decide +kernel
theorem dX7_turn_89 : decode cX7_turn 89 = .ok (.isub, 1) := by decide +kernel
theorem dX7_turn_90 : decode cX7_turn 90 = .ok (.iastore, 1) := by decide +kernel
theorem dX7_turn_91 : decode cX7_turn 91 = .ok (.goto (-78), 3) := by decide +kernel
theorem dX7_turn_94 : decode cX7_turn 94 = .ok (.iload 4, 2) := by decide +kernel
theorem dX7_turn_96 : decode cX7_turn 96 = .ok (.ireturn, 1) := by decide +kernel
theorem dX7_oneRound_0 : decode cX7_oneRound 0 = .ok (.iconst 0, 1) := by decide +kernel
theorem dX7_oneRound_1 : decode cX7_oneRound 1 = .ok (.istore_n 2, 1) := by decide +kernel
theorem dX7_oneRound_2 : decode cX7_oneRound 2 = .ok (.iconst 0, 1) := by decide +kernel
theorem dX7_oneRound_3 : decode cX7_oneRound 3 = .ok (.istore_n 3, 1) := by decide +kernel
theorem dX7_oneRound_4 : decode cX7_oneRound 4 = .ok (.iload_n 3, 1) := by decide +kernel
theorem dX7_oneRound_5 : decode cX7_oneRound 5 = .ok (.aload_n 0, 1) := by decide +kernel
theorem dX7_oneRound_6 : decode cX7_oneRound 6 = .ok (.getfield 182, 3) := by decide +kernel
theorem dX7_oneRound_9 : decode cX7_oneRound 9 = .ok (.if_icmp .ge 59, 3) := by decide +kernel
theorem dX7_oneRound_12 : decode cX7_oneRound 12 = .ok (.aload_n 0, 1) := by decide +kernel
theorem dX7_oneRound_13 : decode cX7_oneRound 13 = .ok (.iload_n 1, 1) := by decide +kernel
theorem dX7_oneRound_14 : decode cX7_oneRound 14 = .ok (.aload_n 0, 1) := by decide +kernel
theorem dX7_oneRound_15 : decode cX7_oneRound 15 = .ok (.getfield 50, 3) := by decide +kernel
theorem dX7_oneRound_18 : decode cX7_oneRound 18 = .ok (.iload_n 3, 1) := by decide +kernel
theorem dX7_oneRound_19 : decode cX7_oneRound 19 = .ok (.iaload, 1) := by decide +kernel
theorem dX7_oneRound_20 : decode cX7_oneRound 20 = .ok (.aload_n 0, 1) := by decide +kernel
theorem dX7_oneRound_21 : decode cX7_oneRound 21 = .ok (.getfield 53, 3) := by decide +kernel
theorem dX7_oneRound_24 : decode cX7_oneRound 24 = .ok (.iload_n 3, 1) := by decide +kernel
theorem dX7_oneRound_25 : decode cX7_oneRound 25 = .ok (.iaload, 1) := by decide +kernel
theorem dX7_oneRound_26 : decode cX7_oneRound 26 = .ok (.invokevirtual 185, 3) := by decide +kernel
theorem dX7_oneRound_29 : decode cX7_oneRound 29 = .ok (.istore 4, 2) := by decide +kernel
theorem dX7_oneRound_31 : decode cX7_oneRound 31 = .ok (.iload_n 2, 1) := by decide +kernel
theorem dX7_oneRound_32 : decode cX7_oneRound 32 = .ok (.iload 4, 2) := by decide +kernel
theorem dX7_oneRound_34 : decode cX7_oneRound 34 = .ok (.ifCond .le 8, 3) := by decide +kernel
theorem dX7_oneRound_37 : decode cX7_oneRound 37 = .ok (.iload 4, 2) := by decide +kernel
theorem dX7_oneRound_39 : decode cX7_oneRound 39 = .ok (.goto 21, 3) := by decide +kernel
theorem dX7_oneRound_42 : decode cX7_oneRound 42 = .ok (.aload_n 0, 1) := by decide +kernel
theorem dX7_oneRound_43 : decode cX7_oneRound 43 = .ok (.iload_n 1, 1) := by decide +kernel
theorem dX7_oneRound_44 : decode cX7_oneRound 44 = .ok (.aload_n 0, 1) := by decide +kernel
theorem dX7_oneRound_45 : decode cX7_oneRound 45 = .ok (.getfield 50, 3) := by decide +kernel
theorem dX7_oneRound_48 : decode cX7_oneRound 48 = .ok (.iload_n 3, 1) := by decide +kernel
theorem dX7_oneRound_49 : decode cX7_oneRound 49 = .ok (.iaload, 1) := by decide +kernel
theorem dX7_oneRound_50 : decode cX7_oneRound 50 = .ok (.aload_n 0, 1) := by decide +kernel
theorem dX7_oneRound_51 : decode cX7_oneRound 51 = .ok (.getfield 53, 3) := by decide +kernel
theorem dX7_oneRound_54 : decode cX7_oneRound 54 = .ok (.iload_n 3, 1) := by decide +kernel
theorem dX7_oneRound_55 : decode cX7_oneRound 55 = .ok (.iaload, 1) := by decide +kernel
theorem dX7_oneRound_56 : decode cX7_oneRound 56 = .ok (.ineg, 1) := by decide +kernel
theorem dX7_oneRound_57 : decode cX7_oneRound 57 = .ok (.invokevirtual 185, 3) := by decide +kernel
theorem dX7_oneRound_60 : decode cX7_oneRound 60 = .ok (.iadd, 1) := by decide +kernel
theorem dX7_oneRound_61 : decode cX7_oneRound 61 = .ok (.istore_n 2, 1) := by decide +kernel
theorem dX7_oneRound_62 : decode cX7_oneRound 62 = .ok (.iinc 3 1, 3) := by decide +kernel
theorem dX7_oneRound_65 : decode cX7_oneRound 65 = .ok (.goto (-61), 3) := by decide +kernel
theorem dX7_oneRound_68 : decode cX7_oneRound 68 = .ok (.iload_n 2, 1) := by decide +kernel
theorem dX7_oneRound_69 : decode cX7_oneRound 69 = .ok (.ireturn, 1) := by decide +kernel
theorem dX7_round_0 : decode cX7_round 0 = .ok (.aload_n 0, 1) := by decide +kernel
theorem dX7_round_1 : decode cX7_round 1 = .ok (.iload_n 1, 1) := by decide +kernel
theorem dX7_round_2 : decode cX7_round 2 = .ok (.invokevirtual 173, 3) := by decide +kernel
theorem dX7_round_5 : decode cX7_round 5 = .ok (.ifCond .ne 5, 3) := by decide +kernel
theorem dX7_round_8 : decode cX7_round 8 = .ok (.iconst (-1), 1) := by decide +kernel
theorem dX7_round_9 : decode cX7_round 9 = .ok (.ireturn, 1) := by decide +kernel
theorem dX7_round_10 : decode cX7_round 10 = .ok (.aload_n 0, 1) := by decide +kernel
theorem dX7_round_11 : decode cX7_round 11 = .ok (.getfield 182, 3) := by decide +kernel
theorem dX7_round_14 : decode cX7_round 14 = .ok (.ifCond .ne 8, 3) := by decide +kernel
theorem dX7_round_17 : decode cX7_round 17 = .ok (.bipush (-3), 2) := by decide +kernel
theorem dX7_round_19 : decode cX7_round 19 = .ok (.goto 8, 3) := by decide +kernel
theorem dX7_round_22 : decode cX7_round 22 = .ok (.aload_n 0, 1) := by decide +kernel
theorem dX7_round_23 : decode cX7_round 23 = .ok (.iload_n 1, 1) := by decide +kernel
theorem dX7_round_24 : decode cX7_round 24 = .ok (.invokevirtual 188, 3) := by decide +kernel
theorem dX7_round_27 : decode cX7_round 27 = .ok (.ireturn, 1) := by decide +kernel
theorem dX7_align_0 : decode cX7_align 0 = .ok (.aload_n 0, 1) := by decide +kernel
theorem dX7_align_1 : decode cX7_align 1 = .ok (.iload_n 1, 1) := by decide +kernel
theorem dX7_align_2 : decode cX7_align 2 = .ok (.invokevirtual 173, 3) := by decide +kernel
theorem dX7_align_5 : decode cX7_align 5 = .ok (.ifCond .ne 5, 3) := by decide +kernel
theorem dX7_align_8 : decode cX7_align 8 = .ok (.iconst (-1), 1) := by decide +kernel
theorem dX7_align_9 : decode cX7_align 9 = .ok (.ireturn, 1) := by decide +kernel
theorem dX7_align_10 : decode cX7_align 10 = .ok (.aload_n 0, 1) := by decide +kernel
theorem dX7_align_11 : decode cX7_align 11 = .ok (.getfield 182, 3) := by decide +kernel
theorem dX7_align_14 : decode cX7_align 14 = .ok (.ifCond .ne 6, 3) := by decide +kernel
theorem dX7_align_17 : decode cX7_align 17 = .ok (.bipush (-3), 2) := by decide +kernel
theorem dX7_align_19 : decode cX7_align 19 = .ok (.ireturn, 1) := by decide +kernel
theorem dX7_align_20 : decode cX7_align 20 = .ok (.iconst 0, 1) := by decide +kernel
theorem dX7_align_21 : decode cX7_align 21 = .ok (.istore_n 2, 1) := by decide +kernel
theorem dX7_align_22 : decode cX7_align 22 = .ok (.iconst 1, 1) := by decide +kernel
theorem dX7_align_23 : decode cX7_align 23 = .ok (.istore_n 3, 1) := by decide +kernel
theorem dX7_align_24 : decode cX7_align 24 = .ok (.iload_n 3, 1) := by decide +kernel
theorem dX7_align_25 : decode cX7_align 25 = .ok (.ifCond .eq 29, 3) := by decide +kernel
theorem dX7_align_28 : decode cX7_align 28 = .ok (.iload_n 2, 1) := by decide +kernel
theorem dX7_align_29 : decode cX7_align 29 = .ok (.bipush 50, 2) := by decide +kernel
theorem dX7_align_31 : decode cX7_align 31 = .ok (.if_icmp .ge 23, 3) := by decide +kernel
theorem dX7_align_34 : decode cX7_align 34 = .ok (.aload_n 0, 1) := by decide +kernel
theorem dX7_align_35 : decode cX7_align 35 = .ok (.iload_n 1, 1) := by decide +kernel
theorem dX7_align_36 : decode cX7_align 36 = .ok (.invokevirtual 188, 3) := by decide +kernel
theorem dX7_align_39 : decode cX7_align 39 = .ok (.ifCond .le 7, 3) := by decide +kernel
theorem dX7_align_42 : decode cX7_align 42 = .ok (.iconst 1, 1) := by decide +kernel
theorem dX7_align_43 : decode cX7_align 43 = .ok (.goto 4, 3) := by decide +kernel
theorem dX7_align_46 : decode cX7_align 46 = .ok (.iconst 0, 1) := by decide +kernel
theorem dX7_align_47 : decode cX7_align 47 = .ok (.istore_n 3, 1) := by decide +kernel
theorem dX7_align_48 : decode cX7_align 48 = .ok (.iinc 2 1, 3) := by decide +kernel
theorem dX7_align_51 : decode cX7_align 51 = .ok (.goto (-27), 3) := by decide +kernel
theorem dX7_align_54 : decode cX7_align 54 = .ok (.iload_n 2, 1) := by decide +kernel
theorem dX7_align_55 : decode cX7_align 55 = .ok (.ireturn, 1) := by decide +kernel
theorem dX7_fault_0 : decode cX7_fault 0 = .ok (.iload_n 1, 1) := by decide +kernel
theorem dX7_fault_1 : decode cX7_fault 1 = .ok (.iconst 1, 1) := by decide +kernel
theorem dX7_fault_2 : decode cX7_fault 2 = .ok (.bipush 99, 2) := by decide +kernel
theorem dX7_fault_4 : decode cX7_fault 4 = .ok (.invokestatic 75, 3) := by decide +kernel
theorem dX7_fault_7 : decode cX7_fault 7 = .ok (.ifCond .ne 5, 3) := by decide +kernel
theorem dX7_fault_10 : decode cX7_fault 10 = .ok (.iconst (-1), 1) := by decide +kernel
theorem dX7_fault_11 : decode cX7_fault 11 = .ok (.ireturn, 1) := by decide +kernel
theorem dX7_fault_12 : decode cX7_fault 12 = .ok (.aload_n 0, 1) := by decide +kernel
theorem dX7_fault_13 : decode cX7_fault 13 = .ok (.getfield 191, 3) := by decide +kernel
theorem dX7_fault_16 : decode cX7_fault 16 = .ok (.bipush 12, 2) := by decide +kernel
theorem dX7_fault_18 : decode cX7_fault 18 = .ok (.if_icmp .ne 6, 3) := by decide +kernel
theorem dX7_fault_21 : decode cX7_fault 21 = .ok (.bipush (-2), 2) := by decide +kernel
theorem dX7_fault_23 : decode cX7_fault 23 = .ok (.ireturn, 1) := by decide +kernel
theorem dX7_fault_24 : decode cX7_fault 24 = .ok (.aload_n 0, 1) := by decide +kernel
theorem dX7_fault_25 : decode cX7_fault 25 = .ok (.getfield 56, 3) := by decide +kernel
theorem dX7_fault_28 : decode cX7_fault 28 = .ok (.aload_n 0, 1) := by decide +kernel
theorem dX7_fault_29 : decode cX7_fault 29 = .ok (.getfield 191, 3) := by decide +kernel
theorem dX7_fault_32 : decode cX7_fault 32 = .ok (.iload_n 1, 1) := by decide +kernel
theorem dX7_fault_33 : decode cX7_fault 33 = .ok (.iastore, 1) := by decide +kernel
theorem dX7_fault_34 : decode cX7_fault 34 = .ok (.aload_n 0, 1) := by decide +kernel
theorem dX7_fault_35 : decode cX7_fault 35 = .ok (.dup, 1) := by decide +kernel
theorem dX7_fault_36 : decode cX7_fault 36 = .ok (.getfield 194, 3) := by decide +kernel
theorem dX7_fault_39 : decode cX7_fault 39 = .ok (.iconst 1, 1) := by decide +kernel
theorem dX7_fault_40 : decode cX7_fault 40 = .ok (.aload_n 0, 1) := by decide +kernel
theorem dX7_fault_41 : decode cX7_fault 41 = .ok (.getfield 191, 3) := by decide +kernel
theorem dX7_fault_44 : decode cX7_fault 44 = .ok (.ishl, 1) := by decide +kernel
theorem dX7_fault_45 : decode cX7_fault 45 = .ok (.ior, 1) := by decide +kernel
theorem dX7_fault_46 : decode cX7_fault 46 = .ok (.putfield 194, 3) := by decide +kernel
theorem dX7_fault_49 : decode cX7_fault 49 = .ok (.aload_n 0, 1) := by decide +kernel
theorem dX7_fault_50 : decode cX7_fault 50 = .ok (.dup, 1) := by decide +kernel
theorem dX7_fault_51 : decode cX7_fault 51 = .ok (.getfield 191, 3) := by decide +kernel
theorem dX7_fault_54 : decode cX7_fault 54 = .ok (.iconst 1, 1) := by decide +kernel
theorem dX7_fault_55 : decode cX7_fault 55 = .ok (.iadd, 1) := by decide +kernel
theorem dX7_fault_56 : decode cX7_fault 56 = .ok (.putfield 191, 3) := by decide +kernel
theorem dX7_fault_59 : decode cX7_fault 59 = .ok (.aload_n 0, 1) := by decide +kernel
theorem dX7_fault_60 : decode cX7_fault 60 = .ok (.getfield 191, 3) := by decide +kernel
theorem dX7_fault_63 : decode cX7_fault 63 = .ok (.iconst 1, 1) := by decide +kernel
theorem dX7_fault_64 : decode cX7_fault 64 = .ok (.isub, 1) := by decide +kernel
theorem dX7_fault_65 : decode cX7_fault 65 = .ok (.ireturn, 1) := by decide +kernel
theorem dX7_test_0 : decode cX7_test 0 = .ok (.iload_n 1, 1) := by decide +kernel
theorem dX7_test_1 : decode cX7_test 1 = .ok (.iconst 1, 1) := by decide +kernel
theorem dX7_test_2 : decode cX7_test 2 = .ok (.bipush 99, 2) := by decide +kernel
theorem dX7_test_4 : decode cX7_test 4 = .ok (.invokestatic 75, 3) := by decide +kernel
theorem dX7_test_7 : decode cX7_test 7 = .ok (.ifCond .ne 5, 3) := by decide +kernel
theorem dX7_test_10 : decode cX7_test 10 = .ok (.iconst (-1), 1) := by decide +kernel
theorem dX7_test_11 : decode cX7_test 11 = .ok (.ireturn, 1) := by decide +kernel
theorem dX7_test_12 : decode cX7_test 12 = .ok (.aload_n 0, 1) := by decide +kernel
theorem dX7_test_13 : decode cX7_test 13 = .ok (.getfield 197, 3) := by decide +kernel
theorem dX7_test_16 : decode cX7_test 16 = .ok (.bipush 12, 2) := by decide +kernel
theorem dX7_test_18 : decode cX7_test 18 = .ok (.if_icmp .ne 6, 3) := by decide +kernel
theorem dX7_test_21 : decode cX7_test 21 = .ok (.bipush (-2), 2) := by decide +kernel
theorem dX7_test_23 : decode cX7_test 23 = .ok (.ireturn, 1) := by decide +kernel
theorem dX7_test_24 : decode cX7_test 24 = .ok (.aload_n 0, 1) := by decide +kernel
theorem dX7_test_25 : decode cX7_test 25 = .ok (.getfield 59, 3) := by decide +kernel
theorem dX7_test_28 : decode cX7_test 28 = .ok (.aload_n 0, 1) := by decide +kernel
theorem dX7_test_29 : decode cX7_test 29 = .ok (.getfield 197, 3) := by decide +kernel
theorem dX7_test_32 : decode cX7_test 32 = .ok (.iload_n 1, 1) := by decide +kernel
theorem dX7_test_33 : decode cX7_test 33 = .ok (.iastore, 1) := by decide +kernel
theorem dX7_test_34 : decode cX7_test 34 = .ok (.aload_n 0, 1) := by decide +kernel
theorem dX7_test_35 : decode cX7_test 35 = .ok (.dup, 1) := by decide +kernel
theorem dX7_test_36 : decode cX7_test 36 = .ok (.getfield 197, 3) := by decide +kernel
theorem dX7_test_39 : decode cX7_test 39 = .ok (.iconst 1, 1) := by decide +kernel
theorem dX7_test_40 : decode cX7_test 40 = .ok (.iadd, 1) := by decide +kernel
theorem dX7_test_41 : decode cX7_test 41 = .ok (.putfield 197, 3) := by decide +kernel
theorem dX7_test_44 : decode cX7_test 44 = .ok (.aload_n 0, 1) := by decide +kernel
theorem dX7_test_45 : decode cX7_test 45 = .ok (.getfield 197, 3) := by decide +kernel
theorem dX7_test_48 : decode cX7_test 48 = .ok (.iconst 1, 1) := by decide +kernel
theorem dX7_test_49 : decode cX7_test 49 = .ok (.isub, 1) := by decide +kernel
theorem dX7_test_50 : decode cX7_test 50 = .ok (.ireturn, 1) := by decide +kernel
theorem dX7_isTest_0 : decode cX7_isTest 0 = .ok (.iload_n 1, 1) := by decide +kernel
theorem dX7_isTest_1 : decode cX7_isTest 1 = .ok (.ifCond .lt 15, 3) := by decide +kernel
theorem dX7_isTest_4 : decode cX7_isTest 4 = .ok (.iload_n 1, 1) := by decide +kernel
theorem dX7_isTest_5 : decode cX7_isTest 5 = .ok (.aload_n 0, 1) := by decide +kernel
theorem dX7_isTest_6 : decode cX7_isTest 6 = .ok (.getfield 197, 3) := by decide +kernel
theorem dX7_isTest_9 : decode cX7_isTest 9 = .ok (.if_icmp .ge 7, 3) := by decide +kernel
theorem dX7_isTest_12 : decode cX7_isTest 12 = .ok (.iconst 1, 1) := by decide +kernel
theorem dX7_isTest_13 : decode cX7_isTest 13 = .ok (.goto 4, 3) := by decide +kernel
theorem dX7_isTest_16 : decode cX7_isTest 16 = .ok (.iconst 0, 1) := by decide +kernel
theorem dX7_isTest_17 : decode cX7_isTest 17 = .ok (.ireturn, 1) := by decide +kernel
theorem dX7_reading_0 : decode cX7_reading 0 = .ok (.aload_n 0, 1) := by decide +kernel
theorem dX7_reading_1 : decode cX7_reading 1 = .ok (.iload_n 1, 1) := by decide +kernel
theorem dX7_reading_2 : decode cX7_reading 2 = .ok (.invokevirtual 200, 3) := by decide +kernel
theorem dX7_reading_5 : decode cX7_reading 5 = .ok (.ifCond .eq 24, 3) := by decide +kernel
theorem dX7_reading_8 : decode cX7_reading 8 = .ok (.iload_n 2, 1) := by decide +kernel
theorem dX7_reading_9 : decode cX7_reading 9 = .ok (.ifCond .lt 20, 3) := by decide +kernel
theorem dX7_reading_12 : decode cX7_reading 12 = .ok (.iload_n 2, 1) := by decide +kernel
theorem dX7_reading_13 : decode cX7_reading 13 = .ok (.aload_n 0, 1) := by decide +kernel
theorem dX7_reading_14 : decode cX7_reading 14 = .ok (.getfield 191, 3) := by decide +kernel
theorem dX7_reading_17 : decode cX7_reading 17 = .ok (.if_icmp .ge 12, 3) := by decide +kernel
theorem dX7_reading_20 : decode cX7_reading 20 = .ok (.iload_n 3, 1) := by decide +kernel
theorem dX7_reading_21 : decode cX7_reading 21 = .ok (.iconst 0, 1) := by decide +kernel
theorem dX7_reading_22 : decode cX7_reading 22 = .ok (.iconst 3, 1) := by decide +kernel
theorem dX7_reading_23 : decode cX7_reading 23 = .ok (.invokestatic 75, 3) := by decide +kernel
theorem dX7_reading_26 : decode cX7_reading 26 = .ok (.ifCond .ne 5, 3) := by decide +kernel
theorem dX7_reading_29 : decode cX7_reading 29 = .ok (.iconst (-1), 1) := by decide +kernel
theorem dX7_reading_30 : decode cX7_reading 30 = .ok (.ireturn, 1) := by decide +kernel
theorem dX7_reading_31 : decode cX7_reading 31 = .ok (.aload_n 0, 1) := by decide +kernel
theorem dX7_reading_32 : decode cX7_reading 32 = .ok (.getfield 62, 3) := by decide +kernel
theorem dX7_reading_35 : decode cX7_reading 35 = .ok (.bipush 12, 2) := by decide +kernel
theorem dX7_reading_37 : decode cX7_reading 37 = .ok (.iload_n 1, 1) := by decide +kernel
theorem dX7_reading_38 : decode cX7_reading 38 = .ok (.imul, 1) := by decide +kernel
theorem dX7_reading_39 : decode cX7_reading 39 = .ok (.iload_n 2, 1) := by decide +kernel
theorem dX7_reading_40 : decode cX7_reading 40 = .ok (.iadd, 1) := by decide +kernel
theorem dX7_reading_41 : decode cX7_reading 41 = .ok (.iaload, 1) := by decide +kernel
theorem dX7_reading_42 : decode cX7_reading 42 = .ok (.istore 4, 2) := by decide +kernel
theorem dX7_reading_44 : decode cX7_reading 44 = .ok (.aload_n 0, 1) := by decide +kernel
theorem dX7_reading_45 : decode cX7_reading 45 = .ok (.getfield 62, 3) := by decide +kernel
theorem dX7_reading_48 : decode cX7_reading 48 = .ok (.bipush 12, 2) := by decide +kernel
theorem dX7_reading_50 : decode cX7_reading 50 = .ok (.iload_n 1, 1) := by decide +kernel
theorem dX7_reading_51 : decode cX7_reading 51 = .ok (.imul, 1) := by decide +kernel
theorem dX7_reading_52 : decode cX7_reading 52 = .ok (.iload_n 2, 1) := by decide +kernel
theorem dX7_reading_53 : decode cX7_reading 53 = .ok (.iadd, 1) := by decide +kernel
theorem dX7_reading_54 : decode cX7_reading 54 = .ok (.iload_n 3, 1) := by decide +kernel
theorem dX7_reading_55 : decode cX7_reading 55 = .ok (.iastore, 1) := by decide +kernel
theorem dX7_reading_56 : decode cX7_reading 56 = .ok (.iload 4, 2) := by decide +kernel
theorem dX7_reading_58 : decode cX7_reading 58 = .ok (.ireturn, 1) := by decide +kernel
theorem dX7_leaves_0 : decode cX7_leaves 0 = .ok (.iconst 0, 1) := by decide +kernel
theorem dX7_leaves_1 : decode cX7_leaves 1 = .ok (.istore 4, 2) := by decide +kernel
theorem dX7_leaves_3 : decode cX7_leaves 3 = .ok (.iconst 0, 1) := by decide +kernel
theorem dX7_leaves_4 : decode cX7_leaves 4 = .ok (.istore 5, 2) := by decide +kernel
theorem dX7_leaves_6 : decode cX7_leaves 6 = .ok (.iload 5, 2) := by decide +kernel
theorem dX7_leaves_8 : decode cX7_leaves 8 = .ok (.aload_n 0, 1) := by decide +kernel
theorem dX7_leaves_9 : decode cX7_leaves 9 = .ok (.getfield 191, 3) := by decide +kernel
theorem dX7_leaves_12 : decode cX7_leaves 12 = .ok (.if_icmp .ge 48, 3) := by decide +kernel
theorem dX7_leaves_15 : decode cX7_leaves 15 = .ok (.iload 4, 2) := by decide +kernel
theorem dX7_leaves_17 : decode cX7_leaves 17 = .ok (.iload_n 1, 1) := by decide +kernel
theorem dX7_leaves_18 : decode cX7_leaves 18 = .ok (.iload 5, 2) := by decide +kernel
theorem dX7_leaves_20 : decode cX7_leaves 20 = .ok (.ishr, 1) := by decide +kernel
theorem dX7_leaves_21 : decode cX7_leaves 21 = .ok (.iconst 1, 1) := by decide +kernel
theorem dX7_leaves_22 : decode cX7_leaves 22 = .ok (.iand, 1) := by decide +kernel
theorem dX7_leaves_23 : decode cX7_leaves 23 = .ok (.iconst 1, 1) := by decide +kernel
theorem dX7_leaves_24 : decode cX7_leaves 24 = .ok (.if_icmp .ne 26, 3) := by decide +kernel
theorem dX7_leaves_27 : decode cX7_leaves 27 = .ok (.aload_n 0, 1) := by decide +kernel
theorem dX7_leaves_28 : decode cX7_leaves 28 = .ok (.getfield 62, 3) := by decide +kernel
theorem dX7_leaves_31 : decode cX7_leaves 31 = .ok (.bipush 12, 2) := by decide +kernel
theorem dX7_leaves_33 : decode cX7_leaves 33 = .ok (.iload_n 2, 1) := by decide +kernel
theorem dX7_leaves_34 : decode cX7_leaves 34 = .ok (.imul, 1) := by decide +kernel
theorem dX7_leaves_35 : decode cX7_leaves 35 = .ok (.iload 5, 2) := by decide +kernel
theorem dX7_leaves_37 : decode cX7_leaves 37 = .ok (.iadd, 1) := by decide +kernel
theorem dX7_leaves_38 : decode cX7_leaves 38 = .ok (.iaload, 1) := by decide +kernel
theorem dX7_leaves_39 : decode cX7_leaves 39 = .ok (.iload_n 3, 1) := by decide +kernel
theorem dX7_leaves_40 : decode cX7_leaves 40 = .ok (.if_icmp .ne 10, 3) := by decide +kernel
theorem dX7_leaves_43 : decode cX7_leaves 43 = .ok (.iconst 1, 1) := by decide +kernel
theorem dX7_leaves_44 : decode cX7_leaves 44 = .ok (.iload 5, 2) := by decide +kernel
theorem dX7_leaves_46 : decode cX7_leaves 46 = .ok (.ishl, 1) := by decide +kernel
theorem dX7_leaves_47 : decode cX7_leaves 47 = .ok (.goto 4, 3) := by decide +kernel
theorem dX7_leaves_50 : decode cX7_leaves 50 = .ok (.iconst 0, 1) := by decide +kernel
theorem dX7_leaves_51 : decode cX7_leaves 51 = .ok (.ior, 1) := by decide +kernel
theorem dX7_leaves_52 : decode cX7_leaves 52 = .ok (.istore 4, 2) := by decide +kernel
theorem dX7_leaves_54 : decode cX7_leaves 54 = .ok (.iinc 5 1, 3) := by decide +kernel
theorem dX7_leaves_57 : decode cX7_leaves 57 = .ok (.goto (-51), 3) := by decide +kernel
theorem dX7_leaves_60 : decode cX7_leaves 60 = .ok (.iload 4, 2) := by decide +kernel
theorem dX7_leaves_62 : decode cX7_leaves 62 = .ok (.ireturn, 1) := by decide +kernel
theorem dX7_bitsOf_0 : decode cX7_bitsOf 0 = .ok (.iconst 0, 1) := by decide +kernel
theorem dX7_bitsOf_1 : decode cX7_bitsOf 1 = .ok (.istore_n 1, 1) := by decide +kernel
theorem dX7_bitsOf_2 : decode cX7_bitsOf 2 = .ok (.iconst 0, 1) := by decide +kernel
theorem dX7_bitsOf_3 : decode cX7_bitsOf 3 = .ok (.istore_n 2, 1) := by decide +kernel
theorem dX7_bitsOf_4 : decode cX7_bitsOf 4 = .ok (.iload_n 2, 1) := by decide +kernel
theorem dX7_bitsOf_5 : decode cX7_bitsOf 5 = .ok (.bipush 12, 2) := by decide +kernel
theorem dX7_bitsOf_7 : decode cX7_bitsOf 7 = .ok (.if_icmp .ge 17, 3) := by decide +kernel
theorem dX7_bitsOf_10 : decode cX7_bitsOf 10 = .ok (.iload_n 1, 1) := by decide +kernel
theorem dX7_bitsOf_11 : decode cX7_bitsOf 11 = .ok (.iload_n 0, 1) := by decide +kernel
theorem dX7_bitsOf_12 : decode cX7_bitsOf 12 = .ok (.iload_n 2, 1) := by decide +kernel
theorem dX7_bitsOf_13 : decode cX7_bitsOf 13 = .ok (.ishr, 1) := by decide +kernel
theorem dX7_bitsOf_14 : decode cX7_bitsOf 14 = .ok (.iconst 1, 1) := by decide +kernel
theorem dX7_bitsOf_15 : decode cX7_bitsOf 15 = .ok (.iand, 1) := by decide +kernel
theorem dX7_bitsOf_16 : decode cX7_bitsOf 16 = .ok (.iadd, 1) := by decide +kernel
theorem dX7_bitsOf_17 : decode cX7_bitsOf 17 = .ok (.istore_n 1, 1) := by decide +kernel
theorem dX7_bitsOf_18 : decode cX7_bitsOf 18 = .ok (.iinc 2 1, 3) := by decide +kernel
theorem dX7_bitsOf_21 : decode cX7_bitsOf 21 = .ok (.goto (-17), 3) := by decide +kernel
theorem dX7_bitsOf_24 : decode cX7_bitsOf 24 = .ok (.iload_n 1, 1) := by decide +kernel
theorem dX7_bitsOf_25 : decode cX7_bitsOf 25 = .ok (.ireturn, 1) := by decide +kernel
theorem dX7_read_0 : decode cX7_read 0 = .ok (.aload_n 0, 1) := by decide +kernel
theorem dX7_read_1 : decode cX7_read 1 = .ok (.iload_n 1, 1) := by decide +kernel
theorem dX7_read_2 : decode cX7_read 2 = .ok (.invokevirtual 200, 3) := by decide +kernel
theorem dX7_read_5 : decode cX7_read 5 = .ok (.ifCond .eq 12, 3) := by decide +kernel
theorem dX7_read_8 : decode cX7_read 8 = .ok (.iload_n 2, 1) := by decide +kernel
theorem dX7_read_9 : decode cX7_read 9 = .ok (.iconst 0, 1) := by decide +kernel
theorem dX7_read_10 : decode cX7_read 10 = .ok (.iconst 3, 1) := by decide +kernel
theorem dX7_read_11 : decode cX7_read 11 = .ok (.invokestatic 75, 3) := by decide +kernel
theorem dX7_read_14 : decode cX7_read 14 = .ok (.ifCond .ne 5, 3) := by decide +kernel
theorem dX7_read_17 : decode cX7_read 17 = .ok (.iconst (-1), 1) := by decide +kernel
theorem dX7_read_18 : decode cX7_read 18 = .ok (.ireturn, 1) := by decide +kernel
theorem dX7_read_19 : decode cX7_read 19 = .ok (.aload_n 0, 1) := by decide +kernel
theorem dX7_read_20 : decode cX7_read 20 = .ok (.aload_n 0, 1) := by decide +kernel
theorem dX7_read_21 : decode cX7_read 21 = .ok (.getfield 194, 3) := by decide +kernel
theorem dX7_read_24 : decode cX7_read 24 = .ok (.iload_n 1, 1) := by decide +kernel
theorem dX7_read_25 : decode cX7_read 25 = .ok (.iload_n 2, 1) := by decide +kernel
theorem dX7_read_26 : decode cX7_read 26 = .ok (.invokevirtual 203, 3) := by decide +kernel
theorem dX7_read_29 : decode cX7_read 29 = .ok (.istore_n 3, 1) := by decide +kernel
theorem dX7_read_30 : decode cX7_read 30 = .ok (.iload_n 3, 1) := by decide +kernel
theorem dX7_read_31 : decode cX7_read 31 = .ok (.ifCond .ne 6, 3) := by decide +kernel
theorem dX7_read_34 : decode cX7_read 34 = .ok (.bipush (-3), 2) := by decide +kernel
theorem dX7_read_36 : decode cX7_read 36 = .ok (.ireturn, 1) := by decide +kernel
theorem dX7_read_37 : decode cX7_read 37 = .ok (.aload_n 0, 1) := by decide +kernel
theorem dX7_read_38 : decode cX7_read 38 = .ok (.iload_n 3, 1) := by decide +kernel
theorem dX7_read_39 : decode cX7_read 39 = .ok (.putfield 194, 3) := by decide +kernel
theorem dX7_read_42 : decode cX7_read 42 = .ok (.aload_n 0, 1) := by decide +kernel
theorem dX7_read_43 : decode cX7_read 43 = .ok (.getfield 194, 3) := by decide +kernel
theorem dX7_read_46 : decode cX7_read 46 = .ok (.invokestatic 206, 3) := by decide +kernel
theorem dX7_read_49 : decode cX7_read 49 = .ok (.ireturn, 1) := by decide +kernel
theorem dX7_again_0 : decode cX7_again 0 = .ok (.aload_n 0, 1) := by decide +kernel
theorem dX7_again_1 : decode cX7_again 1 = .ok (.getfield 194, 3) := by decide +kernel
theorem dX7_again_4 : decode cX7_again 4 = .ok (.invokestatic 206, 3) := by decide +kernel
theorem dX7_again_7 : decode cX7_again 7 = .ok (.istore_n 1, 1) := by decide +kernel
theorem dX7_again_8 : decode cX7_again 8 = .ok (.aload_n 0, 1) := by decide +kernel
theorem dX7_again_9 : decode cX7_again 9 = .ok (.iconst 1, 1) := by decide +kernel
theorem dX7_again_10 : decode cX7_again 10 = .ok (.aload_n 0, 1) := by decide +kernel
theorem dX7_again_11 : decode cX7_again 11 = .ok (.getfield 191, 3) := by decide +kernel
theorem dX7_again_14 : decode cX7_again 14 = .ok (.ishl, 1) := by decide +kernel
theorem dX7_again_15 : decode cX7_again 15 = .ok (.iconst 1, 1) := by decide +kernel
theorem dX7_again_16 : decode cX7_again 16 = .ok (.isub, 1) := by decide +kernel
theorem dX7_again_17 : decode cX7_again 17 = .ok (.putfield 194, 3) := by decide +kernel
theorem dX7_again_20 : decode cX7_again 20 = .ok (.iload_n 1, 1) := by decide +kernel
theorem dX7_again_21 : decode cX7_again 21 = .ok (.ireturn, 1) := by decide +kernel
theorem dX7_parts_0 : decode cX7_parts 0 = .ok (.iconst 0, 1) := by decide +kernel
theorem dX7_parts_1 : decode cX7_parts 1 = .ok (.istore_n 3, 1) := by decide +kernel
theorem dX7_parts_2 : decode cX7_parts 2 = .ok (.iconst 0, 1) := by decide +kernel
theorem dX7_parts_3 : decode cX7_parts 3 = .ok (.istore 4, 2) := by decide +kernel
theorem dX7_parts_5 : decode cX7_parts 5 = .ok (.iload 4, 2) := by decide +kernel
theorem dX7_parts_7 : decode cX7_parts 7 = .ok (.iconst 4, 1) := by decide +kernel
theorem dX7_parts_8 : decode cX7_parts 8 = .ok (.if_icmp .ge 40, 3) := by decide +kernel
theorem dX7_parts_11 : decode cX7_parts 11 = .ok (.aload_n 0, 1) := by decide +kernel
theorem dX7_parts_12 : decode cX7_parts 12 = .ok (.iload_n 1, 1) := by decide +kernel
theorem dX7_parts_13 : decode cX7_parts 13 = .ok (.iload_n 2, 1) := by decide +kernel
theorem dX7_parts_14 : decode cX7_parts 14 = .ok (.iload 4, 2) := by decide +kernel
theorem dX7_parts_16 : decode cX7_parts 16 = .ok (.invokevirtual 203, 3) := by decide +kernel
theorem dX7_parts_19 : decode cX7_parts 19 = .ok (.istore 5, 2) := by decide +kernel
theorem dX7_parts_21 : decode cX7_parts 21 = .ok (.iload_n 3, 1) := by decide +kernel
theorem dX7_parts_22 : decode cX7_parts 22 = .ok (.ifCond .ne 14, 3) := by decide +kernel
theorem dX7_parts_25 : decode cX7_parts 25 = .ok (.iload 5, 2) := by decide +kernel
theorem dX7_parts_27 : decode cX7_parts 27 = .ok (.ifCond .eq 13, 3) := by decide +kernel
theorem dX7_parts_30 : decode cX7_parts 30 = .ok (.iload 5, 2) := by decide +kernel
theorem dX7_parts_32 : decode cX7_parts 32 = .ok (.iload_n 1, 1) := by decide +kernel
theorem dX7_parts_33 : decode cX7_parts 33 = .ok (.if_icmp .eq 7, 3) := by decide +kernel
theorem dX7_parts_36 : decode cX7_parts 36 = .ok (.iconst 1, 1) := by decide +kernel
theorem dX7_parts_37 : decode cX7_parts 37 = .ok (.goto 4, 3) := by decide +kernel
theorem dX7_parts_40 : decode cX7_parts 40 = .ok (.iconst 0, 1) := by decide +kernel
theorem dX7_parts_41 : decode cX7_parts 41 = .ok (.istore_n 3, 1) := by decide +kernel
theorem dX7_parts_42 : decode cX7_parts 42 = .ok (.iinc 4 1, 3) := by decide +kernel
theorem dX7_parts_45 : decode cX7_parts 45 = .ok (.goto (-40), 3) := by decide +kernel
theorem dX7_parts_48 : decode cX7_parts 48 = .ok (.iload_n 3, 1) := by decide +kernel
theorem dX7_parts_49 : decode cX7_parts 49 = .ok (.ireturn, 1) := by decide +kernel
theorem dX7_nextBest_0 : decode cX7_nextBest 0 = .ok (.bipush (-4), 2) := by decide +kernel
theorem dX7_nextBest_2 : decode cX7_nextBest 2 = .ok (.istore_n 1, 1) := by decide +kernel
theorem dX7_nextBest_3 : decode cX7_nextBest 3 = .ok (.iconst 0, 1) := by decide +kernel
theorem dX7_nextBest_4 : decode cX7_nextBest 4 = .ok (.istore_n 2, 1) := by decide +kernel
theorem dX7_nextBest_5 : decode cX7_nextBest 5 = .ok (.iconst 0, 1) := by decide +kernel
theorem dX7_nextBest_6 : decode cX7_nextBest 6 = .ok (.istore_n 3, 1) := by decide +kernel
theorem dX7_nextBest_7 : decode cX7_nextBest 7 = .ok (.iload_n 3, 1) := by decide +kernel
theorem dX7_nextBest_8 : decode cX7_nextBest 8 = .ok (.aload_n 0, 1) := by decide +kernel
theorem dX7_nextBest_9 : decode cX7_nextBest 9 = .ok (.getfield 197, 3) := by decide +kernel
theorem dX7_nextBest_12 : decode cX7_nextBest 12 = .ok (.if_icmp .ge 152, 3) := by decide +kernel
theorem dX7_nextBest_15 : decode cX7_nextBest 15 = .ok (.aload_n 0, 1) := by decide +kernel
theorem dX7_nextBest_16 : decode cX7_nextBest 16 = .ok (.aload_n 0, 1) := by decide +kernel
theorem dX7_nextBest_17 : decode cX7_nextBest 17 = .ok (.getfield 194, 3) := by decide +kernel
theorem dX7_nextBest_20 : decode cX7_nextBest 20 = .ok (.iload_n 3, 1) := by decide +kernel
theorem dX7_nextBest_21 : decode cX7_nextBest 21 = .ok (.invokevirtual 209, 3) := by decide +kernel
theorem dX7_nextBest_24 : decode cX7_nextBest 24 = .ok (.ifCond .eq 134, 3) := by decide +kernel
theorem dX7_nextBest_27 : decode cX7_nextBest 27 = .ok (.iconst 0, 1) := by decide +kernel
theorem dX7_nextBest_28 : decode cX7_nextBest 28 = .ok (.istore 4, 2) := by decide +kernel
theorem dX7_nextBest_30 : decode cX7_nextBest 30 = .ok (.iconst 0, 1) := by decide +kernel
theorem dX7_nextBest_31 : decode cX7_nextBest 31 = .ok (.istore 5, 2) := by decide +kernel
theorem dX7_nextBest_33 : decode cX7_nextBest 33 = .ok (.iload 5, 2) := by decide +kernel
theorem dX7_nextBest_35 : decode cX7_nextBest 35 = .ok (.iconst 4, 1) := by decide +kernel
theorem dX7_nextBest_36 : decode cX7_nextBest 36 = .ok (.if_icmp .ge 86, 3) := by decide +kernel
theorem dX7_nextBest_39 : decode cX7_nextBest 39 = .ok (.aload_n 0, 1) := by decide +kernel
theorem dX7_nextBest_40 : decode cX7_nextBest 40 = .ok (.aload_n 0, 1) := by decide +kernel
theorem dX7_nextBest_41 : decode cX7_nextBest 41 = .ok (.getfield 194, 3) := by decide +kernel
theorem dX7_nextBest_44 : decode cX7_nextBest 44 = .ok (.iload_n 3, 1) := by decide +kernel
theorem dX7_nextBest_45 : decode cX7_nextBest 45 = .ok (.iload 5, 2) := by decide +kernel
theorem dX7_nextBest_47 : decode cX7_nextBest 47 = .ok (.invokevirtual 203, 3) := by decide +kernel
theorem dX7_nextBest_50 : decode cX7_nextBest 50 = .ok (.istore 6, 2) := by decide +kernel
theorem dX7_nextBest_52 : decode cX7_nextBest 52 = .ok (.iconst 0, 1) := by decide +kernel
theorem dX7_nextBest_53 : decode cX7_nextBest 53 = .ok (.istore 7, 2) := by decide +kernel
theorem dX7_nextBest_55 : decode cX7_nextBest 55 = .ok (.iconst 0, 1) := by decide +kernel
theorem dX7_nextBest_56 : decode cX7_nextBest 56 = .ok (.istore 8, 2) := by decide +kernel
theorem dX7_nextBest_58 : decode cX7_nextBest 58 = .ok (.iload 8, 2) := by decide +kernel
theorem dX7_nextBest_60 : decode cX7_nextBest 60 = .ok (.aload_n 0, 1) := by decide +kernel
theorem dX7_nextBest_61 : decode cX7_nextBest 61 = .ok (.getfield 191, 3) := by decide +kernel
theorem dX7_nextBest_64 : decode cX7_nextBest 64 = .ok (.if_icmp .ge 36, 3) := by decide +kernel
theorem dX7_nextBest_67 : decode cX7_nextBest 67 = .ok (.iload 7, 2) := by decide +kernel
theorem dX7_nextBest_69 : decode cX7_nextBest 69 = .ok (.iload 6, 2) := by decide +kernel
theorem dX7_nextBest_71 : decode cX7_nextBest 71 = .ok (.iload 8, 2) := by decide +kernel
theorem dX7_nextBest_73 : decode cX7_nextBest 73 = .ok (.ishr, 1) := by decide +kernel
theorem dX7_nextBest_74 : decode cX7_nextBest 74 = .ok (.iconst 1, 1) := by decide +kernel
theorem dX7_nextBest_75 : decode cX7_nextBest 75 = .ok (.iand, 1) := by decide +kernel
theorem dX7_nextBest_76 : decode cX7_nextBest 76 = .ok (.iconst 1, 1) := by decide +kernel
theorem dX7_nextBest_77 : decode cX7_nextBest 77 = .ok (.if_icmp .ne 13, 3) := by decide +kernel
theorem dX7_nextBest_80 : decode cX7_nextBest 80 = .ok (.aload_n 0, 1) := by decide +kernel
theorem dX7_nextBest_81 : decode cX7_nextBest 81 = .ok (.getfield 56, 3) := by decide +kernel
theorem dX7_nextBest_84 : decode cX7_nextBest 84 = .ok (.iload 8, 2) := by decide +kernel
theorem dX7_nextBest_86 : decode cX7_nextBest 86 = .ok (.iaload, 1) := by decide +kernel
theorem dX7_nextBest_87 : decode cX7_nextBest 87 = .ok (.goto 4, 3) := by decide +kernel
theorem dX7_nextBest_90 : decode cX7_nextBest 90 = .ok (.iconst 0, 1) := by decide +kernel
theorem dX7_nextBest_91 : decode cX7_nextBest 91 = .ok (.iadd, 1) := by decide +kernel
theorem dX7_nextBest_92 : decode cX7_nextBest 92 = .ok (.istore 7, 2) := by decide +kernel
theorem dX7_nextBest_94 : decode cX7_nextBest 94 = .ok (.iinc 8 1, 3) := by decide +kernel
theorem dX7_nextBest_97 : decode cX7_nextBest 97 = .ok (.goto (-39), 3) := by decide +kernel
theorem dX7_nextBest_100 : decode cX7_nextBest 100 = .ok (.iload 7, 2) := by decide +kernel
theorem dX7_nextBest_102 : decode cX7_nextBest 102 = .ok (.iload 4, 2) := by decide +kernel
theorem dX7_nextBest_104 : decode cX7_nextBest 104 = .ok (.if_icmp .le 8, 3) := by decide +kernel
theorem dX7_nextBest_107 : decode cX7_nextBest 107 = .ok (.iload 7, 2) := by decide +kernel
theorem dX7_nextBest_109 : decode cX7_nextBest 109 = .ok (.goto 5, 3) := by decide +kernel
theorem dX7_nextBest_112 : decode cX7_nextBest 112 = .ok (.iload 4, 2) := by decide +kernel
theorem dX7_nextBest_114 : decode cX7_nextBest 114 = .ok (.istore 4, 2) := by decide +kernel
theorem dX7_nextBest_116 : decode cX7_nextBest 116 = .ok (.iinc 5 1, 3) := by decide +kernel
theorem dX7_nextBest_119 : decode cX7_nextBest 119 = .ok (.goto (-86), 3) := by decide +kernel
theorem dX7_nextBest_122 : decode cX7_nextBest 122 = .ok (.iload_n 1, 1) := by decide +kernel
theorem dX7_nextBest_123 : decode cX7_nextBest 123 = .ok (.ifCond .lt 30, 3) := by decide +kernel
theorem dX7_nextBest_126 : decode cX7_nextBest 126 = .ok (.iload 4, 2) := by decide +kernel
theorem dX7_nextBest_128 : decode cX7_nextBest 128 = .ok (.iload_n 2, 1) := by decide +kernel
theorem dX7_nextBest_129 : decode cX7_nextBest 129 = .ok (.if_icmp .lt 24, 3) := by decide +kernel
theorem dX7_nextBest_132 : decode cX7_nextBest 132 = .ok (.iload 4, 2) := by decide +kernel
theorem dX7_nextBest_134 : decode cX7_nextBest 134 = .ok (.iload_n 2, 1) := by decide +kernel
theorem dX7_nextBest_135 : decode cX7_nextBest 135 = .ok (.if_icmp .ne 23, 3) := by decide +kernel
theorem dX7_nextBest_138 : decode cX7_nextBest 138 = .ok (.aload_n 0, 1) := by decide +kernel
theorem dX7_nextBest_139 : decode cX7_nextBest 139 = .ok (.getfield 59, 3) := by decide +kernel
theorem dX7_nextBest_142 : decode cX7_nextBest 142 = .ok (.iload_n 3, 1) := by decide +kernel
theorem dX7_nextBest_143 : decode cX7_nextBest 143 = .ok (.iaload, 1) := by decide +kernel
theorem dX7_nextBest_144 : decode cX7_nextBest 144 = .ok (.aload_n 0, 1) := by decide +kernel
theorem dX7_nextBest_145 : decode cX7_nextBest 145 = .ok (.getfield 59, 3) := by decide +kernel
theorem dX7_nextBest_148 : decode cX7_nextBest 148 = .ok (.iload_n 1, 1) := by decide +kernel
theorem dX7_nextBest_149 : decode cX7_nextBest 149 = .ok (.iaload, 1) := by decide +kernel
theorem dX7_nextBest_150 : decode cX7_nextBest 150 = .ok (.if_icmp .ge 8, 3) := by decide +kernel
theorem dX7_nextBest_153 : decode cX7_nextBest 153 = .ok (.iload_n 3, 1) := by decide +kernel
theorem dX7_nextBest_154 : decode cX7_nextBest 154 = .ok (.istore_n 1, 1) := by decide +kernel
theorem dX7_nextBest_155 : decode cX7_nextBest 155 = .ok (.iload 4, 2) := by decide +kernel
theorem dX7_nextBest_157 : decode cX7_nextBest 157 = .ok (.istore_n 2, 1) := by decide +kernel
theorem dX7_nextBest_158 : decode cX7_nextBest 158 = .ok (.iinc 3 1, 3) := by decide +kernel
theorem dX7_nextBest_161 : decode cX7_nextBest 161 = .ok (.goto (-154), 3) := by decide +kernel
theorem dX7_nextBest_164 : decode cX7_nextBest 164 = .ok (.iload_n 1, 1) := by decide +kernel
theorem dX7_nextBest_165 : decode cX7_nextBest 165 = .ok (.ireturn, 1) := by decide +kernel
theorem dX7_least_0 : decode cX7_least 0 = .ok (.aload_n 0, 1) := by decide +kernel
theorem dX7_least_1 : decode cX7_least 1 = .ok (.getfield 68, 3) := by decide +kernel
theorem dX7_least_4 : decode cX7_least 4 = .ok (.iload_n 1, 1) := by decide +kernel
theorem dX7_least_5 : decode cX7_least 5 = .ok (.baload, 1) := by decide +kernel
theorem dX7_least_6 : decode cX7_least 6 = .ok (.ifCond .eq 10, 3) := by decide +kernel
theorem dX7_least_9 : decode cX7_least 9 = .ok (.aload_n 0, 1) := by decide +kernel
theorem dX7_least_10 : decode cX7_least 10 = .ok (.getfield 65, 3) := by decide +kernel
theorem dX7_least_13 : decode cX7_least 13 = .ok (.iload_n 1, 1) := by decide +kernel
theorem dX7_least_14 : decode cX7_least 14 = .ok (.iaload, 1) := by decide +kernel
theorem dX7_least_15 : decode cX7_least 15 = .ok (.ireturn, 1) := by decide +kernel
theorem dX7_least_16 : decode cX7_least 16 = .ok (.iconst 0, 1) := by decide +kernel
theorem dX7_least_17 : decode cX7_least 17 = .ok (.istore_n 3, 1) := by decide +kernel
theorem dX7_least_18 : decode cX7_least 18 = .ok (.iconst 0, 1) := by decide +kernel
theorem dX7_least_19 : decode cX7_least 19 = .ok (.istore 4, 2) := by decide +kernel
theorem dX7_least_21 : decode cX7_least 21 = .ok (.iconst 0, 1) := by decide +kernel
theorem dX7_least_22 : decode cX7_least 22 = .ok (.istore 5, 2) := by decide +kernel
theorem dX7_least_24 : decode cX7_least 24 = .ok (.iload 5, 2) := by decide +kernel
theorem dX7_least_26 : decode cX7_least 26 = .ok (.aload_n 0, 1) := by decide +kernel
theorem dX7_least_27 : decode cX7_least 27 = .ok (.getfield 197, 3) := by decide +kernel
theorem dX7_least_30 : decode cX7_least 30 = .ok (.if_icmp .ge 123, 3) := by decide +kernel
theorem dX7_least_33 : decode cX7_least 33 = .ok (.aload_n 0, 1) := by decide +kernel
theorem dX7_least_34 : decode cX7_least 34 = .ok (.iload_n 1, 1) := by decide +kernel
theorem dX7_least_35 : decode cX7_least 35 = .ok (.iload 5, 2) := by decide +kernel
theorem dX7_least_37 : decode cX7_least 37 = .ok (.invokevirtual 209, 3) := by decide +kernel
theorem dX7_least_40 : decode cX7_least 40 = .ok (.ifCond .eq 107, 3) := by decide +kernel
theorem dX7_least_43 : decode cX7_least 43 = .ok (.iconst 0, 1) := by decide +kernel
theorem dX7_least_44 : decode cX7_least 44 = .ok (.istore 6, 2) := by decide +kernel
theorem dX7_least_46 : decode cX7_least 46 = .ok (.iconst 0, 1) := by decide +kernel
theorem dX7_least_47 : decode cX7_least 47 = .ok (.istore 7, 2) := by decide +kernel
theorem dX7_least_49 : decode cX7_least 49 = .ok (.iload 7, 2) := by decide +kernel
theorem dX7_least_51 : decode cX7_least 51 = .ok (.iconst 4, 1) := by decide +kernel
theorem dX7_least_52 : decode cX7_least 52 = .ok (.if_icmp .ge 54, 3) := by decide +kernel
theorem dX7_least_55 : decode cX7_least 55 = .ok (.aload_n 0, 1) := by decide +kernel
theorem dX7_least_56 : decode cX7_least 56 = .ok (.iload_n 1, 1) := by decide +kernel
theorem dX7_least_57 : decode cX7_least 57 = .ok (.iload 5, 2) := by decide +kernel
theorem dX7_least_59 : decode cX7_least 59 = .ok (.iload 7, 2) := by decide +kernel
theorem dX7_least_61 : decode cX7_least 61 = .ok (.invokevirtual 203, 3) := by decide +kernel
theorem dX7_least_64 : decode cX7_least 64 = .ok (.istore 8, 2) := by decide +kernel
theorem dX7_least_66 : decode cX7_least 66 = .ok (.iload 8, 2) := by decide +kernel
theorem dX7_least_68 : decode cX7_least 68 = .ok (.ifCond .ne 7, 3) := by decide +kernel
theorem dX7_least_71 : decode cX7_least 71 = .ok (.iconst 0, 1) := by decide +kernel
theorem dX7_least_72 : decode cX7_least 72 = .ok (.goto 10, 3) := by decide +kernel
theorem dX7_least_75 : decode cX7_least 75 = .ok (.aload_n 0, 1) := by decide +kernel
theorem dX7_least_76 : decode cX7_least 76 = .ok (.iload 8, 2) := by decide +kernel
theorem dX7_least_78 : decode cX7_least 78 = .ok (.iload_n 2, 1) := by decide +kernel
theorem dX7_least_79 : decode cX7_least 79 = .ok (.invokevirtual 212, 3) := by decide +kernel
theorem dX7_least_82 : decode cX7_least 82 = .ok (.istore 9, 2) := by decide +kernel
theorem dX7_least_84 : decode cX7_least 84 = .ok (.iload 9, 2) := by decide +kernel
theorem dX7_least_86 : decode cX7_least 86 = .ok (.iload 6, 2) := by decide +kernel
theorem dX7_least_88 : decode cX7_least 88 = .ok (.if_icmp .le 8, 3) := by decide +kernel
theorem dX7_least_91 : decode cX7_least 91 = .ok (.iload 9, 2) := by decide +kernel
theorem dX7_least_93 : decode cX7_least 93 = .ok (.goto 5, 3) := by decide +kernel
theorem dX7_least_96 : decode cX7_least 96 = .ok (.iload 6, 2) := by decide +kernel
theorem dX7_least_98 : decode cX7_least 98 = .ok (.istore 6, 2) := by decide +kernel
theorem dX7_least_100 : decode cX7_least 100 = .ok (.iinc 7 1, 3) := by decide +kernel
theorem dX7_least_103 : decode cX7_least 103 = .ok (.goto (-54), 3) := by decide +kernel
theorem dX7_least_106 : decode cX7_least 106 = .ok (.iload 6, 2) := by decide +kernel
theorem dX7_least_108 : decode cX7_least 108 = .ok (.iload_n 2, 1) := by decide +kernel
theorem dX7_least_109 : decode cX7_least 109 = .ok (.ifCond .eq 13, 3) := by decide +kernel
theorem dX7_least_112 : decode cX7_least 112 = .ok (.aload_n 0, 1) := by decide +kernel
theorem dX7_least_113 : decode cX7_least 113 = .ok (.getfield 59, 3) := by decide +kernel
theorem dX7_least_116 : decode cX7_least 116 = .ok (.iload 5, 2) := by decide +kernel
theorem dX7_least_118 : decode cX7_least 118 = .ok (.iaload, 1) := by decide +kernel
theorem dX7_least_119 : decode cX7_least 119 = .ok (.goto 4, 3) := by decide +kernel
theorem dX7_least_122 : decode cX7_least 122 = .ok (.iconst 1, 1) := by decide +kernel
theorem dX7_least_123 : decode cX7_least 123 = .ok (.iadd, 1) := by decide +kernel
theorem dX7_least_124 : decode cX7_least 124 = .ok (.istore 7, 2) := by decide +kernel
theorem dX7_least_126 : decode cX7_least 126 = .ok (.iload 4, 2) := by decide +kernel
theorem dX7_least_128 : decode cX7_least 128 = .ok (.ifCond .eq 9, 3) := by decide +kernel
theorem dX7_least_131 : decode cX7_least 131 = .ok (.iload 7, 2) := by decide +kernel
theorem dX7_least_133 : decode cX7_least 133 = .ok (.iload_n 3, 1) := by decide +kernel
theorem dX7_least_134 : decode cX7_least 134 = .ok (.if_icmp .ge 8, 3) := by decide +kernel
theorem dX7_least_137 : decode cX7_least 137 = .ok (.iload 7, 2) := by decide +kernel
theorem dX7_least_139 : decode cX7_least 139 = .ok (.goto 4, 3) := by decide +kernel
theorem dX7_least_142 : decode cX7_least 142 = .ok (.iload_n 3, 1) := by decide +kernel
theorem dX7_least_143 : decode cX7_least 143 = .ok (.istore_n 3, 1) := by decide +kernel
theorem dX7_least_144 : decode cX7_least 144 = .ok (.iconst 1, 1) := by decide +kernel
theorem dX7_least_145 : decode cX7_least 145 = .ok (.istore 4, 2) := by decide +kernel
theorem dX7_least_147 : decode cX7_least 147 = .ok (.iinc 5 1, 3) := by decide +kernel
theorem dX7_least_150 : decode cX7_least 150 = .ok (.goto (-126), 3) := by decide +kernel
theorem dX7_least_153 : decode cX7_least 153 = .ok (.aload_n 0, 1) := by decide +kernel
theorem dX7_least_154 : decode cX7_least 154 = .ok (.getfield 68, 3) := by decide +kernel
theorem dX7_least_157 : decode cX7_least 157 = .ok (.iload_n 1, 1) := by decide +kernel
theorem dX7_least_158 : decode cX7_least 158 = .ok (.iconst 1, 1) := by decide +kernel
theorem dX7_least_159 : decode cX7_least 159 = .ok (.bastore, 1) := by decide +kernel
theorem dX7_least_160 : decode cX7_least 160 = .ok (.aload_n 0, 1) := by decide +kernel
theorem dX7_least_161 : decode cX7_least 161 = .ok (.getfield 65, 3) := by decide +kernel
theorem dX7_least_164 : decode cX7_least 164 = .ok (.iload_n 1, 1) := by decide +kernel
theorem dX7_least_165 : decode cX7_least 165 = .ok (.iload_n 3, 1) := by decide +kernel
theorem dX7_least_166 : decode cX7_least 166 = .ok (.iastore, 1) := by decide +kernel
theorem dX7_least_167 : decode cX7_least 167 = .ok (.iload_n 3, 1) := by decide +kernel
theorem dX7_least_168 : decode cX7_least 168 = .ok (.ireturn, 1) := by decide +kernel
theorem dX7_left_0 : decode cX7_left 0 = .ok (.iload_n 1, 1) := by decide +kernel
theorem dX7_left_1 : decode cX7_left 1 = .ok (.iconst 0, 1) := by decide +kernel
theorem dX7_left_2 : decode cX7_left 2 = .ok (.iconst 3, 1) := by decide +kernel
theorem dX7_left_3 : decode cX7_left 3 = .ok (.invokestatic 75, 3) := by decide +kernel
theorem dX7_left_6 : decode cX7_left 6 = .ok (.ifCond .ne 5, 3) := by decide +kernel
theorem dX7_left_9 : decode cX7_left 9 = .ok (.iconst (-1), 1) := by decide +kernel
theorem dX7_left_10 : decode cX7_left 10 = .ok (.ireturn, 1) := by decide +kernel
theorem dX7_left_11 : decode cX7_left 11 = .ok (.iload_n 1, 1) := by decide +kernel
theorem dX7_left_12 : decode cX7_left 12 = .ok (.iconst 2, 1) := by decide +kernel
theorem dX7_left_13 : decode cX7_left 13 = .ok (.if_icmp .ge 19, 3) := by decide +kernel
theorem dX7_left_16 : decode cX7_left 16 = .ok (.iload_n 1, 1) := by decide +kernel
theorem dX7_left_17 : decode cX7_left 17 = .ok (.ifCond .ne 10, 3) := by decide +kernel
theorem dX7_left_20 : decode cX7_left 20 = .ok (.aload_n 0, 1) := by decide +kernel
theorem dX7_left_21 : decode cX7_left 21 = .ok (.getfield 194, 3) := by decide +kernel
theorem dX7_left_24 : decode cX7_left 24 = .ok (.goto 7, 3) := by decide +kernel
theorem dX7_left_27 : decode cX7_left 27 = .ok (.aload_n 0, 1) := by decide +kernel
theorem dX7_left_28 : decode cX7_left 28 = .ok (.invokevirtual 216, 3) := by decide +kernel
theorem dX7_left_31 : decode cX7_left 31 = .ok (.ireturn, 1) := by decide +kernel
theorem dX7_left_32 : decode cX7_left 32 = .ok (.iconst 0, 1) := by decide +kernel
theorem dX7_left_33 : decode cX7_left 33 = .ok (.istore_n 2, 1) := by decide +kernel
theorem dX7_left_34 : decode cX7_left 34 = .ok (.iload_n 2, 1) := by decide +kernel
theorem dX7_left_35 : decode cX7_left 35 = .ok (.sipush 4096, 3) := by decide +kernel
theorem dX7_left_38 : decode cX7_left 38 = .ok (.if_icmp .ge 16, 3) := by decide +kernel
theorem dX7_left_41 : decode cX7_left 41 = .ok (.aload_n 0, 1) := by decide +kernel
theorem dX7_left_42 : decode cX7_left 42 = .ok (.getfield 68, 3) := by decide +kernel
theorem dX7_left_45 : decode cX7_left 45 = .ok (.iload_n 2, 1) := by decide +kernel
theorem dX7_left_46 : decode cX7_left 46 = .ok (.iconst 0, 1) := by decide +kernel
theorem dX7_left_47 : decode cX7_left 47 = .ok (.bastore, 1) := by decide +kernel
theorem dX7_left_48 : decode cX7_left 48 = .ok (.iinc 2 1, 3) := by decide +kernel
theorem dX7_left_51 : decode cX7_left 51 = .ok (.goto (-17), 3) := by decide +kernel
theorem dX7_left_54 : decode cX7_left 54 = .ok (.aload_n 0, 1) := by decide +kernel
theorem dX7_left_55 : decode cX7_left 55 = .ok (.aload_n 0, 1) := by decide +kernel
theorem dX7_left_56 : decode cX7_left 56 = .ok (.getfield 194, 3) := by decide +kernel
theorem dX7_left_59 : decode cX7_left 59 = .ok (.iload_n 1, 1) := by decide +kernel
theorem dX7_left_60 : decode cX7_left 60 = .ok (.iconst 3, 1) := by decide +kernel
theorem dX7_left_61 : decode cX7_left 61 = .ok (.if_icmp .ne 7, 3) := by decide +kernel
theorem dX7_left_64 : decode cX7_left 64 = .ok (.iconst 1, 1) := by decide +kernel
theorem dX7_left_65 : decode cX7_left 65 = .ok (.goto 4, 3) := by decide +kernel
theorem dX7_left_68 : decode cX7_left 68 = .ok (.iconst 0, 1) := by decide +kernel
theorem dX7_left_69 : decode cX7_left 69 = .ok (.invokevirtual 212, 3) := by decide +kernel
theorem dX7_left_72 : decode cX7_left 72 = .ok (.ireturn, 1) := by decide +kernel
theorem dX7_count_0 : decode cX7_count 0 = .ok (.iconst 0, 1) := by decide +kernel
theorem dX7_count_1 : decode cX7_count 1 = .ok (.istore_n 2, 1) := by decide +kernel
theorem dX7_count_2 : decode cX7_count 2 = .ok (.iconst 0, 1) := by decide +kernel
theorem dX7_count_3 : decode cX7_count 3 = .ok (.istore_n 3, 1) := by decide +kernel
theorem dX7_count_4 : decode cX7_count 4 = .ok (.iload_n 3, 1) := by decide +kernel
theorem dX7_count_5 : decode cX7_count 5 = .ok (.aload_n 0, 1) := by decide +kernel
theorem dX7_count_6 : decode cX7_count 6 = .ok (.getfield 72, 3) := by decide +kernel
theorem dX7_count_9 : decode cX7_count 9 = .ok (.if_icmp .ge 22, 3) := by decide +kernel
theorem dX7_count_12 : decode cX7_count 12 = .ok (.iload_n 2, 1) := by decide +kernel
theorem dX7_count_13 : decode cX7_count 13 = .ok (.aload_n 0, 1) := by decide +kernel
theorem dX7_count_14 : decode cX7_count 14 = .ok (.iload_n 3, 1) := by decide +kernel
theorem dX7_count_15 : decode cX7_count 15 = .ok (.aload_n 0, 1) := by decide +kernel
theorem dX7_count_16 : decode cX7_count 16 = .ok (.getfield 16, 3) := by decide +kernel
theorem dX7_count_19 : decode cX7_count 19 = .ok (.iconst (-1), 1) := by decide +kernel
theorem dX7_count_20 : decode cX7_count 20 = .ok (.invokevirtual 111, 3) := by decide +kernel
theorem dX7_count_23 : decode cX7_count 23 = .ok (.iadd, 1) := by decide +kernel
theorem dX7_count_24 : decode cX7_count 24 = .ok (.istore_n 2, 1) := by decide +kernel
theorem dX7_count_25 : decode cX7_count 25 = .ok (.iinc 3 1, 3) := by decide +kernel
theorem dX7_count_28 : decode cX7_count 28 = .ok (.goto (-24), 3) := by decide +kernel
theorem dX7_count_31 : decode cX7_count 31 = .ok (.iload_n 1, 1) := by decide +kernel
theorem dX7_count_32 : decode cX7_count 32 = .ok (.tableswitch 76 0 6 #[44, 49, 51, 56, 61, 66, 71], 44) := by decide +kernel
theorem dX7_count_76 : decode cX7_count 76 = .ok (.aload_n 0, 1) := by decide +kernel
theorem dX7_count_77 : decode cX7_count 77 = .ok (.getfield 72, 3) := by decide +kernel
theorem dX7_count_80 : decode cX7_count 80 = .ok (.ireturn, 1) := by decide +kernel
theorem dX7_count_81 : decode cX7_count 81 = .ok (.iload_n 2, 1) := by decide +kernel
theorem dX7_count_82 : decode cX7_count 82 = .ok (.ireturn, 1) := by decide +kernel
theorem dX7_count_83 : decode cX7_count 83 = .ok (.aload_n 0, 1) := by decide +kernel
theorem dX7_count_84 : decode cX7_count 84 = .ok (.getfield 162, 3) := by decide +kernel
theorem dX7_count_87 : decode cX7_count 87 = .ok (.ireturn, 1) := by decide +kernel
theorem dX7_count_88 : decode cX7_count 88 = .ok (.aload_n 0, 1) := by decide +kernel
theorem dX7_count_89 : decode cX7_count 89 = .ok (.getfield 170, 3) := by decide +kernel
theorem dX7_count_92 : decode cX7_count 92 = .ok (.ireturn, 1) := by decide +kernel
theorem dX7_count_93 : decode cX7_count 93 = .ok (.aload_n 0, 1) := by decide +kernel
theorem dX7_count_94 : decode cX7_count 94 = .ok (.getfield 182, 3) := by decide +kernel
theorem dX7_count_97 : decode cX7_count 97 = .ok (.ireturn, 1) := by decide +kernel
theorem dX7_count_98 : decode cX7_count 98 = .ok (.aload_n 0, 1) := by decide +kernel
theorem dX7_count_99 : decode cX7_count 99 = .ok (.getfield 191, 3) := by decide +kernel
theorem dX7_count_102 : decode cX7_count 102 = .ok (.ireturn, 1) := by decide +kernel
theorem dX7_count_103 : decode cX7_count 103 = .ok (.aload_n 0, 1) := by decide +kernel
theorem dX7_count_104 : decode cX7_count 104 = .ok (.getfield 197, 3) := by decide +kernel
theorem dX7_count_107 : decode cX7_count 107 = .ok (.ireturn, 1) := by decide +kernel
theorem dX7_count_108 : decode cX7_count 108 = .ok (.iconst (-1), 1) := by decide +kernel
theorem dX7_count_109 : decode cX7_count 109 = .ok (.ireturn, 1) := by decide +kernel
end
section
theorem dL_law_0 : decode cL_law 0 = .ok (.new 7, 3) := by decide +kernel
theorem dL_law_3 : decode cL_law 3 = .ok (.dup, 1) := by decide +kernel
theorem dL_law_4 : decode cL_law 4 = .ok (.invokespecial 9, 3) := by decide +kernel
theorem dL_law_7 : decode cL_law 7 = .ok (.astore_n 1, 1) := by decide +kernel
theorem dL_law_8 : decode cL_law 8 = .ok (.new 10, 3) := by decide +kernel
theorem dL_law_11 : decode cL_law 11 = .ok (.dup, 1) := by decide +kernel
theorem dL_law_12 : decode cL_law 12 = .ok (.invokespecial 12, 3) := by decide +kernel
theorem dL_law_15 : decode cL_law 15 = .ok (.astore_n 2, 1) := by decide +kernel
theorem dL_law_16 : decode cL_law 16 = .ok (.iconst 0, 1) := by decide +kernel
theorem dL_law_17 : decode cL_law 17 = .ok (.istore_n 3, 1) := by decide +kernel
theorem dL_law_18 : decode cL_law 18 = .ok (.iload_n 3, 1) := by decide +kernel
theorem dL_law_19 : decode cL_law 19 = .ok (.aload_n 0, 1) := by decide +kernel
theorem dL_law_20 : decode cL_law 20 = .ok (.arraylength, 1) := by decide +kernel
theorem dL_law_21 : decode cL_law 21 = .ok (.iconst 4, 1) := by decide +kernel
theorem dL_law_22 : decode cL_law 22 = .ok (.isub, 1) := by decide +kernel
theorem dL_law_23 : decode cL_law 23 = .ok (.if_icmp .gt 1055, 3) := by decide +kernel
theorem dL_law_26 : decode cL_law 26 = .ok (.aload_n 0, 1) := by decide +kernel
theorem dL_law_27 : decode cL_law 27 = .ok (.iload_n 3, 1) := by decide +kernel
theorem dL_law_28 : decode cL_law 28 = .ok (.iaload, 1) := by decide +kernel
theorem dL_law_29 : decode cL_law 29 = .ok (.bipush 31, 2) := by decide +kernel
theorem dL_law_31 : decode cL_law 31 = .ok (.iand, 1) := by decide +kernel
theorem dL_law_32 : decode cL_law 32 = .ok (.tableswitch 1040 0 31 #[144, 177, 210, 233, 256, 299, 332, 355, 368, 391, 434, 467, 500, 533, 556, 589, 602, 635, 658, 671, 714, 757, 780, 813, 836, 859, 882, 905, 948, 981, 994, 1017], 144) := by decide +kernel
theorem dL_law_176 : decode cL_law 176 = .ok (.aload_n 1, 1) := by decide +kernel
theorem dL_law_177 : decode cL_law 177 = .ok (.aload_n 0, 1) := by decide +kernel
theorem dL_law_178 : decode cL_law 178 = .ok (.iload_n 3, 1) := by decide +kernel
theorem dL_law_179 : decode cL_law 179 = .ok (.iconst 1, 1) := by decide +kernel
theorem dL_law_180 : decode cL_law 180 = .ok (.iadd, 1) := by decide +kernel
theorem dL_law_181 : decode cL_law 181 = .ok (.iaload, 1) := by decide +kernel
theorem dL_law_182 : decode cL_law 182 = .ok (.aload_n 0, 1) := by decide +kernel
theorem dL_law_183 : decode cL_law 183 = .ok (.iload_n 3, 1) := by decide +kernel
theorem dL_law_184 : decode cL_law 184 = .ok (.iconst 2, 1) := by decide +kernel
theorem dL_law_185 : decode cL_law 185 = .ok (.iadd, 1) := by decide +kernel
theorem dL_law_186 : decode cL_law 186 = .ok (.iaload, 1) := by decide +kernel
theorem dL_law_187 : decode cL_law 187 = .ok (.invokevirtual 13, 3) := by decide +kernel
theorem dL_law_190 : decode cL_law 190 = .ok (.aload_n 2, 1) := by decide +kernel
theorem dL_law_191 : decode cL_law 191 = .ok (.aload_n 0, 1) := by decide +kernel
theorem dL_law_192 : decode cL_law 192 = .ok (.iload_n 3, 1) := by decide +kernel
theorem dL_law_193 : decode cL_law 193 = .ok (.iconst 1, 1) := by decide +kernel
theorem dL_law_194 : decode cL_law 194 = .ok (.iadd, 1) := by decide +kernel
theorem dL_law_195 : decode cL_law 195 = .ok (.iaload, 1) := by decide +kernel
theorem dL_law_196 : decode cL_law 196 = .ok (.aload_n 0, 1) := by decide +kernel
theorem dL_law_197 : decode cL_law 197 = .ok (.iload_n 3, 1) := by decide +kernel
theorem dL_law_198 : decode cL_law 198 = .ok (.iconst 2, 1) := by decide +kernel
theorem dL_law_199 : decode cL_law 199 = .ok (.iadd, 1) := by decide +kernel
theorem dL_law_200 : decode cL_law 200 = .ok (.iaload, 1) := by decide +kernel
theorem dL_law_201 : decode cL_law 201 = .ok (.invokevirtual 17, 3) := by decide +kernel
theorem dL_law_204 : decode cL_law 204 = .ok (.if_icmp .eq 868, 3) := by decide +kernel
theorem dL_law_207 : decode cL_law 207 = .ok (.iconst 0, 1) := by decide +kernel
theorem dL_law_208 : decode cL_law 208 = .ok (.ireturn, 1) := by decide +kernel
theorem dL_law_209 : decode cL_law 209 = .ok (.aload_n 1, 1) := by decide +kernel
theorem dL_law_210 : decode cL_law 210 = .ok (.aload_n 0, 1) := by decide +kernel
theorem dL_law_211 : decode cL_law 211 = .ok (.iload_n 3, 1) := by decide +kernel
theorem dL_law_212 : decode cL_law 212 = .ok (.iconst 1, 1) := by decide +kernel
theorem dL_law_213 : decode cL_law 213 = .ok (.iadd, 1) := by decide +kernel
theorem dL_law_214 : decode cL_law 214 = .ok (.iaload, 1) := by decide +kernel
theorem dL_law_215 : decode cL_law 215 = .ok (.aload_n 0, 1) := by decide +kernel
theorem dL_law_216 : decode cL_law 216 = .ok (.iload_n 3, 1) := by decide +kernel
theorem dL_law_217 : decode cL_law 217 = .ok (.iconst 2, 1) := by decide +kernel
theorem dL_law_218 : decode cL_law 218 = .ok (.iadd, 1) := by decide +kernel
theorem dL_law_219 : decode cL_law 219 = .ok (.iaload, 1) := by decide +kernel
theorem dL_law_220 : decode cL_law 220 = .ok (.invokevirtual 18, 3) := by decide +kernel
theorem dL_law_223 : decode cL_law 223 = .ok (.aload_n 2, 1) := by decide +kernel
theorem dL_law_224 : decode cL_law 224 = .ok (.aload_n 0, 1) := by decide +kernel
theorem dL_law_225 : decode cL_law 225 = .ok (.iload_n 3, 1) := by decide +kernel
theorem dL_law_226 : decode cL_law 226 = .ok (.iconst 1, 1) := by decide +kernel
theorem dL_law_227 : decode cL_law 227 = .ok (.iadd, 1) := by decide +kernel
theorem dL_law_228 : decode cL_law 228 = .ok (.iaload, 1) := by decide +kernel
theorem dL_law_229 : decode cL_law 229 = .ok (.aload_n 0, 1) := by decide +kernel
theorem dL_law_230 : decode cL_law 230 = .ok (.iload_n 3, 1) := by decide +kernel
theorem dL_law_231 : decode cL_law 231 = .ok (.iconst 2, 1) := by decide +kernel
theorem dL_law_232 : decode cL_law 232 = .ok (.iadd, 1) := by decide +kernel
theorem dL_law_233 : decode cL_law 233 = .ok (.iaload, 1) := by decide +kernel
theorem dL_law_234 : decode cL_law 234 = .ok (.invokevirtual 21, 3) := by decide +kernel
theorem dL_law_237 : decode cL_law 237 = .ok (.if_icmp .eq 835, 3) := by decide +kernel
theorem dL_law_240 : decode cL_law 240 = .ok (.iconst 0, 1) := by decide +kernel
theorem dL_law_241 : decode cL_law 241 = .ok (.ireturn, 1) := by decide +kernel
theorem dL_law_242 : decode cL_law 242 = .ok (.aload_n 1, 1) := by decide +kernel
theorem dL_law_243 : decode cL_law 243 = .ok (.aload_n 0, 1) := by decide +kernel
theorem dL_law_244 : decode cL_law 244 = .ok (.iload_n 3, 1) := by decide +kernel
theorem dL_law_245 : decode cL_law 245 = .ok (.iconst 1, 1) := by decide +kernel
theorem dL_law_246 : decode cL_law 246 = .ok (.iadd, 1) := by decide +kernel
theorem dL_law_247 : decode cL_law 247 = .ok (.iaload, 1) := by decide +kernel
theorem dL_law_248 : decode cL_law 248 = .ok (.invokevirtual 22, 3) := by decide +kernel
theorem dL_law_251 : decode cL_law 251 = .ok (.aload_n 2, 1) := by decide +kernel
theorem dL_law_252 : decode cL_law 252 = .ok (.aload_n 0, 1) := by decide +kernel
theorem dL_law_253 : decode cL_law 253 = .ok (.iload_n 3, 1) := by decide +kernel
theorem dL_law_254 : decode cL_law 254 = .ok (.iconst 1, 1) := by decide +kernel
theorem dL_law_255 : decode cL_law 255 = .ok (.iadd, 1) := by decide +kernel
theorem dL_law_256 : decode cL_law 256 = .ok (.iaload, 1) := by decide +kernel
theorem dL_law_257 : decode cL_law 257 = .ok (.invokevirtual 26, 3) := by decide +kernel
theorem dL_law_260 : decode cL_law 260 = .ok (.if_icmp .eq 812, 3) := by decide +kernel
theorem dL_law_263 : decode cL_law 263 = .ok (.iconst 0, 1) := by decide +kernel
theorem dL_law_264 : decode cL_law 264 = .ok (.ireturn, 1) := by decide +kernel
theorem dL_law_265 : decode cL_law 265 = .ok (.aload_n 1, 1) := by decide +kernel
theorem dL_law_266 : decode cL_law 266 = .ok (.aload_n 0, 1) := by decide +kernel
theorem dL_law_267 : decode cL_law 267 = .ok (.iload_n 3, 1) := by decide +kernel
theorem dL_law_268 : decode cL_law 268 = .ok (.iconst 1, 1) := by decide +kernel
theorem dL_law_269 : decode cL_law 269 = .ok (.iadd, 1) := by decide +kernel
theorem dL_law_270 : decode cL_law 270 = .ok (.iaload, 1) := by decide +kernel
theorem dL_law_271 : decode cL_law 271 = .ok (.invokevirtual 27, 3) := by decide +kernel
theorem dL_law_274 : decode cL_law 274 = .ok (.aload_n 2, 1) := by decide +kernel
theorem dL_law_275 : decode cL_law 275 = .ok (.aload_n 0, 1) := by decide +kernel
theorem dL_law_276 : decode cL_law 276 = .ok (.iload_n 3, 1) := by decide +kernel
theorem dL_law_277 : decode cL_law 277 = .ok (.iconst 1, 1) := by decide +kernel
theorem dL_law_278 : decode cL_law 278 = .ok (.iadd, 1) := by decide +kernel
theorem dL_law_279 : decode cL_law 279 = .ok (.iaload, 1) := by decide +kernel
theorem dL_law_280 : decode cL_law 280 = .ok (.invokevirtual 30, 3) := by decide +kernel
theorem dL_law_283 : decode cL_law 283 = .ok (.if_icmp .eq 789, 3) := by decide +kernel
theorem dL_law_286 : decode cL_law 286 = .ok (.iconst 0, 1) := by decide +kernel
theorem dL_law_287 : decode cL_law 287 = .ok (.ireturn, 1) := by decide +kernel
theorem dL_law_288 : decode cL_law 288 = .ok (.aload_n 1, 1) := by decide +kernel
theorem dL_law_289 : decode cL_law 289 = .ok (.aload_n 0, 1) := by decide +kernel
theorem dL_law_290 : decode cL_law 290 = .ok (.iload_n 3, 1) := by decide +kernel
theorem dL_law_291 : decode cL_law 291 = .ok (.iconst 1, 1) := by decide +kernel
theorem dL_law_292 : decode cL_law 292 = .ok (.iadd, 1) := by decide +kernel
theorem dL_law_293 : decode cL_law 293 = .ok (.iaload, 1) := by decide +kernel
theorem dL_law_294 : decode cL_law 294 = .ok (.aload_n 0, 1) := by decide +kernel
theorem dL_law_295 : decode cL_law 295 = .ok (.iload_n 3, 1) := by decide +kernel
theorem dL_law_296 : decode cL_law 296 = .ok (.iconst 2, 1) := by decide +kernel
theorem dL_law_297 : decode cL_law 297 = .ok (.iadd, 1) := by decide +kernel
theorem dL_law_298 : decode cL_law 298 = .ok (.iaload, 1) := by decide +kernel
theorem dL_law_299 : decode cL_law 299 = .ok (.aload_n 0, 1) := by decide +kernel
theorem dL_law_300 : decode cL_law 300 = .ok (.iload_n 3, 1) := by decide +kernel
theorem dL_law_301 : decode cL_law 301 = .ok (.iconst 3, 1) := by decide +kernel
theorem dL_law_302 : decode cL_law 302 = .ok (.iadd, 1) := by decide +kernel
theorem dL_law_303 : decode cL_law 303 = .ok (.iaload, 1) := by decide +kernel
theorem dL_law_304 : decode cL_law 304 = .ok (.invokevirtual 31, 3) := by decide +kernel
theorem dL_law_307 : decode cL_law 307 = .ok (.aload_n 2, 1) := by decide +kernel
theorem dL_law_308 : decode cL_law 308 = .ok (.aload_n 0, 1) := by decide +kernel
theorem dL_law_309 : decode cL_law 309 = .ok (.iload_n 3, 1) := by decide +kernel
theorem dL_law_310 : decode cL_law 310 = .ok (.iconst 1, 1) := by decide +kernel
theorem dL_law_311 : decode cL_law 311 = .ok (.iadd, 1) := by decide +kernel
theorem dL_law_312 : decode cL_law 312 = .ok (.iaload, 1) := by decide +kernel
theorem dL_law_313 : decode cL_law 313 = .ok (.aload_n 0, 1) := by decide +kernel
theorem dL_law_314 : decode cL_law 314 = .ok (.iload_n 3, 1) := by decide +kernel
theorem dL_law_315 : decode cL_law 315 = .ok (.iconst 2, 1) := by decide +kernel
theorem dL_law_316 : decode cL_law 316 = .ok (.iadd, 1) := by decide +kernel
theorem dL_law_317 : decode cL_law 317 = .ok (.iaload, 1) := by decide +kernel
theorem dL_law_318 : decode cL_law 318 = .ok (.aload_n 0, 1) := by decide +kernel
theorem dL_law_319 : decode cL_law 319 = .ok (.iload_n 3, 1) := by decide +kernel
theorem dL_law_320 : decode cL_law 320 = .ok (.iconst 3, 1) := by decide +kernel
theorem dL_law_321 : decode cL_law 321 = .ok (.iadd, 1) := by decide +kernel
theorem dL_law_322 : decode cL_law 322 = .ok (.iaload, 1) := by decide +kernel
theorem dL_law_323 : decode cL_law 323 = .ok (.invokevirtual 35, 3) := by decide +kernel
theorem dL_law_326 : decode cL_law 326 = .ok (.if_icmp .eq 746, 3) := by decide +kernel
theorem dL_law_329 : decode cL_law 329 = .ok (.iconst 0, 1) := by decide +kernel
theorem dL_law_330 : decode cL_law 330 = .ok (.ireturn, 1) := by decide +kernel
theorem dL_law_331 : decode cL_law 331 = .ok (.aload_n 1, 1) := by decide +kernel
theorem dL_law_332 : decode cL_law 332 = .ok (.aload_n 0, 1) := by decide +kernel
theorem dL_law_333 : decode cL_law 333 = .ok (.iload_n 3, 1) := by decide +kernel
theorem dL_law_334 : decode cL_law 334 = .ok (.iconst 1, 1) := by decide +kernel
theorem dL_law_335 : decode cL_law 335 = .ok (.iadd, 1) := by decide +kernel
theorem dL_law_336 : decode cL_law 336 = .ok (.iaload, 1) := by decide +kernel
theorem dL_law_337 : decode cL_law 337 = .ok (.aload_n 0, 1) := by decide +kernel
theorem dL_law_338 : decode cL_law 338 = .ok (.iload_n 3, 1) := by decide +kernel
theorem dL_law_339 : decode cL_law 339 = .ok (.iconst 2, 1) := by decide +kernel
theorem dL_law_340 : decode cL_law 340 = .ok (.iadd, 1) := by decide +kernel
theorem dL_law_341 : decode cL_law 341 = .ok (.iaload, 1) := by decide +kernel
theorem dL_law_342 : decode cL_law 342 = .ok (.invokevirtual 36, 3) := by decide +kernel
theorem dL_law_345 : decode cL_law 345 = .ok (.aload_n 2, 1) := by decide +kernel
theorem dL_law_346 : decode cL_law 346 = .ok (.aload_n 0, 1) := by decide +kernel
theorem dL_law_347 : decode cL_law 347 = .ok (.iload_n 3, 1) := by decide +kernel
theorem dL_law_348 : decode cL_law 348 = .ok (.iconst 1, 1) := by decide +kernel
theorem dL_law_349 : decode cL_law 349 = .ok (.iadd, 1) := by decide +kernel
theorem dL_law_350 : decode cL_law 350 = .ok (.iaload, 1) := by decide +kernel
theorem dL_law_351 : decode cL_law 351 = .ok (.aload_n 0, 1) := by decide +kernel
theorem dL_law_352 : decode cL_law 352 = .ok (.iload_n 3, 1) := by decide +kernel
theorem dL_law_353 : decode cL_law 353 = .ok (.iconst 2, 1) := by decide +kernel
theorem dL_law_354 : decode cL_law 354 = .ok (.iadd, 1) := by decide +kernel
theorem dL_law_355 : decode cL_law 355 = .ok (.iaload, 1) := by decide +kernel
theorem dL_law_356 : decode cL_law 356 = .ok (.invokevirtual 39, 3) := by decide +kernel
theorem dL_law_359 : decode cL_law 359 = .ok (.if_icmp .eq 713, 3) := by decide +kernel
theorem dL_law_362 : decode cL_law 362 = .ok (.iconst 0, 1) := by decide +kernel
theorem dL_law_363 : decode cL_law 363 = .ok (.ireturn, 1) := by decide +kernel
theorem dL_law_364 : decode cL_law 364 = .ok (.aload_n 1, 1) := by decide +kernel
theorem dL_law_365 : decode cL_law 365 = .ok (.aload_n 0, 1) := by decide +kernel
theorem dL_law_366 : decode cL_law 366 = .ok (.iload_n 3, 1) := by decide +kernel
theorem dL_law_367 : decode cL_law 367 = .ok (.iconst 1, 1) := by decide +kernel
theorem dL_law_368 : decode cL_law 368 = .ok (.iadd, 1) := by decide +kernel
theorem dL_law_369 : decode cL_law 369 = .ok (.iaload, 1) := by decide +kernel
theorem dL_law_370 : decode cL_law 370 = .ok (.invokevirtual 40, 3) := by decide +kernel
theorem dL_law_373 : decode cL_law 373 = .ok (.aload_n 2, 1) := by decide +kernel
theorem dL_law_374 : decode cL_law 374 = .ok (.aload_n 0, 1) := by decide +kernel
theorem dL_law_375 : decode cL_law 375 = .ok (.iload_n 3, 1) := by decide +kernel
theorem dL_law_376 : decode cL_law 376 = .ok (.iconst 1, 1) := by decide +kernel
theorem dL_law_377 : decode cL_law 377 = .ok (.iadd, 1) := by decide +kernel
theorem dL_law_378 : decode cL_law 378 = .ok (.iaload, 1) := by decide +kernel
theorem dL_law_379 : decode cL_law 379 = .ok (.invokevirtual 43, 3) := by decide +kernel
theorem dL_law_382 : decode cL_law 382 = .ok (.if_icmp .eq 690, 3) := by decide +kernel
theorem dL_law_385 : decode cL_law 385 = .ok (.iconst 0, 1) := by decide +kernel
theorem dL_law_386 : decode cL_law 386 = .ok (.ireturn, 1) := by decide +kernel
theorem dL_law_387 : decode cL_law 387 = .ok (.aload_n 1, 1) := by decide +kernel
theorem dL_law_388 : decode cL_law 388 = .ok (.invokevirtual 44, 3) := by decide +kernel
theorem dL_law_391 : decode cL_law 391 = .ok (.aload_n 2, 1) := by decide +kernel
theorem dL_law_392 : decode cL_law 392 = .ok (.invokevirtual 48, 3) := by decide +kernel
theorem dL_law_395 : decode cL_law 395 = .ok (.if_icmp .eq 677, 3) := by decide +kernel
theorem dL_law_398 : decode cL_law 398 = .ok (.iconst 0, 1) := by decide +kernel
theorem dL_law_399 : decode cL_law 399 = .ok (.ireturn, 1) := by decide +kernel
theorem dL_law_400 : decode cL_law 400 = .ok (.aload_n 1, 1) := by decide +kernel
theorem dL_law_401 : decode cL_law 401 = .ok (.aload_n 0, 1) := by decide +kernel
theorem dL_law_402 : decode cL_law 402 = .ok (.iload_n 3, 1) := by decide +kernel
theorem dL_law_403 : decode cL_law 403 = .ok (.iconst 1, 1) := by decide +kernel
theorem dL_law_404 : decode cL_law 404 = .ok (.iadd, 1) := by decide +kernel
theorem dL_law_405 : decode cL_law 405 = .ok (.iaload, 1) := by decide +kernel
theorem dL_law_406 : decode cL_law 406 = .ok (.invokevirtual 49, 3) := by decide +kernel
theorem dL_law_409 : decode cL_law 409 = .ok (.aload_n 2, 1) := by decide +kernel
theorem dL_law_410 : decode cL_law 410 = .ok (.aload_n 0, 1) := by decide +kernel
theorem dL_law_411 : decode cL_law 411 = .ok (.iload_n 3, 1) := by decide +kernel
theorem dL_law_412 : decode cL_law 412 = .ok (.iconst 1, 1) := by decide +kernel
theorem dL_law_413 : decode cL_law 413 = .ok (.iadd, 1) := by decide +kernel
theorem dL_law_414 : decode cL_law 414 = .ok (.iaload, 1) := by decide +kernel
theorem dL_law_415 : decode cL_law 415 = .ok (.invokevirtual 52, 3) := by decide +kernel
theorem dL_law_418 : decode cL_law 418 = .ok (.if_icmp .eq 654, 3) := by decide +kernel
theorem dL_law_421 : decode cL_law 421 = .ok (.iconst 0, 1) := by decide +kernel
theorem dL_law_422 : decode cL_law 422 = .ok (.ireturn, 1) := by decide +kernel
theorem dL_law_423 : decode cL_law 423 = .ok (.aload_n 1, 1) := by decide +kernel
theorem dL_law_424 : decode cL_law 424 = .ok (.aload_n 0, 1) := by decide +kernel
theorem dL_law_425 : decode cL_law 425 = .ok (.iload_n 3, 1) := by decide +kernel
theorem dL_law_426 : decode cL_law 426 = .ok (.iconst 1, 1) := by decide +kernel
theorem dL_law_427 : decode cL_law 427 = .ok (.iadd, 1) := by decide +kernel
theorem dL_law_428 : decode cL_law 428 = .ok (.iaload, 1) := by decide +kernel
theorem dL_law_429 : decode cL_law 429 = .ok (.aload_n 0, 1) := by decide +kernel
theorem dL_law_430 : decode cL_law 430 = .ok (.iload_n 3, 1) := by decide +kernel
theorem dL_law_431 : decode cL_law 431 = .ok (.iconst 2, 1) := by decide +kernel
theorem dL_law_432 : decode cL_law 432 = .ok (.iadd, 1) := by decide +kernel
theorem dL_law_433 : decode cL_law 433 = .ok (.iaload, 1) := by decide +kernel
theorem dL_law_434 : decode cL_law 434 = .ok (.aload_n 0, 1) := by decide +kernel
theorem dL_law_435 : decode cL_law 435 = .ok (.iload_n 3, 1) := by decide +kernel
theorem dL_law_436 : decode cL_law 436 = .ok (.iconst 3, 1) := by decide +kernel
theorem dL_law_437 : decode cL_law 437 = .ok (.iadd, 1) := by decide +kernel
theorem dL_law_438 : decode cL_law 438 = .ok (.iaload, 1) := by decide +kernel
theorem dL_law_439 : decode cL_law 439 = .ok (.invokevirtual 53, 3) := by decide +kernel
theorem dL_law_442 : decode cL_law 442 = .ok (.aload_n 2, 1) := by decide +kernel
theorem dL_law_443 : decode cL_law 443 = .ok (.aload_n 0, 1) := by decide +kernel
theorem dL_law_444 : decode cL_law 444 = .ok (.iload_n 3, 1) := by decide +kernel
theorem dL_law_445 : decode cL_law 445 = .ok (.iconst 1, 1) := by decide +kernel
theorem dL_law_446 : decode cL_law 446 = .ok (.iadd, 1) := by decide +kernel
theorem dL_law_447 : decode cL_law 447 = .ok (.iaload, 1) := by decide +kernel
theorem dL_law_448 : decode cL_law 448 = .ok (.aload_n 0, 1) := by decide +kernel
theorem dL_law_449 : decode cL_law 449 = .ok (.iload_n 3, 1) := by decide +kernel
theorem dL_law_450 : decode cL_law 450 = .ok (.iconst 2, 1) := by decide +kernel
theorem dL_law_451 : decode cL_law 451 = .ok (.iadd, 1) := by decide +kernel
theorem dL_law_452 : decode cL_law 452 = .ok (.iaload, 1) := by decide +kernel
theorem dL_law_453 : decode cL_law 453 = .ok (.aload_n 0, 1) := by decide +kernel
theorem dL_law_454 : decode cL_law 454 = .ok (.iload_n 3, 1) := by decide +kernel
theorem dL_law_455 : decode cL_law 455 = .ok (.iconst 3, 1) := by decide +kernel
theorem dL_law_456 : decode cL_law 456 = .ok (.iadd, 1) := by decide +kernel
theorem dL_law_457 : decode cL_law 457 = .ok (.iaload, 1) := by decide +kernel
theorem dL_law_458 : decode cL_law 458 = .ok (.invokevirtual 56, 3) := by decide +kernel
theorem dL_law_461 : decode cL_law 461 = .ok (.if_icmp .eq 611, 3) := by decide +kernel
theorem dL_law_464 : decode cL_law 464 = .ok (.iconst 0, 1) := by decide +kernel
theorem dL_law_465 : decode cL_law 465 = .ok (.ireturn, 1) := by decide +kernel
theorem dL_law_466 : decode cL_law 466 = .ok (.aload_n 1, 1) := by decide +kernel
theorem dL_law_467 : decode cL_law 467 = .ok (.aload_n 0, 1) := by decide +kernel
theorem dL_law_468 : decode cL_law 468 = .ok (.iload_n 3, 1) := by decide +kernel
theorem dL_law_469 : decode cL_law 469 = .ok (.iconst 1, 1) := by decide +kernel
theorem dL_law_470 : decode cL_law 470 = .ok (.iadd, 1) := by decide +kernel
theorem dL_law_471 : decode cL_law 471 = .ok (.iaload, 1) := by decide +kernel
theorem dL_law_472 : decode cL_law 472 = .ok (.aload_n 0, 1) := by decide +kernel
theorem dL_law_473 : decode cL_law 473 = .ok (.iload_n 3, 1) := by decide +kernel
theorem dL_law_474 : decode cL_law 474 = .ok (.iconst 2, 1) := by decide +kernel
theorem dL_law_475 : decode cL_law 475 = .ok (.iadd, 1) := by decide +kernel
theorem dL_law_476 : decode cL_law 476 = .ok (.iaload, 1) := by decide +kernel
theorem dL_law_477 : decode cL_law 477 = .ok (.invokevirtual 57, 3) := by decide +kernel
theorem dL_law_480 : decode cL_law 480 = .ok (.aload_n 2, 1) := by decide +kernel
theorem dL_law_481 : decode cL_law 481 = .ok (.aload_n 0, 1) := by decide +kernel
theorem dL_law_482 : decode cL_law 482 = .ok (.iload_n 3, 1) := by decide +kernel
theorem dL_law_483 : decode cL_law 483 = .ok (.iconst 1, 1) := by decide +kernel
theorem dL_law_484 : decode cL_law 484 = .ok (.iadd, 1) := by decide +kernel
theorem dL_law_485 : decode cL_law 485 = .ok (.iaload, 1) := by decide +kernel
theorem dL_law_486 : decode cL_law 486 = .ok (.aload_n 0, 1) := by decide +kernel
theorem dL_law_487 : decode cL_law 487 = .ok (.iload_n 3, 1) := by decide +kernel
theorem dL_law_488 : decode cL_law 488 = .ok (.iconst 2, 1) := by decide +kernel
theorem dL_law_489 : decode cL_law 489 = .ok (.iadd, 1) := by decide +kernel
theorem dL_law_490 : decode cL_law 490 = .ok (.iaload, 1) := by decide +kernel
theorem dL_law_491 : decode cL_law 491 = .ok (.invokevirtual 60, 3) := by decide +kernel
theorem dL_law_494 : decode cL_law 494 = .ok (.if_icmp .eq 578, 3) := by decide +kernel
theorem dL_law_497 : decode cL_law 497 = .ok (.iconst 0, 1) := by decide +kernel
theorem dL_law_498 : decode cL_law 498 = .ok (.ireturn, 1) := by decide +kernel
theorem dL_law_499 : decode cL_law 499 = .ok (.aload_n 1, 1) := by decide +kernel
theorem dL_law_500 : decode cL_law 500 = .ok (.aload_n 0, 1) := by decide +kernel
theorem dL_law_501 : decode cL_law 501 = .ok (.iload_n 3, 1) := by decide +kernel
theorem dL_law_502 : decode cL_law 502 = .ok (.iconst 1, 1) := by decide +kernel
theorem dL_law_503 : decode cL_law 503 = .ok (.iadd, 1) := by decide +kernel
theorem dL_law_504 : decode cL_law 504 = .ok (.iaload, 1) := by decide +kernel
theorem dL_law_505 : decode cL_law 505 = .ok (.aload_n 0, 1) := by decide +kernel
theorem dL_law_506 : decode cL_law 506 = .ok (.iload_n 3, 1) := by decide +kernel
theorem dL_law_507 : decode cL_law 507 = .ok (.iconst 2, 1) := by decide +kernel
theorem dL_law_508 : decode cL_law 508 = .ok (.iadd, 1) := by decide +kernel
theorem dL_law_509 : decode cL_law 509 = .ok (.iaload, 1) := by decide +kernel
theorem dL_law_510 : decode cL_law 510 = .ok (.invokevirtual 61, 3) := by decide +kernel
theorem dL_law_513 : decode cL_law 513 = .ok (.aload_n 2, 1) := by decide +kernel
theorem dL_law_514 : decode cL_law 514 = .ok (.aload_n 0, 1) := by decide +kernel
theorem dL_law_515 : decode cL_law 515 = .ok (.iload_n 3, 1) := by decide +kernel
theorem dL_law_516 : decode cL_law 516 = .ok (.iconst 1, 1) := by decide +kernel
theorem dL_law_517 : decode cL_law 517 = .ok (.iadd, 1) := by decide +kernel
theorem dL_law_518 : decode cL_law 518 = .ok (.iaload, 1) := by decide +kernel
theorem dL_law_519 : decode cL_law 519 = .ok (.aload_n 0, 1) := by decide +kernel
theorem dL_law_520 : decode cL_law 520 = .ok (.iload_n 3, 1) := by decide +kernel
theorem dL_law_521 : decode cL_law 521 = .ok (.iconst 2, 1) := by decide +kernel
theorem dL_law_522 : decode cL_law 522 = .ok (.iadd, 1) := by decide +kernel
theorem dL_law_523 : decode cL_law 523 = .ok (.iaload, 1) := by decide +kernel
theorem dL_law_524 : decode cL_law 524 = .ok (.invokevirtual 64, 3) := by decide +kernel
theorem dL_law_527 : decode cL_law 527 = .ok (.if_icmp .eq 545, 3) := by decide +kernel
theorem dL_law_530 : decode cL_law 530 = .ok (.iconst 0, 1) := by decide +kernel
theorem dL_law_531 : decode cL_law 531 = .ok (.ireturn, 1) := by decide +kernel
theorem dL_law_532 : decode cL_law 532 = .ok (.aload_n 1, 1) := by decide +kernel
theorem dL_law_533 : decode cL_law 533 = .ok (.aload_n 0, 1) := by decide +kernel
theorem dL_law_534 : decode cL_law 534 = .ok (.iload_n 3, 1) := by decide +kernel
theorem dL_law_535 : decode cL_law 535 = .ok (.iconst 1, 1) := by decide +kernel
theorem dL_law_536 : decode cL_law 536 = .ok (.iadd, 1) := by decide +kernel
theorem dL_law_537 : decode cL_law 537 = .ok (.iaload, 1) := by decide +kernel
theorem dL_law_538 : decode cL_law 538 = .ok (.aload_n 0, 1) := by decide +kernel
theorem dL_law_539 : decode cL_law 539 = .ok (.iload_n 3, 1) := by decide +kernel
theorem dL_law_540 : decode cL_law 540 = .ok (.iconst 2, 1) := by decide +kernel
theorem dL_law_541 : decode cL_law 541 = .ok (.iadd, 1) := by decide +kernel
theorem dL_law_542 : decode cL_law 542 = .ok (.iaload, 1) := by decide +kernel
theorem dL_law_543 : decode cL_law 543 = .ok (.invokevirtual 65, 3) := by decide +kernel
theorem dL_law_546 : decode cL_law 546 = .ok (.aload_n 2, 1) := by decide +kernel
theorem dL_law_547 : decode cL_law 547 = .ok (.aload_n 0, 1) := by decide +kernel
theorem dL_law_548 : decode cL_law 548 = .ok (.iload_n 3, 1) := by decide +kernel
theorem dL_law_549 : decode cL_law 549 = .ok (.iconst 1, 1) := by decide +kernel
theorem dL_law_550 : decode cL_law 550 = .ok (.iadd, 1) := by decide +kernel
theorem dL_law_551 : decode cL_law 551 = .ok (.iaload, 1) := by decide +kernel
theorem dL_law_552 : decode cL_law 552 = .ok (.aload_n 0, 1) := by decide +kernel
theorem dL_law_553 : decode cL_law 553 = .ok (.iload_n 3, 1) := by decide +kernel
theorem dL_law_554 : decode cL_law 554 = .ok (.iconst 2, 1) := by decide +kernel
theorem dL_law_555 : decode cL_law 555 = .ok (.iadd, 1) := by decide +kernel
theorem dL_law_556 : decode cL_law 556 = .ok (.iaload, 1) := by decide +kernel
theorem dL_law_557 : decode cL_law 557 = .ok (.invokevirtual 68, 3) := by decide +kernel
theorem dL_law_560 : decode cL_law 560 = .ok (.if_icmp .eq 512, 3) := by decide +kernel
theorem dL_law_563 : decode cL_law 563 = .ok (.iconst 0, 1) := by decide +kernel
theorem dL_law_564 : decode cL_law 564 = .ok (.ireturn, 1) := by decide +kernel
theorem dL_law_565 : decode cL_law 565 = .ok (.aload_n 1, 1) := by decide +kernel
theorem dL_law_566 : decode cL_law 566 = .ok (.aload_n 0, 1) := by decide +kernel
theorem dL_law_567 : decode cL_law 567 = .ok (.iload_n 3, 1) := by decide +kernel
theorem dL_law_568 : decode cL_law 568 = .ok (.iconst 1, 1) := by decide +kernel
theorem dL_law_569 : decode cL_law 569 = .ok (.iadd, 1) := by decide +kernel
theorem dL_law_570 : decode cL_law 570 = .ok (.iaload, 1) := by decide +kernel
theorem dL_law_571 : decode cL_law 571 = .ok (.invokevirtual 69, 3) := by decide +kernel
theorem dL_law_574 : decode cL_law 574 = .ok (.aload_n 2, 1) := by decide +kernel
theorem dL_law_575 : decode cL_law 575 = .ok (.aload_n 0, 1) := by decide +kernel
theorem dL_law_576 : decode cL_law 576 = .ok (.iload_n 3, 1) := by decide +kernel
theorem dL_law_577 : decode cL_law 577 = .ok (.iconst 1, 1) := by decide +kernel
theorem dL_law_578 : decode cL_law 578 = .ok (.iadd, 1) := by decide +kernel
theorem dL_law_579 : decode cL_law 579 = .ok (.iaload, 1) := by decide +kernel
theorem dL_law_580 : decode cL_law 580 = .ok (.invokevirtual 72, 3) := by decide +kernel
theorem dL_law_583 : decode cL_law 583 = .ok (.if_icmp .eq 489, 3) := by decide +kernel
theorem dL_law_586 : decode cL_law 586 = .ok (.iconst 0, 1) := by decide +kernel
theorem dL_law_587 : decode cL_law 587 = .ok (.ireturn, 1) := by decide +kernel
theorem dL_law_588 : decode cL_law 588 = .ok (.aload_n 1, 1) := by decide +kernel
theorem dL_law_589 : decode cL_law 589 = .ok (.aload_n 0, 1) := by decide +kernel
theorem dL_law_590 : decode cL_law 590 = .ok (.iload_n 3, 1) := by decide +kernel
theorem dL_law_591 : decode cL_law 591 = .ok (.iconst 1, 1) := by decide +kernel
theorem dL_law_592 : decode cL_law 592 = .ok (.iadd, 1) := by decide +kernel
theorem dL_law_593 : decode cL_law 593 = .ok (.iaload, 1) := by decide +kernel
theorem dL_law_594 : decode cL_law 594 = .ok (.aload_n 0, 1) := by decide +kernel
theorem dL_law_595 : decode cL_law 595 = .ok (.iload_n 3, 1) := by decide +kernel
theorem dL_law_596 : decode cL_law 596 = .ok (.iconst 2, 1) := by decide +kernel
theorem dL_law_597 : decode cL_law 597 = .ok (.iadd, 1) := by decide +kernel
theorem dL_law_598 : decode cL_law 598 = .ok (.iaload, 1) := by decide +kernel
theorem dL_law_599 : decode cL_law 599 = .ok (.invokevirtual 73, 3) := by decide +kernel
theorem dL_law_602 : decode cL_law 602 = .ok (.aload_n 2, 1) := by decide +kernel
theorem dL_law_603 : decode cL_law 603 = .ok (.aload_n 0, 1) := by decide +kernel
theorem dL_law_604 : decode cL_law 604 = .ok (.iload_n 3, 1) := by decide +kernel
theorem dL_law_605 : decode cL_law 605 = .ok (.iconst 1, 1) := by decide +kernel
theorem dL_law_606 : decode cL_law 606 = .ok (.iadd, 1) := by decide +kernel
theorem dL_law_607 : decode cL_law 607 = .ok (.iaload, 1) := by decide +kernel
theorem dL_law_608 : decode cL_law 608 = .ok (.aload_n 0, 1) := by decide +kernel
theorem dL_law_609 : decode cL_law 609 = .ok (.iload_n 3, 1) := by decide +kernel
theorem dL_law_610 : decode cL_law 610 = .ok (.iconst 2, 1) := by decide +kernel
theorem dL_law_611 : decode cL_law 611 = .ok (.iadd, 1) := by decide +kernel
theorem dL_law_612 : decode cL_law 612 = .ok (.iaload, 1) := by decide +kernel
theorem dL_law_613 : decode cL_law 613 = .ok (.invokevirtual 76, 3) := by decide +kernel
theorem dL_law_616 : decode cL_law 616 = .ok (.if_icmp .eq 456, 3) := by decide +kernel
theorem dL_law_619 : decode cL_law 619 = .ok (.iconst 0, 1) := by decide +kernel
theorem dL_law_620 : decode cL_law 620 = .ok (.ireturn, 1) := by decide +kernel
theorem dL_law_621 : decode cL_law 621 = .ok (.aload_n 1, 1) := by decide +kernel
theorem dL_law_622 : decode cL_law 622 = .ok (.invokevirtual 77, 3) := by decide +kernel
theorem dL_law_625 : decode cL_law 625 = .ok (.aload_n 2, 1) := by decide +kernel
theorem dL_law_626 : decode cL_law 626 = .ok (.invokevirtual 80, 3) := by decide +kernel
theorem dL_law_629 : decode cL_law 629 = .ok (.if_icmp .eq 443, 3) := by decide +kernel
theorem dL_law_632 : decode cL_law 632 = .ok (.iconst 0, 1) := by decide +kernel
theorem dL_law_633 : decode cL_law 633 = .ok (.ireturn, 1) := by decide +kernel
theorem dL_law_634 : decode cL_law 634 = .ok (.aload_n 1, 1) := by decide +kernel
theorem dL_law_635 : decode cL_law 635 = .ok (.aload_n 0, 1) := by decide +kernel
theorem dL_law_636 : decode cL_law 636 = .ok (.iload_n 3, 1) := by decide +kernel
theorem dL_law_637 : decode cL_law 637 = .ok (.iconst 1, 1) := by decide +kernel
theorem dL_law_638 : decode cL_law 638 = .ok (.iadd, 1) := by decide +kernel
theorem dL_law_639 : decode cL_law 639 = .ok (.iaload, 1) := by decide +kernel
theorem dL_law_640 : decode cL_law 640 = .ok (.aload_n 0, 1) := by decide +kernel
theorem dL_law_641 : decode cL_law 641 = .ok (.iload_n 3, 1) := by decide +kernel
theorem dL_law_642 : decode cL_law 642 = .ok (.iconst 2, 1) := by decide +kernel
theorem dL_law_643 : decode cL_law 643 = .ok (.iadd, 1) := by decide +kernel
theorem dL_law_644 : decode cL_law 644 = .ok (.iaload, 1) := by decide +kernel
theorem dL_law_645 : decode cL_law 645 = .ok (.invokevirtual 81, 3) := by decide +kernel
theorem dL_law_648 : decode cL_law 648 = .ok (.aload_n 2, 1) := by decide +kernel
theorem dL_law_649 : decode cL_law 649 = .ok (.aload_n 0, 1) := by decide +kernel
theorem dL_law_650 : decode cL_law 650 = .ok (.iload_n 3, 1) := by decide +kernel
theorem dL_law_651 : decode cL_law 651 = .ok (.iconst 1, 1) := by decide +kernel
theorem dL_law_652 : decode cL_law 652 = .ok (.iadd, 1) := by decide +kernel
theorem dL_law_653 : decode cL_law 653 = .ok (.iaload, 1) := by decide +kernel
theorem dL_law_654 : decode cL_law 654 = .ok (.aload_n 0, 1) := by decide +kernel
theorem dL_law_655 : decode cL_law 655 = .ok (.iload_n 3, 1) := by decide +kernel
theorem dL_law_656 : decode cL_law 656 = .ok (.iconst 2, 1) := by decide +kernel
theorem dL_law_657 : decode cL_law 657 = .ok (.iadd, 1) := by decide +kernel
theorem dL_law_658 : decode cL_law 658 = .ok (.iaload, 1) := by decide +kernel
theorem dL_law_659 : decode cL_law 659 = .ok (.invokevirtual 84, 3) := by decide +kernel
theorem dL_law_662 : decode cL_law 662 = .ok (.if_icmp .eq 410, 3) := by decide +kernel
theorem dL_law_665 : decode cL_law 665 = .ok (.iconst 0, 1) := by decide +kernel
theorem dL_law_666 : decode cL_law 666 = .ok (.ireturn, 1) := by decide +kernel
theorem dL_law_667 : decode cL_law 667 = .ok (.aload_n 1, 1) := by decide +kernel
theorem dL_law_668 : decode cL_law 668 = .ok (.aload_n 0, 1) := by decide +kernel
theorem dL_law_669 : decode cL_law 669 = .ok (.iload_n 3, 1) := by decide +kernel
theorem dL_law_670 : decode cL_law 670 = .ok (.iconst 1, 1) := by decide +kernel
theorem dL_law_671 : decode cL_law 671 = .ok (.iadd, 1) := by decide +kernel
theorem dL_law_672 : decode cL_law 672 = .ok (.iaload, 1) := by decide +kernel
theorem dL_law_673 : decode cL_law 673 = .ok (.invokevirtual 85, 3) := by decide +kernel
theorem dL_law_676 : decode cL_law 676 = .ok (.aload_n 2, 1) := by decide +kernel
theorem dL_law_677 : decode cL_law 677 = .ok (.aload_n 0, 1) := by decide +kernel
theorem dL_law_678 : decode cL_law 678 = .ok (.iload_n 3, 1) := by decide +kernel
theorem dL_law_679 : decode cL_law 679 = .ok (.iconst 1, 1) := by decide +kernel
theorem dL_law_680 : decode cL_law 680 = .ok (.iadd, 1) := by decide +kernel
theorem dL_law_681 : decode cL_law 681 = .ok (.iaload, 1) := by decide +kernel
theorem dL_law_682 : decode cL_law 682 = .ok (.invokevirtual 88, 3) := by decide +kernel
theorem dL_law_685 : decode cL_law 685 = .ok (.if_icmp .eq 387, 3) := by decide +kernel
theorem dL_law_688 : decode cL_law 688 = .ok (.iconst 0, 1) := by decide +kernel
theorem dL_law_689 : decode cL_law 689 = .ok (.ireturn, 1) := by decide +kernel
theorem dL_law_690 : decode cL_law 690 = .ok (.aload_n 1, 1) := by decide +kernel
theorem dL_law_691 : decode cL_law 691 = .ok (.invokevirtual 89, 3) := by decide +kernel
theorem dL_law_694 : decode cL_law 694 = .ok (.aload_n 2, 1) := by decide +kernel
theorem dL_law_695 : decode cL_law 695 = .ok (.invokevirtual 92, 3) := by decide +kernel
theorem dL_law_698 : decode cL_law 698 = .ok (.if_icmp .eq 374, 3) := by decide +kernel
theorem dL_law_701 : decode cL_law 701 = .ok (.iconst 0, 1) := by decide +kernel
theorem dL_law_702 : decode cL_law 702 = .ok (.ireturn, 1) := by decide +kernel
theorem dL_law_703 : decode cL_law 703 = .ok (.aload_n 1, 1) := by decide +kernel
theorem dL_law_704 : decode cL_law 704 = .ok (.aload_n 0, 1) := by decide +kernel
theorem dL_law_705 : decode cL_law 705 = .ok (.iload_n 3, 1) := by decide +kernel
theorem dL_law_706 : decode cL_law 706 = .ok (.iconst 1, 1) := by decide +kernel
theorem dL_law_707 : decode cL_law 707 = .ok (.iadd, 1) := by decide +kernel
theorem dL_law_708 : decode cL_law 708 = .ok (.iaload, 1) := by decide +kernel
theorem dL_law_709 : decode cL_law 709 = .ok (.aload_n 0, 1) := by decide +kernel
theorem dL_law_710 : decode cL_law 710 = .ok (.iload_n 3, 1) := by decide +kernel
theorem dL_law_711 : decode cL_law 711 = .ok (.iconst 2, 1) := by decide +kernel
theorem dL_law_712 : decode cL_law 712 = .ok (.iadd, 1) := by decide +kernel
theorem dL_law_713 : decode cL_law 713 = .ok (.iaload, 1) := by decide +kernel
theorem dL_law_714 : decode cL_law 714 = .ok (.aload_n 0, 1) := by decide +kernel
theorem dL_law_715 : decode cL_law 715 = .ok (.iload_n 3, 1) := by decide +kernel
theorem dL_law_716 : decode cL_law 716 = .ok (.iconst 3, 1) := by decide +kernel
theorem dL_law_717 : decode cL_law 717 = .ok (.iadd, 1) := by decide +kernel
theorem dL_law_718 : decode cL_law 718 = .ok (.iaload, 1) := by decide +kernel
theorem dL_law_719 : decode cL_law 719 = .ok (.invokevirtual 93, 3) := by decide +kernel
theorem dL_law_722 : decode cL_law 722 = .ok (.aload_n 2, 1) := by decide +kernel
theorem dL_law_723 : decode cL_law 723 = .ok (.aload_n 0, 1) := by decide +kernel
theorem dL_law_724 : decode cL_law 724 = .ok (.iload_n 3, 1) := by decide +kernel
theorem dL_law_725 : decode cL_law 725 = .ok (.iconst 1, 1) := by decide +kernel
theorem dL_law_726 : decode cL_law 726 = .ok (.iadd, 1) := by decide +kernel
theorem dL_law_727 : decode cL_law 727 = .ok (.iaload, 1) := by decide +kernel
theorem dL_law_728 : decode cL_law 728 = .ok (.aload_n 0, 1) := by decide +kernel
theorem dL_law_729 : decode cL_law 729 = .ok (.iload_n 3, 1) := by decide +kernel
theorem dL_law_730 : decode cL_law 730 = .ok (.iconst 2, 1) := by decide +kernel
theorem dL_law_731 : decode cL_law 731 = .ok (.iadd, 1) := by decide +kernel
theorem dL_law_732 : decode cL_law 732 = .ok (.iaload, 1) := by decide +kernel
theorem dL_law_733 : decode cL_law 733 = .ok (.aload_n 0, 1) := by decide +kernel
theorem dL_law_734 : decode cL_law 734 = .ok (.iload_n 3, 1) := by decide +kernel
theorem dL_law_735 : decode cL_law 735 = .ok (.iconst 3, 1) := by decide +kernel
theorem dL_law_736 : decode cL_law 736 = .ok (.iadd, 1) := by decide +kernel
theorem dL_law_737 : decode cL_law 737 = .ok (.iaload, 1) := by decide +kernel
theorem dL_law_738 : decode cL_law 738 = .ok (.invokevirtual 96, 3) := by decide +kernel
theorem dL_law_741 : decode cL_law 741 = .ok (.if_icmp .eq 331, 3) := by decide +kernel
theorem dL_law_744 : decode cL_law 744 = .ok (.iconst 0, 1) := by decide +kernel
theorem dL_law_745 : decode cL_law 745 = .ok (.ireturn, 1) := by decide +kernel
theorem dL_law_746 : decode cL_law 746 = .ok (.aload_n 1, 1) := by decide +kernel
theorem dL_law_747 : decode cL_law 747 = .ok (.aload_n 0, 1) := by decide +kernel
theorem dL_law_748 : decode cL_law 748 = .ok (.iload_n 3, 1) := by decide +kernel
theorem dL_law_749 : decode cL_law 749 = .ok (.iconst 1, 1) := by decide +kernel
theorem dL_law_750 : decode cL_law 750 = .ok (.iadd, 1) := by decide +kernel
theorem dL_law_751 : decode cL_law 751 = .ok (.iaload, 1) := by decide +kernel
theorem dL_law_752 : decode cL_law 752 = .ok (.aload_n 0, 1) := by decide +kernel
theorem dL_law_753 : decode cL_law 753 = .ok (.iload_n 3, 1) := by decide +kernel
theorem dL_law_754 : decode cL_law 754 = .ok (.iconst 2, 1) := by decide +kernel
theorem dL_law_755 : decode cL_law 755 = .ok (.iadd, 1) := by decide +kernel
theorem dL_law_756 : decode cL_law 756 = .ok (.iaload, 1) := by decide +kernel
theorem dL_law_757 : decode cL_law 757 = .ok (.aload_n 0, 1) := by decide +kernel
theorem dL_law_758 : decode cL_law 758 = .ok (.iload_n 3, 1) := by decide +kernel
theorem dL_law_759 : decode cL_law 759 = .ok (.iconst 3, 1) := by decide +kernel
theorem dL_law_760 : decode cL_law 760 = .ok (.iadd, 1) := by decide +kernel
theorem dL_law_761 : decode cL_law 761 = .ok (.iaload, 1) := by decide +kernel
theorem dL_law_762 : decode cL_law 762 = .ok (.invokevirtual 97, 3) := by decide +kernel
theorem dL_law_765 : decode cL_law 765 = .ok (.aload_n 2, 1) := by decide +kernel
theorem dL_law_766 : decode cL_law 766 = .ok (.aload_n 0, 1) := by decide +kernel
theorem dL_law_767 : decode cL_law 767 = .ok (.iload_n 3, 1) := by decide +kernel
theorem dL_law_768 : decode cL_law 768 = .ok (.iconst 1, 1) := by decide +kernel
theorem dL_law_769 : decode cL_law 769 = .ok (.iadd, 1) := by decide +kernel
theorem dL_law_770 : decode cL_law 770 = .ok (.iaload, 1) := by decide +kernel
theorem dL_law_771 : decode cL_law 771 = .ok (.aload_n 0, 1) := by decide +kernel
theorem dL_law_772 : decode cL_law 772 = .ok (.iload_n 3, 1) := by decide +kernel
theorem dL_law_773 : decode cL_law 773 = .ok (.iconst 2, 1) := by decide +kernel
theorem dL_law_774 : decode cL_law 774 = .ok (.iadd, 1) := by decide +kernel
theorem dL_law_775 : decode cL_law 775 = .ok (.iaload, 1) := by decide +kernel
theorem dL_law_776 : decode cL_law 776 = .ok (.aload_n 0, 1) := by decide +kernel
theorem dL_law_777 : decode cL_law 777 = .ok (.iload_n 3, 1) := by decide +kernel
theorem dL_law_778 : decode cL_law 778 = .ok (.iconst 3, 1) := by decide +kernel
theorem dL_law_779 : decode cL_law 779 = .ok (.iadd, 1) := by decide +kernel
theorem dL_law_780 : decode cL_law 780 = .ok (.iaload, 1) := by decide +kernel
theorem dL_law_781 : decode cL_law 781 = .ok (.invokevirtual 100, 3) := by decide +kernel
theorem dL_law_784 : decode cL_law 784 = .ok (.if_icmp .eq 288, 3) := by decide +kernel
theorem dL_law_787 : decode cL_law 787 = .ok (.iconst 0, 1) := by decide +kernel
theorem dL_law_788 : decode cL_law 788 = .ok (.ireturn, 1) := by decide +kernel
theorem dL_law_789 : decode cL_law 789 = .ok (.aload_n 1, 1) := by decide +kernel
theorem dL_law_790 : decode cL_law 790 = .ok (.aload_n 0, 1) := by decide +kernel
theorem dL_law_791 : decode cL_law 791 = .ok (.iload_n 3, 1) := by decide +kernel
theorem dL_law_792 : decode cL_law 792 = .ok (.iconst 1, 1) := by decide +kernel
theorem dL_law_793 : decode cL_law 793 = .ok (.iadd, 1) := by decide +kernel
theorem dL_law_794 : decode cL_law 794 = .ok (.iaload, 1) := by decide +kernel
theorem dL_law_795 : decode cL_law 795 = .ok (.invokevirtual 101, 3) := by decide +kernel
theorem dL_law_798 : decode cL_law 798 = .ok (.aload_n 2, 1) := by decide +kernel
theorem dL_law_799 : decode cL_law 799 = .ok (.aload_n 0, 1) := by decide +kernel
theorem dL_law_800 : decode cL_law 800 = .ok (.iload_n 3, 1) := by decide +kernel
theorem dL_law_801 : decode cL_law 801 = .ok (.iconst 1, 1) := by decide +kernel
theorem dL_law_802 : decode cL_law 802 = .ok (.iadd, 1) := by decide +kernel
theorem dL_law_803 : decode cL_law 803 = .ok (.iaload, 1) := by decide +kernel
theorem dL_law_804 : decode cL_law 804 = .ok (.invokevirtual 104, 3) := by decide +kernel
theorem dL_law_807 : decode cL_law 807 = .ok (.if_icmp .eq 265, 3) := by decide +kernel
theorem dL_law_810 : decode cL_law 810 = .ok (.iconst 0, 1) := by decide +kernel
theorem dL_law_811 : decode cL_law 811 = .ok (.ireturn, 1) := by decide +kernel
theorem dL_law_812 : decode cL_law 812 = .ok (.aload_n 1, 1) := by decide +kernel
theorem dL_law_813 : decode cL_law 813 = .ok (.aload_n 0, 1) := by decide +kernel
theorem dL_law_814 : decode cL_law 814 = .ok (.iload_n 3, 1) := by decide +kernel
theorem dL_law_815 : decode cL_law 815 = .ok (.iconst 1, 1) := by decide +kernel
theorem dL_law_816 : decode cL_law 816 = .ok (.iadd, 1) := by decide +kernel
theorem dL_law_817 : decode cL_law 817 = .ok (.iaload, 1) := by decide +kernel
theorem dL_law_818 : decode cL_law 818 = .ok (.aload_n 0, 1) := by decide +kernel
theorem dL_law_819 : decode cL_law 819 = .ok (.iload_n 3, 1) := by decide +kernel
theorem dL_law_820 : decode cL_law 820 = .ok (.iconst 2, 1) := by decide +kernel
theorem dL_law_821 : decode cL_law 821 = .ok (.iadd, 1) := by decide +kernel
theorem dL_law_822 : decode cL_law 822 = .ok (.iaload, 1) := by decide +kernel
theorem dL_law_823 : decode cL_law 823 = .ok (.invokevirtual 105, 3) := by decide +kernel
theorem dL_law_826 : decode cL_law 826 = .ok (.aload_n 2, 1) := by decide +kernel
theorem dL_law_827 : decode cL_law 827 = .ok (.aload_n 0, 1) := by decide +kernel
theorem dL_law_828 : decode cL_law 828 = .ok (.iload_n 3, 1) := by decide +kernel
theorem dL_law_829 : decode cL_law 829 = .ok (.iconst 1, 1) := by decide +kernel
theorem dL_law_830 : decode cL_law 830 = .ok (.iadd, 1) := by decide +kernel
theorem dL_law_831 : decode cL_law 831 = .ok (.iaload, 1) := by decide +kernel
theorem dL_law_832 : decode cL_law 832 = .ok (.aload_n 0, 1) := by decide +kernel
theorem dL_law_833 : decode cL_law 833 = .ok (.iload_n 3, 1) := by decide +kernel
theorem dL_law_834 : decode cL_law 834 = .ok (.iconst 2, 1) := by decide +kernel
theorem dL_law_835 : decode cL_law 835 = .ok (.iadd, 1) := by decide +kernel
theorem dL_law_836 : decode cL_law 836 = .ok (.iaload, 1) := by decide +kernel
theorem dL_law_837 : decode cL_law 837 = .ok (.invokevirtual 108, 3) := by decide +kernel
theorem dL_law_840 : decode cL_law 840 = .ok (.if_icmp .eq 232, 3) := by decide +kernel
theorem dL_law_843 : decode cL_law 843 = .ok (.iconst 0, 1) := by decide +kernel
theorem dL_law_844 : decode cL_law 844 = .ok (.ireturn, 1) := by decide +kernel
theorem dL_law_845 : decode cL_law 845 = .ok (.aload_n 1, 1) := by decide +kernel
theorem dL_law_846 : decode cL_law 846 = .ok (.aload_n 0, 1) := by decide +kernel
theorem dL_law_847 : decode cL_law 847 = .ok (.iload_n 3, 1) := by decide +kernel
theorem dL_law_848 : decode cL_law 848 = .ok (.iconst 1, 1) := by decide +kernel
theorem dL_law_849 : decode cL_law 849 = .ok (.iadd, 1) := by decide +kernel
theorem dL_law_850 : decode cL_law 850 = .ok (.iaload, 1) := by decide +kernel
theorem dL_law_851 : decode cL_law 851 = .ok (.invokevirtual 109, 3) := by decide +kernel
theorem dL_law_854 : decode cL_law 854 = .ok (.aload_n 2, 1) := by decide +kernel
theorem dL_law_855 : decode cL_law 855 = .ok (.aload_n 0, 1) := by decide +kernel
theorem dL_law_856 : decode cL_law 856 = .ok (.iload_n 3, 1) := by decide +kernel
theorem dL_law_857 : decode cL_law 857 = .ok (.iconst 1, 1) := by decide +kernel
theorem dL_law_858 : decode cL_law 858 = .ok (.iadd, 1) := by decide +kernel
theorem dL_law_859 : decode cL_law 859 = .ok (.iaload, 1) := by decide +kernel
theorem dL_law_860 : decode cL_law 860 = .ok (.invokevirtual 112, 3) := by decide +kernel
theorem dL_law_863 : decode cL_law 863 = .ok (.if_icmp .eq 209, 3) := by decide +kernel
theorem dL_law_866 : decode cL_law 866 = .ok (.iconst 0, 1) := by decide +kernel
theorem dL_law_867 : decode cL_law 867 = .ok (.ireturn, 1) := by decide +kernel
theorem dL_law_868 : decode cL_law 868 = .ok (.aload_n 1, 1) := by decide +kernel
theorem dL_law_869 : decode cL_law 869 = .ok (.aload_n 0, 1) := by decide +kernel
theorem dL_law_870 : decode cL_law 870 = .ok (.iload_n 3, 1) := by decide +kernel
theorem dL_law_871 : decode cL_law 871 = .ok (.iconst 1, 1) := by decide +kernel
theorem dL_law_872 : decode cL_law 872 = .ok (.iadd, 1) := by decide +kernel
theorem dL_law_873 : decode cL_law 873 = .ok (.iaload, 1) := by decide +kernel
theorem dL_law_874 : decode cL_law 874 = .ok (.invokevirtual 113, 3) := by decide +kernel
theorem dL_law_877 : decode cL_law 877 = .ok (.aload_n 2, 1) := by decide +kernel
theorem dL_law_878 : decode cL_law 878 = .ok (.aload_n 0, 1) := by decide +kernel
theorem dL_law_879 : decode cL_law 879 = .ok (.iload_n 3, 1) := by decide +kernel
theorem dL_law_880 : decode cL_law 880 = .ok (.iconst 1, 1) := by decide +kernel
theorem dL_law_881 : decode cL_law 881 = .ok (.iadd, 1) := by decide +kernel
theorem dL_law_882 : decode cL_law 882 = .ok (.iaload, 1) := by decide +kernel
theorem dL_law_883 : decode cL_law 883 = .ok (.invokevirtual 116, 3) := by decide +kernel
theorem dL_law_886 : decode cL_law 886 = .ok (.if_icmp .eq 186, 3) := by decide +kernel
theorem dL_law_889 : decode cL_law 889 = .ok (.iconst 0, 1) := by decide +kernel
theorem dL_law_890 : decode cL_law 890 = .ok (.ireturn, 1) := by decide +kernel
theorem dL_law_891 : decode cL_law 891 = .ok (.aload_n 1, 1) := by decide +kernel
theorem dL_law_892 : decode cL_law 892 = .ok (.aload_n 0, 1) := by decide +kernel
theorem dL_law_893 : decode cL_law 893 = .ok (.iload_n 3, 1) := by decide +kernel
theorem dL_law_894 : decode cL_law 894 = .ok (.iconst 1, 1) := by decide +kernel
theorem dL_law_895 : decode cL_law 895 = .ok (.iadd, 1) := by decide +kernel
theorem dL_law_896 : decode cL_law 896 = .ok (.iaload, 1) := by decide +kernel
theorem dL_law_897 : decode cL_law 897 = .ok (.invokevirtual 117, 3) := by decide +kernel
theorem dL_law_900 : decode cL_law 900 = .ok (.aload_n 2, 1) := by decide +kernel
theorem dL_law_901 : decode cL_law 901 = .ok (.aload_n 0, 1) := by decide +kernel
theorem dL_law_902 : decode cL_law 902 = .ok (.iload_n 3, 1) := by decide +kernel
theorem dL_law_903 : decode cL_law 903 = .ok (.iconst 1, 1) := by decide +kernel
theorem dL_law_904 : decode cL_law 904 = .ok (.iadd, 1) := by decide +kernel
theorem dL_law_905 : decode cL_law 905 = .ok (.iaload, 1) := by decide +kernel
theorem dL_law_906 : decode cL_law 906 = .ok (.invokevirtual 120, 3) := by decide +kernel
theorem dL_law_909 : decode cL_law 909 = .ok (.if_icmp .eq 163, 3) := by decide +kernel
theorem dL_law_912 : decode cL_law 912 = .ok (.iconst 0, 1) := by decide +kernel
theorem dL_law_913 : decode cL_law 913 = .ok (.ireturn, 1) := by decide +kernel
theorem dL_law_914 : decode cL_law 914 = .ok (.aload_n 1, 1) := by decide +kernel
theorem dL_law_915 : decode cL_law 915 = .ok (.aload_n 0, 1) := by decide +kernel
theorem dL_law_916 : decode cL_law 916 = .ok (.iload_n 3, 1) := by decide +kernel
theorem dL_law_917 : decode cL_law 917 = .ok (.iconst 1, 1) := by decide +kernel
theorem dL_law_918 : decode cL_law 918 = .ok (.iadd, 1) := by decide +kernel
theorem dL_law_919 : decode cL_law 919 = .ok (.iaload, 1) := by decide +kernel
theorem dL_law_920 : decode cL_law 920 = .ok (.invokevirtual 121, 3) := by decide +kernel
theorem dL_law_923 : decode cL_law 923 = .ok (.aload_n 2, 1) := by decide +kernel
theorem dL_law_924 : decode cL_law 924 = .ok (.aload_n 0, 1) := by decide +kernel
theorem dL_law_925 : decode cL_law 925 = .ok (.iload_n 3, 1) := by decide +kernel
theorem dL_law_926 : decode cL_law 926 = .ok (.iconst 1, 1) := by decide +kernel
theorem dL_law_927 : decode cL_law 927 = .ok (.iadd, 1) := by decide +kernel
theorem dL_law_928 : decode cL_law 928 = .ok (.iaload, 1) := by decide +kernel
theorem dL_law_929 : decode cL_law 929 = .ok (.invokevirtual 124, 3) := by decide +kernel
theorem dL_law_932 : decode cL_law 932 = .ok (.if_icmp .eq 140, 3) := by decide +kernel
theorem dL_law_935 : decode cL_law 935 = .ok (.iconst 0, 1) := by decide +kernel
theorem dL_law_936 : decode cL_law 936 = .ok (.ireturn, 1) := by decide +kernel
theorem dL_law_937 : decode cL_law 937 = .ok (.aload_n 1, 1) := by decide +kernel
theorem dL_law_938 : decode cL_law 938 = .ok (.aload_n 0, 1) := by decide +kernel
theorem dL_law_939 : decode cL_law 939 = .ok (.iload_n 3, 1) := by decide +kernel
theorem dL_law_940 : decode cL_law 940 = .ok (.iconst 1, 1) := by decide +kernel
theorem dL_law_941 : decode cL_law 941 = .ok (.iadd, 1) := by decide +kernel
theorem dL_law_942 : decode cL_law 942 = .ok (.iaload, 1) := by decide +kernel
theorem dL_law_943 : decode cL_law 943 = .ok (.aload_n 0, 1) := by decide +kernel
theorem dL_law_944 : decode cL_law 944 = .ok (.iload_n 3, 1) := by decide +kernel
theorem dL_law_945 : decode cL_law 945 = .ok (.iconst 2, 1) := by decide +kernel
theorem dL_law_946 : decode cL_law 946 = .ok (.iadd, 1) := by decide +kernel
theorem dL_law_947 : decode cL_law 947 = .ok (.iaload, 1) := by decide +kernel
theorem dL_law_948 : decode cL_law 948 = .ok (.aload_n 0, 1) := by decide +kernel
theorem dL_law_949 : decode cL_law 949 = .ok (.iload_n 3, 1) := by decide +kernel
theorem dL_law_950 : decode cL_law 950 = .ok (.iconst 3, 1) := by decide +kernel
theorem dL_law_951 : decode cL_law 951 = .ok (.iadd, 1) := by decide +kernel
theorem dL_law_952 : decode cL_law 952 = .ok (.iaload, 1) := by decide +kernel
theorem dL_law_953 : decode cL_law 953 = .ok (.invokevirtual 125, 3) := by decide +kernel
theorem dL_law_956 : decode cL_law 956 = .ok (.aload_n 2, 1) := by decide +kernel
theorem dL_law_957 : decode cL_law 957 = .ok (.aload_n 0, 1) := by decide +kernel
theorem dL_law_958 : decode cL_law 958 = .ok (.iload_n 3, 1) := by decide +kernel
theorem dL_law_959 : decode cL_law 959 = .ok (.iconst 1, 1) := by decide +kernel
theorem dL_law_960 : decode cL_law 960 = .ok (.iadd, 1) := by decide +kernel
theorem dL_law_961 : decode cL_law 961 = .ok (.iaload, 1) := by decide +kernel
theorem dL_law_962 : decode cL_law 962 = .ok (.aload_n 0, 1) := by decide +kernel
theorem dL_law_963 : decode cL_law 963 = .ok (.iload_n 3, 1) := by decide +kernel
theorem dL_law_964 : decode cL_law 964 = .ok (.iconst 2, 1) := by decide +kernel
theorem dL_law_965 : decode cL_law 965 = .ok (.iadd, 1) := by decide +kernel
theorem dL_law_966 : decode cL_law 966 = .ok (.iaload, 1) := by decide +kernel
theorem dL_law_967 : decode cL_law 967 = .ok (.aload_n 0, 1) := by decide +kernel
theorem dL_law_968 : decode cL_law 968 = .ok (.iload_n 3, 1) := by decide +kernel
theorem dL_law_969 : decode cL_law 969 = .ok (.iconst 3, 1) := by decide +kernel
theorem dL_law_970 : decode cL_law 970 = .ok (.iadd, 1) := by decide +kernel
theorem dL_law_971 : decode cL_law 971 = .ok (.iaload, 1) := by decide +kernel
theorem dL_law_972 : decode cL_law 972 = .ok (.invokevirtual 128, 3) := by decide +kernel
theorem dL_law_975 : decode cL_law 975 = .ok (.if_icmp .eq 97, 3) := by decide +kernel
theorem dL_law_978 : decode cL_law 978 = .ok (.iconst 0, 1) := by decide +kernel
theorem dL_law_979 : decode cL_law 979 = .ok (.ireturn, 1) := by decide +kernel
theorem dL_law_980 : decode cL_law 980 = .ok (.aload_n 1, 1) := by decide +kernel
theorem dL_law_981 : decode cL_law 981 = .ok (.aload_n 0, 1) := by decide +kernel
theorem dL_law_982 : decode cL_law 982 = .ok (.iload_n 3, 1) := by decide +kernel
theorem dL_law_983 : decode cL_law 983 = .ok (.iconst 1, 1) := by decide +kernel
theorem dL_law_984 : decode cL_law 984 = .ok (.iadd, 1) := by decide +kernel
theorem dL_law_985 : decode cL_law 985 = .ok (.iaload, 1) := by decide +kernel
theorem dL_law_986 : decode cL_law 986 = .ok (.aload_n 0, 1) := by decide +kernel
theorem dL_law_987 : decode cL_law 987 = .ok (.iload_n 3, 1) := by decide +kernel
theorem dL_law_988 : decode cL_law 988 = .ok (.iconst 2, 1) := by decide +kernel
theorem dL_law_989 : decode cL_law 989 = .ok (.iadd, 1) := by decide +kernel
theorem dL_law_990 : decode cL_law 990 = .ok (.iaload, 1) := by decide +kernel
theorem dL_law_991 : decode cL_law 991 = .ok (.invokevirtual 129, 3) := by decide +kernel
theorem dL_law_994 : decode cL_law 994 = .ok (.aload_n 2, 1) := by decide +kernel
theorem dL_law_995 : decode cL_law 995 = .ok (.aload_n 0, 1) := by decide +kernel
theorem dL_law_996 : decode cL_law 996 = .ok (.iload_n 3, 1) := by decide +kernel
theorem dL_law_997 : decode cL_law 997 = .ok (.iconst 1, 1) := by decide +kernel
theorem dL_law_998 : decode cL_law 998 = .ok (.iadd, 1) := by decide +kernel
theorem dL_law_999 : decode cL_law 999 = .ok (.iaload, 1) := by decide +kernel
theorem dL_law_1000 : decode cL_law 1000 = .ok (.aload_n 0, 1) := by decide +kernel
theorem dL_law_1001 : decode cL_law 1001 = .ok (.iload_n 3, 1) := by decide +kernel
theorem dL_law_1002 : decode cL_law 1002 = .ok (.iconst 2, 1) := by decide +kernel
theorem dL_law_1003 : decode cL_law 1003 = .ok (.iadd, 1) := by decide +kernel
theorem dL_law_1004 : decode cL_law 1004 = .ok (.iaload, 1) := by decide +kernel
theorem dL_law_1005 : decode cL_law 1005 = .ok (.invokevirtual 132, 3) := by decide +kernel
theorem dL_law_1008 : decode cL_law 1008 = .ok (.if_icmp .eq 64, 3) := by decide +kernel
theorem dL_law_1011 : decode cL_law 1011 = .ok (.iconst 0, 1) := by decide +kernel
theorem dL_law_1012 : decode cL_law 1012 = .ok (.ireturn, 1) := by decide +kernel
theorem dL_law_1013 : decode cL_law 1013 = .ok (.aload_n 1, 1) := by decide +kernel
theorem dL_law_1014 : decode cL_law 1014 = .ok (.invokevirtual 133, 3) := by decide +kernel
theorem dL_law_1017 : decode cL_law 1017 = .ok (.aload_n 2, 1) := by decide +kernel
theorem dL_law_1018 : decode cL_law 1018 = .ok (.invokevirtual 136, 3) := by decide +kernel
theorem dL_law_1021 : decode cL_law 1021 = .ok (.if_icmp .eq 51, 3) := by decide +kernel
theorem dL_law_1024 : decode cL_law 1024 = .ok (.iconst 0, 1) := by decide +kernel
theorem dL_law_1025 : decode cL_law 1025 = .ok (.ireturn, 1) := by decide +kernel
theorem dL_law_1026 : decode cL_law 1026 = .ok (.aload_n 1, 1) := by decide +kernel
theorem dL_law_1027 : decode cL_law 1027 = .ok (.aload_n 0, 1) := by decide +kernel
theorem dL_law_1028 : decode cL_law 1028 = .ok (.iload_n 3, 1) := by decide +kernel
theorem dL_law_1029 : decode cL_law 1029 = .ok (.iconst 1, 1) := by decide +kernel
theorem dL_law_1030 : decode cL_law 1030 = .ok (.iadd, 1) := by decide +kernel
theorem dL_law_1031 : decode cL_law 1031 = .ok (.iaload, 1) := by decide +kernel
theorem dL_law_1032 : decode cL_law 1032 = .ok (.invokevirtual 137, 3) := by decide +kernel
theorem dL_law_1035 : decode cL_law 1035 = .ok (.aload_n 2, 1) := by decide +kernel
theorem dL_law_1036 : decode cL_law 1036 = .ok (.aload_n 0, 1) := by decide +kernel
theorem dL_law_1037 : decode cL_law 1037 = .ok (.iload_n 3, 1) := by decide +kernel
theorem dL_law_1038 : decode cL_law 1038 = .ok (.iconst 1, 1) := by decide +kernel
theorem dL_law_1039 : decode cL_law 1039 = .ok (.iadd, 1) := by decide +kernel
theorem dL_law_1040 : decode cL_law 1040 = .ok (.iaload, 1) := by decide +kernel
theorem dL_law_1041 : decode cL_law 1041 = .ok (.invokevirtual 140, 3) := by decide +kernel
theorem dL_law_1044 : decode cL_law 1044 = .ok (.if_icmp .eq 28, 3) := by decide +kernel
theorem dL_law_1047 : decode cL_law 1047 = .ok (.iconst 0, 1) := by decide +kernel
theorem dL_law_1048 : decode cL_law 1048 = .ok (.ireturn, 1) := by decide +kernel
theorem dL_law_1049 : decode cL_law 1049 = .ok (.aload_n 1, 1) := by decide +kernel
theorem dL_law_1050 : decode cL_law 1050 = .ok (.aload_n 0, 1) := by decide +kernel
theorem dL_law_1051 : decode cL_law 1051 = .ok (.iload_n 3, 1) := by decide +kernel
theorem dL_law_1052 : decode cL_law 1052 = .ok (.iconst 1, 1) := by decide +kernel
theorem dL_law_1053 : decode cL_law 1053 = .ok (.iadd, 1) := by decide +kernel
theorem dL_law_1054 : decode cL_law 1054 = .ok (.iaload, 1) := by decide +kernel
theorem dL_law_1055 : decode cL_law 1055 = .ok (.invokevirtual 141, 3) := by decide +kernel
theorem dL_law_1058 : decode cL_law 1058 = .ok (.aload_n 2, 1) := by decide +kernel
theorem dL_law_1059 : decode cL_law 1059 = .ok (.aload_n 0, 1) := by decide +kernel
theorem dL_law_1060 : decode cL_law 1060 = .ok (.iload_n 3, 1) := by decide +kernel
theorem dL_law_1061 : decode cL_law 1061 = .ok (.iconst 1, 1) := by decide +kernel
theorem dL_law_1062 : decode cL_law 1062 = .ok (.iadd, 1) := by decide +kernel
theorem dL_law_1063 : decode cL_law 1063 = .ok (.iaload, 1) := by decide +kernel
theorem dL_law_1064 : decode cL_law 1064 = .ok (.invokevirtual 144, 3) := by decide +kernel
theorem dL_law_1067 : decode cL_law 1067 = .ok (.if_icmp .eq 5, 3) := by decide +kernel
theorem dL_law_1070 : decode cL_law 1070 = .ok (.iconst 0, 1) := by decide +kernel
theorem dL_law_1071 : decode cL_law 1071 = .ok (.ireturn, 1) := by decide +kernel
theorem dL_law_1072 : decode cL_law 1072 = .ok (.iinc 3 4, 3) := by decide +kernel
theorem dL_law_1075 : decode cL_law 1075 = .ok (.goto (-1057), 3) := by decide +kernel
theorem dL_law_1078 : decode cL_law 1078 = .ok (.iconst 1, 1) := by decide +kernel
theorem dL_law_1079 : decode cL_law 1079 = .ok (.ireturn, 1) := by decide +kernel
end
section
/-! The frame of all walks: one word list, one contract form, whole worlds. -/
section
def TB : List Cond := lw_tbl.filter goodWord
theorem tb_of {w : Cond} (h : w ∈ lw_tbl) (g : goodWord w = true) : w ∈ TB := List.mem_filter.mpr ⟨h, g⟩
theorem tb_good {w : Cond} (h : w ∈ TB) : goodWord w = true := (List.mem_filter.mp h).2
theorem tb_tbl {w : Cond} (h : w ∈ TB) : w ∈ lw_tbl := (List.mem_filter.mp h).1
theorem gd_tb {c0 k : Cond} (hk : k ∈ TB) : GoodIn (c0 :: TB) (k :: TB) := fun w hw => by
  have h1 : w ∈ TB := by
    rcases List.mem_cons.mp hw with h | h
    · rw [h]; exact hk
    · exact h
  exact ⟨List.mem_cons_of_mem _ h1, good_of_word (tb_good h1)⟩
theorem gd_lw {k : Cond} (hk : k ∈ TB) : GoodIn lw_tbl (k :: TB) := fun w hw => by
  have h1 : w ∈ TB := by
    rcases List.mem_cons.mp hw with h | h
    · rw [h]; exact hk
    · exact h
  exact ⟨tb_tbl h1, good_of_word (tb_good h1)⟩
abbrev GP : Type := va_G × ClassId × ClassId × ClassId × (Nat → Nat)
abbrev St : Type := (Nat → Int32) × (Nat → Nat → Int32)
def s1 (σ : St) (k : Nat) (v : Int32) : St := (upd σ.1 k v, σ.2)
def sA (σ : St) (a j : Nat) (v : Int32) : St := (σ.1, fun b => if b = a then upd (σ.2 a) j v else σ.2 b)
def tyG (G : GP) : List (ClassId × FieldType) := [(G.2.1, .int), (G.2.2.1, .boolean), (G.2.2.2.1, .object "RadioRoom$RadioSet")]
def gK (G : GP) (U : State) : Prop := va_K G.1 vwCl (tyG G) U
def st0 : Nat → Int32 := fun j => if j = 0 then 20 else if j = 1 then 0 else if j = 2 then 1 else 0
def st1 : Nat → Int32 := fun j => if j = 0 then 900 else if j = 1 then 1 else if j = 2 then 5 else 50
def st2 : Nat → Int32 := fun j => if j < 2 then 0 else if j < 5 then 1 else 20
def st3 : Nat → Int32 := fun j => if j < 2 then 99 else if j < 5 then 9999 else 900
def gZs (G : GP) (A : Nat → Prop) (U : State) (H : Heap) : Prop :=
  (va_Z RX6 "SETTING_LEAST" "[I" (.ref (G.2.2.2.2 0)) A U H ∧ va_T .int (G.2.2.2.2 0) 4 (fun j => .int (st0 j)) A U H) ∧
  (va_Z RX6 "SETTING_MOST" "[I" (.ref (G.2.2.2.2 1)) A U H ∧ va_T .int (G.2.2.2.2 1) 4 (fun j => .int (st1 j)) A U H) ∧
  (va_Z RX6 "PART_LEAST" "[I" (.ref (G.2.2.2.2 2)) A U H ∧ va_T .int (G.2.2.2.2 2) 6 (fun j => .int (st2 j)) A U H) ∧
  (va_Z RX6 "PART_MOST" "[I" (.ref (G.2.2.2.2 3)) A U H ∧ va_T .int (G.2.2.2.2 3) 6 (fun j => .int (st3 j)) A U H)
def gNf (U : State) : Prop :=
  va_Nw (.fieldLinkNest RX1 36 RX6 "SETTING_LEAST" "[I" RX6) U ∧ va_Nw (.fieldLinkNest RX1 39 RX6 "SETTING_MOST" "[I" RX6) U ∧
  va_Nw (.fieldLinkNest RX5 54 RX6 "PART_LEAST" "[I" RX6) U ∧ va_Nw (.fieldLinkNest RX5 57 RX6 "PART_MOST" "[I" RX6) U ∧
  va_Nw (.fieldLinkNest RX3 33 RX6 "PART_LEAST" "[I" RX6) U ∧ va_Nw (.fieldLinkNest RX3 36 RX6 "PART_MOST" "[I" RX6) U
def gNm (U : State) : Prop :=
  va_Nw (.methodLinkNest RX6 11 yX1_init RX6) U ∧ va_Nw (.methodLinkNest RX1 23 yX4_init RX6) U ∧
  va_Nw (.methodLinkNest RX1 32 yX6_within RX6) U ∧ va_Nw (.methodLinkNest RX4 31 yX6_within RX6) U ∧
  va_Nw (.methodLinkNest RX5 50 yX6_within RX6) U ∧ va_Nw (.methodLinkNest RX5 87 yX6_isPlace RX6) U ∧
  va_Nw (.methodLinkNest RX0 52 yX6_within RX6) U ∧ va_Nw (.methodLinkNest RX2 34 yX6_within RX6) U
def gZ (G : GP) (A : Nat → Prop) (U : State) (H : Heap) : Prop := gZs G A U H ∧ gNf U ∧ gNm U
theorem gNf.warm {s U : State} (hW : s.WarmedH U.vm) (h : gNf s) : gNf U :=
  ⟨h.1.warmF hW, h.2.1.warmF hW, h.2.2.1.warmF hW, h.2.2.2.1.warmF hW, h.2.2.2.2.1.warmF hW, h.2.2.2.2.2.warmF hW⟩
theorem gNm.warm {s U : State} (hW : s.WarmedH U.vm) (h : gNm s) : gNm U :=
  ⟨h.1.warmM hW, h.2.1.warmM hW, h.2.2.1.warmM hW, h.2.2.2.1.warmM hW, h.2.2.2.2.1.warmM hW, h.2.2.2.2.2.1.warmM hW, h.2.2.2.2.2.2.1.warmM hW, h.2.2.2.2.2.2.2.warmM hW⟩
theorem gNf.same {s U : State} (e : s.vm = U.vm) (h : gNf s) : gNf U :=
  ⟨h.1.same rfl e, h.2.1.same rfl e, h.2.2.1.same rfl e, h.2.2.2.1.same rfl e, h.2.2.2.2.1.same rfl e, h.2.2.2.2.2.same rfl e⟩
theorem gNm.same {s U : State} (e : s.vm = U.vm) (h : gNm s) : gNm U :=
  ⟨h.1.same rfl e, h.2.1.same rfl e, h.2.2.1.same rfl e, h.2.2.2.1.same rfl e, h.2.2.2.2.1.same rfl e, h.2.2.2.2.2.1.same rfl e, h.2.2.2.2.2.2.1.same rfl e, h.2.2.2.2.2.2.2.same rfl e⟩
theorem gZs.by {G : GP} {A B : Nat → Prop} {s U : State} {H H1 : Heap} (hvm : s.vm.Alike U.vm) (hq : ∀ a : Nat, a < H.size → ¬ A a → H1[a]? = H[a]?) (hAB : ∀ q, B q → A q) (h : gZs G A s H) : gZs G B U H1 :=
  ⟨⟨((h.1.1.moved hvm).kept hq).narrow hAB, ((h.1.2.moved hvm).kept hq).narrow hAB⟩, ⟨((h.2.1.1.moved hvm).kept hq).narrow hAB, ((h.2.1.2.moved hvm).kept hq).narrow hAB⟩,
   ⟨((h.2.2.1.1.moved hvm).kept hq).narrow hAB, ((h.2.2.1.2.moved hvm).kept hq).narrow hAB⟩, ⟨((h.2.2.2.1.moved hvm).kept hq).narrow hAB, ((h.2.2.2.2.moved hvm).kept hq).narrow hAB⟩⟩
theorem gZ.call {G : GP} {A B : Nat → Prop} {s U : State} {H : Heap} {locs : List Loc} (h : gZ G A s s.heap) (hS : va_S A s.heap H locs) (hAB : ∀ q, B q → A q) (hU : U.heap = H) (hW : s.WarmedH U.vm) : gZ G B U U.heap :=
  ⟨h.1.by hW.alike (fun a h1 h2 => by rw [hU]; exact hS.2.1 a h1 h2) hAB, h.2.1.warm hW, h.2.2.warm hW⟩
def gPre (G : GP) (sz : Nat) (w : va_W) (U : State) : Prop := U.heap.size = sz ∧ va_P G.1 vwCl w U.heap ∧ gK G U ∧ va_D (fun _ => True) w ∧ gZ G (va_A w sz) U U.heap
theorem gPre.blind {av : List Value} {G : GP} {sz : Nat} {w : va_W} : FrameBlind (va_Pc av (gPre G sz w)) := fun a U g mk q => by
  obtain ⟨q0, q1, qP, qK, qD, qZ⟩ := q
  exact ⟨q0, q1, qP, va_K.moved (u := U) (U := U.calling g mk a) (Vm.Alike.refl U.vm) qK, qD, gZs.by (Vm.Alike.refl U.vm) (fun _ _ _ => rfl) (fun _ h => h) qZ.1, qZ.2.1.same rfl, qZ.2.2.same rfl⟩
def gB (G : GP) (A : Nat → Prop) (w : va_W) (t : State) : Prop := va_P G.1 vwCl w t.heap ∧ va_D A w
theorem gB_mk {G : GP} {A : Nat → Prop} {w : va_W} {t : State} {H : Heap} (hP : va_P G.1 vwCl w H) (hD : va_D A w) (ht : t.heap = H) : gB G A w t := by
  unfold gB
  rw [ht]
  exact ⟨hP, hD⟩
abbrev rmD (d : Nat) : Room := { frames := d, cells := 0, slots := 0, locals := 60 * d }
def CI (G : GP) (l : Launch) (y : MethodName) (cc : ByteArray) (nL : Nat) (ret : Option FieldType) (d : Nat) (av : List Value) (w w' : va_W) (r : Int32) : Prop :=
  ∀ sz, Met l y (Cond.code y cc nL ret :: TB) (rmD d) (va_Pc av (gPre G sz w)) (va_Qi (fun (r' : Int32) (_ : Unit) => r' = r) (fun _ t => gB G (va_A w sz) w' t) (va_A w sz)) 0 0 (va_A w sz)
def CL (G : GP) (l : Launch) (y : MethodName) (cc : ByteArray) (nL : Nat) (ret : Option FieldType) (d : Nat) (av : List Value) (w w' : va_W) (r : Int64) : Prop :=
  ∀ sz, Met l y (Cond.code y cc nL ret :: TB) (rmD d) (va_Pc av (gPre G sz w)) (va_Ql (fun (r' : Int64) (_ : Unit) => r' = r) (fun _ t => gB G (va_A w sz) w' t) (va_A w sz)) 0 0 (va_A w sz)
def CQ (G : GP) (l : Launch) (y : MethodName) (cc : ByteArray) (nL : Nat) (ret : Option FieldType) (d : Nat) (av : List Value) (w w' : va_W) (r : Option Nat) : Prop :=
  ∀ sz, Met l y (Cond.code y cc nL ret :: TB) (rmD d) (va_Pc av (gPre G sz w)) (va_Qq (fun (r' : Option Nat) (_ : Unit) => r' = r) (fun _ t => gB G (va_A w sz) w' t) (va_A w sz)) 0 0 (va_A w sz)
def CV (G : GP) (l : Launch) (y : MethodName) (cc : ByteArray) (nL : Nat) (ret : Option FieldType) (d : Nat) (av : List Value) (w w' : va_W) : Prop :=
  ∀ sz, Met l y (Cond.code y cc nL ret :: TB) (rmD d) (va_Pc av (gPre G sz w)) (va_Qv (fun (_ : Unit) => True) (fun _ t => gB G (va_A w sz) w' t) (va_A w sz)) 0 0 (va_A w sz)
abbrev QI (G : GP) (below : List Frame) (args : Array Value) (s : State) (A : Nat → Prop) (w' : va_W) (r : Int32) : State → Prop := MQ below (va_Qi (fun (r' : Int32) (_ : Unit) => r' = r) (fun _ t => gB G A w' t) A) args s 0 0 A
abbrev QL (G : GP) (below : List Frame) (args : Array Value) (s : State) (A : Nat → Prop) (w' : va_W) (r : Int64) : State → Prop := MQ below (va_Ql (fun (r' : Int64) (_ : Unit) => r' = r) (fun _ t => gB G A w' t) A) args s 0 0 A
abbrev QQ (G : GP) (below : List Frame) (args : Array Value) (s : State) (A : Nat → Prop) (w' : va_W) (r : Option Nat) : State → Prop := MQ below (va_Qq (fun (r' : Option Nat) (_ : Unit) => r' = r) (fun _ t => gB G A w' t) A) args s 0 0 A
abbrev QV (G : GP) (below : List Frame) (args : Array Value) (s : State) (A : Nat → Prop) (w' : va_W) : State → Prop := MQ below (va_Qv (fun (_ : Unit) => True) (fun _ t => gB G A w' t) A) args s 0 0 A
/-- what holds all through a walk -/
def Cx (G : GP) (p : Program) (s : State) (m : MethodId) (args : Array Value) (meth : Method) (c : Code) (cc : ByteArray) (nL : Nat) (ret : Option FieldType) (k : Cond) (own : String) (A : Nat → Prop) : Prop :=
  p.tables.exec = Jvm.exec ∧ c.code = cc ∧ c.maxLocals = nL ∧ s.vm.findClass own = some m.cls ∧ (∀ w ∈ k :: TB, w.before args s = true) ∧ gK G s ∧ gZ G A s s.heap ∧ (∀ q : Nat, s.heap.size ≤ q → A q) ∧ meth.locks = false ∧ meth.sig.returnType = ret
variable {G : GP} {p : Program} {l : Launch} {e : Env} {R : Room} {s : State} {m : MethodId} {args : Array Value} {below : List Frame} {meth : Method} {c : Code} {H : Heap} {locs : List Loc} {cells slots : Nat} {Q : State → Prop} {cc : ByteArray} {nL : Nat} {ret : Option FieldType} {k : Cond} {own : String} {A : Nat → Prop} {pc : Nat} {ls : Array Slot} {rest : List Value} {w w' : va_W} {y : MethodName} {d : Nat} {av : List Value}
theorem enterI {r : Int32} (hy : plainName y.cls = true) (ho : y.cls = own) (hav : (lg_sl av).length ≤ nL)
    (body : ∀ p e s m args below meth c A, Cx G p s m args meth c cc nL ret (Cond.code y cc nL ret) own A → va_P G.1 vwCl w s.heap → va_D A w → va_S A s.heap s.heap [] → ∀ ls, lv_has ls nL (lv_args 0 av) → W p l e (rmD d) s m args below meth c s.heap [] 0 0 (QI G below args s A w' r) (F0 m 0 ls [])) : CI G l y cc nL ret d av w w' r := by
  intro sz
  refine Met.ofW (cc := cc) (maxL := nL) (ret := ret) hy rfl ?_
  intro p e s m args below meth c s₁ B hml hv
  obtain ⟨rfl, hsz, hP, hK, hD0, hZ⟩ := hv
  subst hsz
  rw [lg_entry_eq]
  exact body p e s m _ below meth c _ ⟨B.exec, B.bytes, hml, by rw [← ho]; exact findClass_of_methodNamed B.named, atoms_spec (ws := Cond.code y cc nL ret :: TB) B.pre, hK, hZ, fun q h => Or.inr h, B.notSynchronized, B.returns⟩ hP hD0.self va_S.rf _ (lv_entry av hav)
theorem enterL {r : Int64} (hy : plainName y.cls = true) (ho : y.cls = own) (hav : (lg_sl av).length ≤ nL)
    (body : ∀ p e s m args below meth c A, Cx G p s m args meth c cc nL ret (Cond.code y cc nL ret) own A → va_P G.1 vwCl w s.heap → va_D A w → va_S A s.heap s.heap [] → ∀ ls, lv_has ls nL (lv_args 0 av) → W p l e (rmD d) s m args below meth c s.heap [] 0 0 (QL G below args s A w' r) (F0 m 0 ls [])) : CL G l y cc nL ret d av w w' r := by
  intro sz
  refine Met.ofW (cc := cc) (maxL := nL) (ret := ret) hy rfl ?_
  intro p e s m args below meth c s₁ B hml hv
  obtain ⟨rfl, hsz, hP, hK, hD0, hZ⟩ := hv
  subst hsz
  rw [lg_entry_eq]
  exact body p e s m _ below meth c _ ⟨B.exec, B.bytes, hml, by rw [← ho]; exact findClass_of_methodNamed B.named, atoms_spec (ws := Cond.code y cc nL ret :: TB) B.pre, hK, hZ, fun q h => Or.inr h, B.notSynchronized, B.returns⟩ hP hD0.self va_S.rf _ (lv_entry av hav)
theorem enterQ {r : Option Nat} (hy : plainName y.cls = true) (ho : y.cls = own) (hav : (lg_sl av).length ≤ nL)
    (body : ∀ p e s m args below meth c A, Cx G p s m args meth c cc nL ret (Cond.code y cc nL ret) own A → va_P G.1 vwCl w s.heap → va_D A w → va_S A s.heap s.heap [] → ∀ ls, lv_has ls nL (lv_args 0 av) → W p l e (rmD d) s m args below meth c s.heap [] 0 0 (QQ G below args s A w' r) (F0 m 0 ls [])) : CQ G l y cc nL ret d av w w' r := by
  intro sz
  refine Met.ofW (cc := cc) (maxL := nL) (ret := ret) hy rfl ?_
  intro p e s m args below meth c s₁ B hml hv
  obtain ⟨rfl, hsz, hP, hK, hD0, hZ⟩ := hv
  subst hsz
  rw [lg_entry_eq]
  exact body p e s m _ below meth c _ ⟨B.exec, B.bytes, hml, by rw [← ho]; exact findClass_of_methodNamed B.named, atoms_spec (ws := Cond.code y cc nL ret :: TB) B.pre, hK, hZ, fun q h => Or.inr h, B.notSynchronized, B.returns⟩ hP hD0.self va_S.rf _ (lv_entry av hav)
theorem enterV (hy : plainName y.cls = true) (ho : y.cls = own) (hav : (lg_sl av).length ≤ nL)
    (body : ∀ p e s m args below meth c A, Cx G p s m args meth c cc nL ret (Cond.code y cc nL ret) own A → va_P G.1 vwCl w s.heap → va_D A w → va_S A s.heap s.heap [] → ∀ ls, lv_has ls nL (lv_args 0 av) → W p l e (rmD d) s m args below meth c s.heap [] 0 0 (QV G below args s A w') (F0 m 0 ls [])) : CV G l y cc nL ret d av w w' := by
  intro sz
  refine Met.ofW (cc := cc) (maxL := nL) (ret := ret) hy rfl ?_
  intro p e s m args below meth c s₁ B hml hv
  obtain ⟨rfl, hsz, hP, hK, hD0, hZ⟩ := hv
  subst hsz
  rw [lg_entry_eq]
  exact body p e s m _ below meth c _ ⟨B.exec, B.bytes, hml, by rw [← ho]; exact findClass_of_methodNamed B.named, atoms_spec (ws := Cond.code y cc nL ret :: TB) B.pre, hK, hZ, fun q h => Or.inr h, B.notSynchronized, B.returns⟩ hP hD0.self va_S.rf _ (lv_entry av hav)
/-! ends -/
theorem retI {r : Int32} (C : Cx G p s m args meth c cc nL (some .int) k own A) (hP : va_P G.1 vwCl w H) (hD : va_D A w) (hS : va_S A s.heap H locs) (hdg : decode cc pc = .ok (.ireturn, 1)) : W p l e R s m args below meth c H locs 0 0 (QI G below args s A w r) (F0 m pc ls [.int r]) :=
  W.iret C.1 C.2.1 C.2.2.2.2.2.2.2.2.2 (fun t ht _ => ⟨⟨r, (), rfl, rfl, gB_mk hP hD ht⟩, hS.F ht⟩) hS.2.2 hdg C.2.2.2.2.2.2.2.2.1
theorem retZ {r : Int32} (C : Cx G p s m args meth c cc nL (some .boolean) k own A) (hP : va_P G.1 vwCl w H) (hD : va_D A w) (hS : va_S A s.heap H locs) (hn : r = 0 ∨ r = 1) (hdg : decode cc pc = .ok (.ireturn, 1)) : W p l e R s m args below meth c H locs 0 0 (QI G below args s A w r) (F0 m pc ls [.int r]) :=
  W.zret C.1 C.2.1 C.2.2.2.2.2.2.2.2.2 (by rcases hn with h | h <;> subst h <;> decide) (fun t ht _ => ⟨⟨r, (), rfl, rfl, gB_mk hP hD ht⟩, hS.F ht⟩) hS.2.2 hdg C.2.2.2.2.2.2.2.2.1
theorem retL {r : Int64} (C : Cx G p s m args meth c cc nL (some .long) k own A) (hP : va_P G.1 vwCl w H) (hD : va_D A w) (hS : va_S A s.heap H locs) (hdg : decode cc pc = .ok (.lreturn, 1)) : W p l e R s m args below meth c H locs 0 0 (QL G below args s A w r) (F0 m pc ls [.long r]) :=
  W.lret C.1 C.2.1 C.2.2.2.2.2.2.2.2.2 (fun t ht _ => ⟨⟨r, (), rfl, rfl, gB_mk hP hD ht⟩, hS.F ht⟩) hS.2.2 hdg C.2.2.2.2.2.2.2.2.1
theorem retV (C : Cx G p s m args meth c cc nL none k own A) (hP : va_P G.1 vwCl w H) (hD : va_D A w) (hS : va_S A s.heap H locs) (hdg : decode cc pc = .ok (.return_, 1)) : W p l e R s m args below meth c H locs 0 0 (QV G below args s A w) (F0 m pc ls []) :=
  W.vret C.1 C.2.1 C.2.2.2.2.2.2.2.2.2 (fun t ht _ => ⟨⟨(), rfl, trivial, gB_mk hP hD ht⟩, hS.F ht⟩) hS.2.2 hdg C.2.2.2.2.2.2.2.2.1
theorem retQ {r : Option Nat} {rt : FieldType} (C : Cx G p s m args meth c cc nL (some rt) k own A) (hrt : (∃ n, rt = .object n) ∨ ∃ t, rt = .array t) (hP : va_P G.1 vwCl w H) (hD : va_D A w) (hS : va_S A s.heap H locs) (hdg : decode cc pc = .ok (.areturn, 1)) : W p l e R s m args below meth c H locs 0 0 (QQ G below args s A w r) (F0 m pc ls [va_rf r]) :=
  W.aret C.1 C.2.1 C.2.2.2.2.2.2.2.2.2 hrt (by cases r <;> simp [va_rf]) (fun t ht _ => ⟨⟨r, (), rfl, rfl, gB_mk hP hD ht⟩, hS.F ht⟩) hS.2.2 hdg C.2.2.2.2.2.2.2.2.1
/-! calls: what must be in the tables for a call -/
def lkV (own : String) (idx : Nat) (C : String) (y : MethodName) (bytes : ByteArray) (maxL : Nat) (ret : Option FieldType) (n : Nat) : Prop :=
  Cond.code y bytes maxL ret ∈ TB ∧ Cond.methodLink own idx y ∈ TB ∧ Cond.instanceMethod y ∈ TB ∧ Cond.selects C y y ∈ TB ∧ Cond.initialized y.cls ∈ TB ∧ (y.cls ≠ "java/lang/invoke/MethodHandle" ∧ y.cls ≠ "java/lang/invoke/VarHandle" ∧ (parseMethodDescriptor y.desc).map (fun d => d.parameters.length) = some n)
def lkS (own : String) (idx : Nat) (y : MethodName) (bytes : ByteArray) (maxL : Nat) (ret : Option FieldType) (n : Nat) : Prop :=
  Cond.code y bytes maxL ret ∈ TB ∧ Cond.methodLink own idx y ∈ TB ∧ Cond.static y ∈ TB ∧ Cond.initialized y.cls ∈ TB ∧ (y.cls ≠ "java/lang/invoke/MethodHandle" ∧ y.cls ≠ "java/lang/invoke/VarHandle" ∧ (parseMethodDescriptor y.desc).map (fun d => d.parameters.length) = some n)
def lkN (y : MethodName) (bytes : ByteArray) (maxL : Nat) (ret : Option FieldType) (n : Nat) : Prop :=
  Cond.code y bytes maxL ret ∈ TB ∧ Cond.static y ∈ TB ∧ Cond.initialized y.cls ∈ TB ∧ (y.cls ≠ "java/lang/invoke/MethodHandle" ∧ y.cls ≠ "java/lang/invoke/VarHandle" ∧ (parseMethodDescriptor y.desc).map (fun d => d.parameters.length) = some n)
variable {idx : Nat} {C0 : String} {bytes : ByteArray} {mL : Nat} {rt : Option FieldType} {n dd : Nat} {As : List Value} {b : Nat} {st : List Value}
theorem fr_sub (hD : va_D A w) (hS : va_S A s.heap H locs) (hA : ∀ q : Nat, s.heap.size ≤ q → A q) : ∀ q, va_A w H.size q → A q := fun q h => by
  rcases h with ⟨k, e, h⟩ | h
  · exact hD.2 k _ h
  · exact hA q (Nat.le_trans hS.1 h)
theorem pre_of (C : Cx G p s m args meth c cc nL ret k own A) (hP : va_P G.1 vwCl w H) (hD : va_D A w) (hS : va_S A s.heap H locs) {av : List Value} : ∀ U : State, U.heap = H → s.WarmedH U.vm → va_Pc av (gPre G H.size w) av.toArray U := fun U hU hW =>
  ⟨rfl, by rw [hU], by rw [hU]; exact hP, va_K.moved hW.alike C.2.2.2.2.2.1, hD.weaken (fun _ _ _ _ => trivial), C.2.2.2.2.2.2.1.call hS (fr_sub hD hS C.2.2.2.2.2.2.2.1) hU hW⟩
theorem room_ok {mL dd d : Nat} (h : dd < d) (hm : mL ≤ 41) : (rmD dd).frames + 1 ≤ (rmD d).frames ∧ 8 + (mL + 11) + (rmD dd).locals ≤ (rmD d).locals := ⟨h, by show 8 + (mL + 11) + 60 * dd ≤ 60 * d; omega⟩
theorem runV {Qc : Array Value → State → Outcome → State → Prop} {free : Addr → Prop} (C : Cx G p s m args meth c cc nL ret k own A) (lk : lkV own idx C0 y bytes mL rt n) (hM : Met l y (Cond.code y bytes mL rt :: TB) (rmD dd) (va_Pc (.ref b :: As) (gPre G H.size w)) Qc 0 0 free) (hP : va_P G.1 vwCl w H) (hD : va_D A w) (hS : va_S A s.heap H locs) (hr : ∃ cell : Cell, H[b]? = some cell ∧ cell.vm.isStatics = false ∧ s.vm.findClass C0 = some cell.cls) (hl : ls.size = nL) (hst : st = As.reverse ++ .ref b :: rest) (hn : As.length = n) (hdep : dd < d) (hm : mL ≤ 41) (hcat : (rest.map fun v => v.category).sum ≤ 8) (hdg : decode cc pc = .ok (.invokevirtual idx, 3)) :
    va_Run p l e (rmD d) s m args below meth c H locs 0 0 0 0 (F0 m pc ls st) rest (Qc (Value.ref b :: As).toArray) free :=
  va_runV (As := As) (rest := rest) (C := C0) ⟨C.1, C.2.1, C.2.2.1, C.2.2.2.1, C.2.2.2.2.1⟩ hM
    ⟨callB_of n C.2.2.2.2.1 (gd_tb lk.1) rfl rfl rfl (C.2.2.2.2.1 _ (List.mem_cons_of_mem _ lk.2.2.2.2.1)) (C.2.2.2.2.1 _ (List.mem_cons_of_mem _ lk.2.1)) lk.2.2.2.2.2 (room_ok hdep hm), C.2.2.2.2.1 _ (List.mem_cons_of_mem _ lk.2.2.1), C.2.2.2.2.1 _ (List.mem_cons_of_mem _ lk.2.2.2.1)⟩
    ⟨gPre.blind, hr, pre_of C hP hD hS⟩ rfl hn hl hst (lv_room hcat) hdg ⟨Nat.zero_le _, Nat.zero_le _⟩
theorem runS {Qc : Array Value → State → Outcome → State → Prop} {free : Addr → Prop} (C : Cx G p s m args meth c cc nL ret k own A) (lk : lkS own idx y bytes mL rt n) (hM : Met l y (Cond.code y bytes mL rt :: TB) (rmD dd) (va_Pc As (gPre G H.size w)) Qc 0 0 free) (hP : va_P G.1 vwCl w H) (hD : va_D A w) (hS : va_S A s.heap H locs) (hl : ls.size = nL) (hst : st = As.reverse ++ rest) (hn : As.length = n) (hdep : dd < d) (hm : mL ≤ 41) (hcat : (rest.map fun v => v.category).sum ≤ 8) (hdg : decode cc pc = .ok (.invokestatic idx, 3)) :
    va_Run p l e (rmD d) s m args below meth c H locs 0 0 0 0 (F0 m pc ls st) rest (Qc As.toArray) free :=
  va_runS (As := As) (rest := rest) ⟨C.1, C.2.1, C.2.2.1, C.2.2.2.1, C.2.2.2.2.1⟩ hM
    ⟨callB_of n C.2.2.2.2.1 (gd_tb lk.1) rfl rfl rfl (C.2.2.2.2.1 _ (List.mem_cons_of_mem _ lk.2.2.2.1)) (C.2.2.2.2.1 _ (List.mem_cons_of_mem _ lk.2.1)) lk.2.2.2.2 (room_ok hdep hm), C.2.2.2.2.1 _ (List.mem_cons_of_mem _ lk.2.2.1)⟩
    ⟨gPre.blind, pre_of C hP hD hS⟩ rfl hn hl hst (lv_room hcat) hdg ⟨Nat.zero_le _, Nat.zero_le _⟩
theorem runN {Qc : Array Value → State → Outcome → State → Prop} {free : Addr → Prop} {host : String} (C : Cx G p s m args meth c cc nL ret k own A) (lk : lkN y bytes mL rt n) (hnest : va_Nw (.methodLinkNest own idx y host) s) (hM : Met l y (Cond.code y bytes mL rt :: TB) (rmD dd) (va_Pc As (gPre G H.size w)) Qc 0 0 free) (hP : va_P G.1 vwCl w H) (hD : va_D A w) (hS : va_S A s.heap H locs) (hl : ls.size = nL) (hst : st = As.reverse ++ rest) (hn : As.length = n) (hdep : dd < d) (hm : mL ≤ 41) (hcat : (rest.map fun v => v.category).sum ≤ 8) (hdg : decode cc pc = .ok (.invokestatic idx, 3)) :
    va_Run p l e (rmD d) s m args below meth c H locs 0 0 0 0 (F0 m pc ls st) rest (Qc As.toArray) free :=
  va_runSN (As := As) (rest := rest) (Ts := k :: TB) ⟨C.1, C.2.1, C.2.2.1, C.2.2.2.1, C.2.2.2.2.1⟩ hM
    ⟨va_cnB n C.2.2.2.2.1 (gd_tb lk.1) rfl rfl rfl hnest (C.2.2.2.2.1 _ (List.mem_cons_of_mem _ lk.2.2.1)) lk.2.2.2 (room_ok hdep hm), C.2.2.2.2.1 _ (List.mem_cons_of_mem _ lk.2.1), trivial⟩
    ⟨gPre.blind, pre_of C hP hD hS⟩ rfl hn hl hst (lv_room hcat) hdg ⟨Nat.zero_le _, Nat.zero_le _⟩
/-! what goes on behind a call -/
variable {free : Addr → Prop} {av0 : Array Value}
theorem goI {r : Int32} (C : Cx G p s m args meth c cc nL ret k own A) (hD : va_D A w) (hS : va_S A s.heap H locs)
    (hr : va_Run p l e R s m args below meth c H locs 0 0 0 0 (F0 m pc ls st) rest (va_Qi (fun (r' : Int32) (_ : Unit) => r' = r) (fun _ t => gB G (va_A w H.size) w' t) (va_A w H.size) av0) (va_A w H.size))
    (kk : ∀ (H1 : Heap) (locs1 : List Loc), va_P G.1 vwCl w' H1 → va_D A w' → va_S A s.heap H1 locs1 → W p l e R s m args below meth c H1 locs1 0 0 Q (F0 m (pc + 3) ls (.int r :: rest))) : W p l e R s m args below meth c H locs 0 0 Q (F0 m pc ls st) := by
  have hF := fr_sub hD hS C.2.2.2.2.2.2.2.1
  refine va_calli hr hS (fun q _ h => hF q h) hF (fun r' u t H1 locs1 ht _ hw hB _ _ hS1 => ?_)
  subst hw
  obtain ⟨b1, b2⟩ := hB
  rw [ht] at b1
  exact kk H1 locs1 b1 (b2.weaken (fun _ _ _ h => hF _ h)) hS1
theorem goL {r : Int64} (C : Cx G p s m args meth c cc nL ret k own A) (hD : va_D A w) (hS : va_S A s.heap H locs)
    (hr : va_Run p l e R s m args below meth c H locs 0 0 0 0 (F0 m pc ls st) rest (va_Ql (fun (r' : Int64) (_ : Unit) => r' = r) (fun _ t => gB G (va_A w H.size) w' t) (va_A w H.size) av0) (va_A w H.size))
    (kk : ∀ (H1 : Heap) (locs1 : List Loc), va_P G.1 vwCl w' H1 → va_D A w' → va_S A s.heap H1 locs1 → W p l e R s m args below meth c H1 locs1 0 0 Q (F0 m (pc + 3) ls (.long r :: rest))) : W p l e R s m args below meth c H locs 0 0 Q (F0 m pc ls st) := by
  have hF := fr_sub hD hS C.2.2.2.2.2.2.2.1
  refine va_calll hr hS (fun q _ h => hF q h) hF (fun r' u t H1 locs1 ht _ hw hB _ _ hS1 => ?_)
  subst hw
  obtain ⟨b1, b2⟩ := hB
  rw [ht] at b1
  exact kk H1 locs1 b1 (b2.weaken (fun _ _ _ h => hF _ h)) hS1
theorem goQ {r : Option Nat} (C : Cx G p s m args meth c cc nL ret k own A) (hD : va_D A w) (hS : va_S A s.heap H locs)
    (hr : va_Run p l e R s m args below meth c H locs 0 0 0 0 (F0 m pc ls st) rest (va_Qq (fun (r' : Option Nat) (_ : Unit) => r' = r) (fun _ t => gB G (va_A w H.size) w' t) (va_A w H.size) av0) (va_A w H.size))
    (kk : ∀ (H1 : Heap) (locs1 : List Loc), va_P G.1 vwCl w' H1 → va_D A w' → va_S A s.heap H1 locs1 → W p l e R s m args below meth c H1 locs1 0 0 Q (F0 m (pc + 3) ls (va_rf r :: rest))) : W p l e R s m args below meth c H locs 0 0 Q (F0 m pc ls st) := by
  have hF := fr_sub hD hS C.2.2.2.2.2.2.2.1
  refine va_callq hr hS (fun q _ h => hF q h) hF (fun r' u t H1 locs1 ht _ hw hB _ _ hS1 => ?_)
  subst hw
  obtain ⟨b1, b2⟩ := hB
  rw [ht] at b1
  exact kk H1 locs1 b1 (b2.weaken (fun _ _ _ h => hF _ h)) hS1
theorem goV (C : Cx G p s m args meth c cc nL ret k own A) (hD : va_D A w) (hS : va_S A s.heap H locs)
    (hr : va_Run p l e R s m args below meth c H locs 0 0 0 0 (F0 m pc ls st) rest (va_Qv (fun (_ : Unit) => True) (fun _ t => gB G (va_A w H.size) w' t) (va_A w H.size) av0) (va_A w H.size))
    (kk : ∀ (H1 : Heap) (locs1 : List Loc), va_P G.1 vwCl w' H1 → va_D A w' → va_S A s.heap H1 locs1 → W p l e R s m args below meth c H1 locs1 0 0 Q (F0 m (pc + 3) ls rest)) : W p l e R s m args below meth c H locs 0 0 Q (F0 m pc ls st) := by
  have hF := fr_sub hD hS C.2.2.2.2.2.2.2.1
  refine va_callv hr hS (fun q _ h => hF q h) hF (fun u t H1 locs1 ht _ _ hB _ _ hS1 => ?_)
  obtain ⟨b1, b2⟩ := hB
  rw [ht] at b1
  exact kk H1 locs1 b1 (b2.weaken (fun _ _ _ h => hF _ h)) hS1
/-! choices in the pure functions -/
theorem ifp {α : Type} {c : Prop} [Decidable c] {a b x : α} (hc : c) (h : (if c then a else b) = x) : a = x := by rw [if_pos hc] at h; exact h
theorem ifn {α : Type} {c : Prop} [Decidable c] {a b x : α} (hc : ¬ c) (h : (if c then a else b) = x) : b = x := by rw [if_neg hc] at h; exact h
def gi {α : Type} (i : Int32) (n : Nat) (x : Option α) : Option α := if i < 0 ∨ n ≤ i.toNatClampNeg then none else x
theorem gi_some {α : Type} {i : Int32} {n : Nat} {x : Option α} {y : α} (h : gi i n x = some y) : vp_in i n ∧ x = some y := by
  unfold gi at h
  by_cases hc : i < 0 ∨ n ≤ i.toNatClampNeg
  · rw [if_pos hc] at h; cases h
  · rw [if_neg hc] at h; exact ⟨hc, h⟩
def nz {α : Type} (v : Int32) (x : Option α) : Option α := if v = 0 then none else x
theorem nz_some {α : Type} {v : Int32} {x : Option α} {y : α} (h : nz v x = some y) : ¬ v = 0 ∧ x = some y := by
  unfold nz at h
  by_cases hc : v = 0
  · rw [if_pos hc] at h; cases h
  · rw [if_neg hc] at h; exact ⟨hc, h⟩
def nzl {α : Type} (v : Int64) (x : Option α) : Option α := if v = 0 then none else x
theorem nzl_some {α : Type} {v : Int64} {x : Option α} {y : α} (h : nzl v x = some y) : ¬ v = 0 ∧ x = some y := by
  unfold nzl at h
  by_cases hc : v = 0
  · rw [if_pos hc] at h; cases h
  · rw [if_neg hc] at h; exact ⟨hc, h⟩
def bz {α : Type} (v : Int32) (x : Option α) : Option α := if v = 0 ∨ v = 1 then x else none
theorem bz_some {α : Type} {v : Int32} {x : Option α} {y : α} (h : bz v x = some y) : (v = 0 ∨ v = 1) ∧ x = some y := by
  unfold bz at h
  by_cases hc : v = 0 ∨ v = 1
  · rw [if_pos hc] at h; exact ⟨hc, h⟩
  · rw [if_neg hc] at h; cases h
def bd1 {α β : Type} (x : Option α) (g : α → Option β) : Option β := match x with
  | some a => g a
  | none => none
def bd2 {α α2 β : Type} (x : Option (α × α2)) (g : α → α2 → Option β) : Option β := match x with
  | some (a, b) => g a b
  | none => none
def bd3 {α α2 α3 β : Type} (x : Option (α × α2 × α3)) (g : α → α2 → α3 → Option β) : Option β := match x with
  | some (a, b, c) => g a b c
  | none => none
def bd4 {α α2 α3 α4 β : Type} (x : Option (α × α2 × α3 × α4)) (g : α → α2 → α3 → α4 → Option β) : Option β := match x with
  | some (a, b, c, d) => g a b c d
  | none => none
def bd5 {α α2 α3 α4 α5 β : Type} (x : Option (α × α2 × α3 × α4 × α5)) (g : α → α2 → α3 → α4 → α5 → Option β) : Option β := match x with
  | some (a, b, c, d, e) => g a b c d e
  | none => none
theorem bd1_some {α β : Type} {x : Option α} {g : α → Option β} {y : β} (h : bd1 x g = some y) : ∃ a, x = some a ∧ g a = some y := by
  cases x with
  | none => cases h
  | some a => exact ⟨a, rfl, h⟩
theorem bd2_some {α α2 β : Type} {x : Option (α × α2)} {g : α → α2 → Option β} {y : β} (h : bd2 x g = some y) : ∃ a b, x = some (a, b) ∧ g a b = some y := by
  cases x with
  | none => cases h
  | some a => exact ⟨a.1, a.2, rfl, h⟩
theorem bd3_some {α α2 α3 β : Type} {x : Option (α × α2 × α3)} {g : α → α2 → α3 → Option β} {y : β} (h : bd3 x g = some y) : ∃ a b c, x = some (a, b, c) ∧ g a b c = some y := by
  cases x with
  | none => cases h
  | some a => exact ⟨a.1, a.2.1, a.2.2, rfl, h⟩
theorem bd4_some {α α2 α3 α4 β : Type} {x : Option (α × α2 × α3 × α4)} {g : α → α2 → α3 → α4 → Option β} {y : β} (h : bd4 x g = some y) : ∃ a b c d, x = some (a, b, c, d) ∧ g a b c d = some y := by
  cases x with
  | none => cases h
  | some a => exact ⟨a.1, a.2.1, a.2.2.1, a.2.2.2, rfl, h⟩
theorem bd5_some {α α2 α3 α4 α5 β : Type} {x : Option (α × α2 × α3 × α4 × α5)} {g : α → α2 → α3 → α4 → α5 → Option β} {y : β} (h : bd5 x g = some y) : ∃ a b c d e, x = some (a, b, c, d, e) ∧ g a b c d e = some y := by
  cases x with
  | none => cases h
  | some a => exact ⟨a.1, a.2.1, a.2.2.1, a.2.2.2.1, a.2.2.2.2, rfl, h⟩
theorem so1 {α : Type} {a a' : α} (h : some a = some a') : a = a' := Option.some.inj h
theorem so2 {α β : Type} {a a' : α} {b b' : β} (h : some (a, b) = some (a', b')) : a = a' ∧ b = b' := by cases h; exact ⟨rfl, rfl⟩
theorem so3 {α β γ : Type} {a a' : α} {b b' : β} {c c' : γ} (h : some (a, b, c) = some (a', b', c')) : a = a' ∧ b = b' ∧ c = c' := by cases h; exact ⟨rfl, rfl, rfl⟩
theorem so4 {α β γ δ : Type} {a a' : α} {b b' : β} {c c' : γ} {d d' : δ} (h : some (a, b, c, d) = some (a', b', c', d')) : a = a' ∧ b = b' ∧ c = c' ∧ d = d' := by cases h; exact ⟨rfl, rfl, rfl, rfl⟩
theorem so5 {α β γ δ ε : Type} {a a' : α} {b b' : β} {c c' : γ} {d d' : δ} {e e' : ε} (h : some (a, b, c, d, e) = some (a', b', c', d', e')) : a = a' ∧ b = b' ∧ c = c' ∧ d = d' ∧ e = e' := by cases h; exact ⟨rfl, rfl, rfl, rfl, rfl⟩
end
end
section
/-! the two worlds, the model's and the class's, and a row for each field and array of them -/
theorem tbT {w : Cond} (i : Nat) (h : tables_1[i]? = some w) (g : goodWord w = true) : w ∈ TB := tb_of (List.mem_append_right _ (List.mem_of_getElem? h)) g
theorem tbS {w : Cond} (i : Nat) (h : (k2_sels lw_privs)[i]? = some w) (g : goodWord w = true) : w ∈ TB := tb_of (List.mem_append_left _ (List.mem_of_getElem? h)) g

theorem inX6 : ∀ w ∈ u_ws RX6 TX6 4, w ∈ TB := fun w h => tb_of ((by decide +kernel : ∀ w ∈ u_ws RX6 TX6 4, w ∈ lw_tbl) w h) ((by decide +kernel : ∀ w ∈ u_ws RX6 TX6 4, goodWord w = true) w h)
theorem inX1 : ∀ w ∈ u_ws RX1 TX1 5, w ∈ TB := fun w h => tb_of ((by decide +kernel : ∀ w ∈ u_ws RX1 TX1 5, w ∈ lw_tbl) w h) ((by decide +kernel : ∀ w ∈ u_ws RX1 TX1 5, goodWord w = true) w h)
theorem inX4 : ∀ w ∈ u_ws RX4 TX4 6, w ∈ TB := fun w h => tb_of ((by decide +kernel : ∀ w ∈ u_ws RX4 TX4 6, w ∈ lw_tbl) w h) ((by decide +kernel : ∀ w ∈ u_ws RX4 TX4 6, goodWord w = true) w h)
theorem inX5 : ∀ w ∈ u_ws RX5 TX5 10, w ∈ TB := fun w h => tb_of ((by decide +kernel : ∀ w ∈ u_ws RX5 TX5 10, w ∈ lw_tbl) w h) ((by decide +kernel : ∀ w ∈ u_ws RX5 TX5 10, goodWord w = true) w h)
theorem inX0 : ∀ w ∈ u_ws RX0 TX0 6, w ∈ TB := fun w h => tb_of ((by decide +kernel : ∀ w ∈ u_ws RX0 TX0 6, w ∈ lw_tbl) w h) ((by decide +kernel : ∀ w ∈ u_ws RX0 TX0 6, goodWord w = true) w h)
theorem inX2 : ∀ w ∈ u_ws RX2 TX2 7, w ∈ TB := fun w h => tb_of ((by decide +kernel : ∀ w ∈ u_ws RX2 TX2 7, w ∈ lw_tbl) w h) ((by decide +kernel : ∀ w ∈ u_ws RX2 TX2 7, goodWord w = true) w h)
theorem inX3 : ∀ w ∈ u_ws RX3 TX3 4, w ∈ TB := fun w h => tb_of ((by decide +kernel : ∀ w ∈ u_ws RX3 TX3 4, w ∈ lw_tbl) w h) ((by decide +kernel : ∀ w ∈ u_ws RX3 TX3 4, goodWord w = true) w h)
theorem inX7 : ∀ w ∈ u_ws RX7 TX7 31, w ∈ TB := fun w h => tb_of ((by decide +kernel : ∀ w ∈ u_ws RX7 TX7 31, w ∈ lw_tbl) w h) ((by decide +kernel : ∀ w ∈ u_ws RX7 TX7 31, goodWord w = true) w h)
theorem inB {a : List Cond} {k : Cond} (h : ∀ w ∈ a, w ∈ TB) : ∀ w ∈ a, w ∈ k :: TB := fun w hw => List.mem_cons_of_mem _ (h w hw)
def mW (G : GP) (q : Nat → Nat) (σ : St) : va_W := [(q 0, .inr (7, [.ref (q 1), .ref (q 2), .int (σ.1 0), .int (σ.1 1), .int (σ.1 2), .int (σ.1 3), .int (σ.1 4), .int (σ.1 5), .int (σ.1 6), .ref (q 3), .ref (q 4), .int (σ.1 7), .ref (q 5), .ref (q 6), .ref (q 7), .int (σ.1 8), .ref (q 8), .ref (q 9), .int (σ.1 9), .ref (q 10), .ref (q 11), .ref (q 12), .int (σ.1 10), .int (σ.1 11), .int (σ.1 12), .ref (q 13), .ref (q 14), .int (σ.1 13), .int (σ.1 14), .int (σ.1 15), .int (σ.1 16)])), (q 1, .inl (G.2.1, 20, .inl (σ.2 0))), (q 2, .inl (G.2.1, 20, .inl (σ.2 1))), (q 3, .inl (G.2.1, 5, .inl (σ.2 2))), (q 4, .inl (G.2.1, 5, .inl (σ.2 3))), (q 5, .inl (G.2.1, 60, .inl (σ.2 4))), (q 6, .inl (G.2.1, 60, .inl (σ.2 5))), (q 7, .inl (G.2.1, 60, .inl (σ.2 6))), (q 8, .inl (G.2.1, 8, .inl (σ.2 7))), (q 9, .inl (G.2.1, 8, .inl (σ.2 8))), (q 10, .inl (G.2.1, 12, .inl (σ.2 9))), (q 11, .inl (G.2.1, 12, .inl (σ.2 10))), (q 12, .inl (G.2.1, 144, .inl (σ.2 11))), (q 13, .inl (G.2.1, 4096, .inl (σ.2 12))), (q 14, .inl (G.2.2.1, 4096, .inl (σ.2 13)))]
def xC (G : GP) (q : Nat → Nat) (σ : St) (k : Nat) : va_W := [(q (22 + 5 * k), .inr (3, [.ref (q (23 + 5 * k)), .ref (q (24 + 5 * k)), .ref (q (25 + 5 * k)), .ref (q (26 + 5 * k))])), (q (23 + 5 * k), .inl (G.2.1, 6, .inl (σ.2 (15 + 4 * k)))), (q (24 + 5 * k), .inl (G.2.1, 6, .inl (σ.2 (16 + 4 * k)))), (q (25 + 5 * k), .inl (G.2.1, 6, .inl (σ.2 (17 + 4 * k)))), (q (26 + 5 * k), .inl (G.2.1, 6, .inl (σ.2 (18 + 4 * k))))]
def xS (G : GP) (q : Nat → Nat) (σ : St) (n : Nat) : va_W := (List.range n).flatMap (xC G q σ)
def xF (G : GP) (q : Nat → Nat) (σ : St) : va_W := [(q 0, .inr (6, [.ref (q 1), .ref (q 3), .ref (q 4), .ref (q 5)])), (q 1, .inr (1, [.ref (q 6), .ref (q 7), .ref (q 8), .ref (q 2), .int (σ.1 0)])), (q 2, .inr (4, [.ref (q 9), .int (σ.1 1), .int (σ.1 2), .int (σ.1 3), .int (σ.1 4), .int (σ.1 5)])), (q 3, .inr (5, [.ref (q 1), .ref (q 10), .ref (q 11), .int (σ.1 6), .int (σ.1 7), .int (σ.1 8), .ref (q 12), .ref (q 13), .ref (q 14), .int (σ.1 9)])), (q 4, .inr (0, [.ref (q 3), .ref (q 21), .ref (q 15), .ref (q 16), .int (σ.1 10), .int (σ.1 11)])), (q 5, .inr (2, [.ref (q 17), .ref (q 18), .ref (q 19), .ref (q 20), .int (σ.1 12), .int (σ.1 13), .int (σ.1 14)])), (q 6, .inl (G.2.1, 20, .inl (σ.2 0))), (q 7, .inl (G.2.1, 20, .inl (σ.2 1))), (q 8, .inl (G.2.1, 4, .inl (σ.2 2))), (q 9, .inl (G.2.1, 5, .inl (σ.2 3))), (q 10, .inl (G.2.1, 6, .inl (σ.2 4))), (q 11, .inl (G.2.1, 5, .inl (σ.2 5))), (q 12, .inl (G.2.1, 5, .inl (σ.2 6))), (q 13, .inl (G.2.1, 5, .inl (σ.2 7))), (q 14, .inl (G.2.1, 1099, .inl (σ.2 8))), (q 15, .inl (G.2.1, 8, .inl (σ.2 9))), (q 16, .inl (G.2.1, 8, .inl (σ.2 10))), (q 17, .inl (G.2.1, 12, .inl (σ.2 11))), (q 18, .inl (G.2.1, 12, .inl (σ.2 12))), (q 19, .inl (G.2.1, 48, .inl (σ.2 13))), (q 20, .inl (G.2.1, 4096, .inl (σ.2 14))), (q 21, .inl (G.2.2.2.1, 10, .inr (.inr (.inr (.inr (fun k => if k < (σ.1 10).toNatClampNeg then some (q (22 + 5 * k)) else none))))))]
def xW (G : GP) (q : Nat → Nat) (σ : St) : va_W := xF G q σ ++ xS G q σ (σ.1 10).toNatClampNeg
theorem xS_congr {G : GP} {q : Nat → Nat} {σ σ' : St} {n : Nat} (h : ∀ b : Nat, 15 ≤ b → σ'.2 b = σ.2 b) : xS G q σ' n = xS G q σ n := by
  unfold xS
  congr 1
  funext k
  simp only [xC]
  rw [h (15 + 4 * k) (by omega), h (16 + 4 * k) (by omega), h (17 + 4 * k) (by omega), h (18 + 4 * k) (by omega)]
theorem sA_hi {σ : St} {a j b : Nat} {v : Int32} (h : a < b) : (sA σ a j v).2 b = σ.2 b := by
  show (if b = a then _ else σ.2 b) = σ.2 b
  exact if_neg (by omega)
theorem xSt0 {G : GP} {q : Nat → Nat} (σ : St) (j : Nat) (v : Int32) : (xW G q σ).set 6 (q 6, .inl (G.2.1, 20, .inl (upd (σ.2 0) j v))) = xW G q (sA σ 0 j v) := by
  show _ = xF G q (sA σ 0 j v) ++ xS G q (sA σ 0 j v) (σ.1 10).toNatClampNeg
  rw [xS_congr (σ := σ) (fun b h => sA_hi (by omega))]
  rfl
theorem xSt1 {G : GP} {q : Nat → Nat} (σ : St) (j : Nat) (v : Int32) : (xW G q σ).set 7 (q 7, .inl (G.2.1, 20, .inl (upd (σ.2 1) j v))) = xW G q (sA σ 1 j v) := by
  show _ = xF G q (sA σ 1 j v) ++ xS G q (sA σ 1 j v) (σ.1 10).toNatClampNeg
  rw [xS_congr (σ := σ) (fun b h => sA_hi (by omega))]
  rfl
theorem xSt2 {G : GP} {q : Nat → Nat} (σ : St) (j : Nat) (v : Int32) : (xW G q σ).set 8 (q 8, .inl (G.2.1, 4, .inl (upd (σ.2 2) j v))) = xW G q (sA σ 2 j v) := by
  show _ = xF G q (sA σ 2 j v) ++ xS G q (sA σ 2 j v) (σ.1 10).toNatClampNeg
  rw [xS_congr (σ := σ) (fun b h => sA_hi (by omega))]
  rfl
theorem xSt3 {G : GP} {q : Nat → Nat} (σ : St) (j : Nat) (v : Int32) : (xW G q σ).set 9 (q 9, .inl (G.2.1, 5, .inl (upd (σ.2 3) j v))) = xW G q (sA σ 3 j v) := by
  show _ = xF G q (sA σ 3 j v) ++ xS G q (sA σ 3 j v) (σ.1 10).toNatClampNeg
  rw [xS_congr (σ := σ) (fun b h => sA_hi (by omega))]
  rfl
theorem xSt4 {G : GP} {q : Nat → Nat} (σ : St) (j : Nat) (v : Int32) : (xW G q σ).set 10 (q 10, .inl (G.2.1, 6, .inl (upd (σ.2 4) j v))) = xW G q (sA σ 4 j v) := by
  show _ = xF G q (sA σ 4 j v) ++ xS G q (sA σ 4 j v) (σ.1 10).toNatClampNeg
  rw [xS_congr (σ := σ) (fun b h => sA_hi (by omega))]
  rfl
theorem xSt5 {G : GP} {q : Nat → Nat} (σ : St) (j : Nat) (v : Int32) : (xW G q σ).set 11 (q 11, .inl (G.2.1, 5, .inl (upd (σ.2 5) j v))) = xW G q (sA σ 5 j v) := by
  show _ = xF G q (sA σ 5 j v) ++ xS G q (sA σ 5 j v) (σ.1 10).toNatClampNeg
  rw [xS_congr (σ := σ) (fun b h => sA_hi (by omega))]
  rfl
theorem xSt6 {G : GP} {q : Nat → Nat} (σ : St) (j : Nat) (v : Int32) : (xW G q σ).set 12 (q 12, .inl (G.2.1, 5, .inl (upd (σ.2 6) j v))) = xW G q (sA σ 6 j v) := by
  show _ = xF G q (sA σ 6 j v) ++ xS G q (sA σ 6 j v) (σ.1 10).toNatClampNeg
  rw [xS_congr (σ := σ) (fun b h => sA_hi (by omega))]
  rfl
theorem xSt7 {G : GP} {q : Nat → Nat} (σ : St) (j : Nat) (v : Int32) : (xW G q σ).set 13 (q 13, .inl (G.2.1, 5, .inl (upd (σ.2 7) j v))) = xW G q (sA σ 7 j v) := by
  show _ = xF G q (sA σ 7 j v) ++ xS G q (sA σ 7 j v) (σ.1 10).toNatClampNeg
  rw [xS_congr (σ := σ) (fun b h => sA_hi (by omega))]
  rfl
theorem xSt8 {G : GP} {q : Nat → Nat} (σ : St) (j : Nat) (v : Int32) : (xW G q σ).set 14 (q 14, .inl (G.2.1, 1099, .inl (upd (σ.2 8) j v))) = xW G q (sA σ 8 j v) := by
  show _ = xF G q (sA σ 8 j v) ++ xS G q (sA σ 8 j v) (σ.1 10).toNatClampNeg
  rw [xS_congr (σ := σ) (fun b h => sA_hi (by omega))]
  rfl
theorem xSt9 {G : GP} {q : Nat → Nat} (σ : St) (j : Nat) (v : Int32) : (xW G q σ).set 15 (q 15, .inl (G.2.1, 8, .inl (upd (σ.2 9) j v))) = xW G q (sA σ 9 j v) := by
  show _ = xF G q (sA σ 9 j v) ++ xS G q (sA σ 9 j v) (σ.1 10).toNatClampNeg
  rw [xS_congr (σ := σ) (fun b h => sA_hi (by omega))]
  rfl
theorem xSt10 {G : GP} {q : Nat → Nat} (σ : St) (j : Nat) (v : Int32) : (xW G q σ).set 16 (q 16, .inl (G.2.1, 8, .inl (upd (σ.2 10) j v))) = xW G q (sA σ 10 j v) := by
  show _ = xF G q (sA σ 10 j v) ++ xS G q (sA σ 10 j v) (σ.1 10).toNatClampNeg
  rw [xS_congr (σ := σ) (fun b h => sA_hi (by omega))]
  rfl
theorem xSt11 {G : GP} {q : Nat → Nat} (σ : St) (j : Nat) (v : Int32) : (xW G q σ).set 17 (q 17, .inl (G.2.1, 12, .inl (upd (σ.2 11) j v))) = xW G q (sA σ 11 j v) := by
  show _ = xF G q (sA σ 11 j v) ++ xS G q (sA σ 11 j v) (σ.1 10).toNatClampNeg
  rw [xS_congr (σ := σ) (fun b h => sA_hi (by omega))]
  rfl
theorem xSt12 {G : GP} {q : Nat → Nat} (σ : St) (j : Nat) (v : Int32) : (xW G q σ).set 18 (q 18, .inl (G.2.1, 12, .inl (upd (σ.2 12) j v))) = xW G q (sA σ 12 j v) := by
  show _ = xF G q (sA σ 12 j v) ++ xS G q (sA σ 12 j v) (σ.1 10).toNatClampNeg
  rw [xS_congr (σ := σ) (fun b h => sA_hi (by omega))]
  rfl
theorem xSt13 {G : GP} {q : Nat → Nat} (σ : St) (j : Nat) (v : Int32) : (xW G q σ).set 19 (q 19, .inl (G.2.1, 48, .inl (upd (σ.2 13) j v))) = xW G q (sA σ 13 j v) := by
  show _ = xF G q (sA σ 13 j v) ++ xS G q (sA σ 13 j v) (σ.1 10).toNatClampNeg
  rw [xS_congr (σ := σ) (fun b h => sA_hi (by omega))]
  rfl
theorem xSt14 {G : GP} {q : Nat → Nat} (σ : St) (j : Nat) (v : Int32) : (xW G q σ).set 20 (q 20, .inl (G.2.1, 4096, .inl (upd (σ.2 14) j v))) = xW G q (sA σ 14 j v) := by
  show _ = xF G q (sA σ 14 j v) ++ xS G q (sA σ 14 j v) (σ.1 10).toNatClampNeg
  rw [xS_congr (σ := σ) (fun b h => sA_hi (by omega))]
  rfl
section
variable {G : GP} {p : Program} {l : Launch} {e : Env} {R : Room} {s : State} {m : MethodId} {args : Array Value} {below : List Frame} {meth : Method} {c : Code} {H : Heap} {locs : List Loc} {cells slots : Nat} {Q : State → Prop} {cc : ByteArray} {nL : Nat} {ret : Option FieldType} {k : Cond} {own : String} {A : Nat → Prop} {pc : Nat} {ls : Array Slot} {rest : List Value} {q : Nat → Nat} {σ : St}

theorem lk_RX4_9 : Cond.fieldLink RX4 9 RX4 "fact" "[I" ∈ TB := tbT 31 (by decide +kernel) rfl
theorem gf_RX4_9 (C : Cx G p s m args meth c cc nL ret k RX4 A) (hP : va_P G.1 vwCl (xW G q σ) H) (hdg : decode cc pc = .ok (.getfield 9, 3)) (kk : W p l e R s m args below meth c H locs cells slots Q (F0 m (pc + 3) ls (.ref (q 9) :: rest))) : W p l e R s m args below meth c H locs cells slots Q (F0 m pc ls (.ref (q 2) :: rest)) :=
  va_get (D := G.1) (ci := 4) (v := .ref (q 9)) (C := RX4) (T := TX4) (N := 6) C.1 C.2.1 C.2.2.2.2.1 (inB inX4) C.2.2.2.1 C.2.2.2.2.2.1 hP 2 rfl rfl 0 (by decide) (C.2.2.2.2.1 _ (List.mem_cons_of_mem _ lk_RX4_9)) (fun _ h9 => h9) rfl hdg kk
theorem lk_RX4_15 : Cond.fieldLink RX4 15 RX4 "wanted" "I" ∈ TB := tbT 32 (by decide +kernel) rfl
theorem gf_RX4_15 (C : Cx G p s m args meth c cc nL ret k RX4 A) (hP : va_P G.1 vwCl (xW G q σ) H) (hdg : decode cc pc = .ok (.getfield 15, 3)) (kk : W p l e R s m args below meth c H locs cells slots Q (F0 m (pc + 3) ls (.int (σ.1 1) :: rest))) : W p l e R s m args below meth c H locs cells slots Q (F0 m pc ls (.ref (q 2) :: rest)) :=
  va_get (D := G.1) (ci := 4) (v := .int (σ.1 1)) (C := RX4) (T := TX4) (N := 6) C.1 C.2.1 C.2.2.2.2.1 (inB inX4) C.2.2.2.1 C.2.2.2.2.2.1 hP 2 rfl rfl 1 (by decide) (C.2.2.2.2.1 _ (List.mem_cons_of_mem _ lk_RX4_15)) (fun _ h9 => h9) rfl hdg kk
theorem pf_RX4_15 {v : Int32} (C : Cx G p s m args meth c cc nL ret k RX4 A) (hP : va_P G.1 vwCl (xW G q σ) H) (hD : va_D A (xW G q σ)) (hS : va_S A s.heap H locs) (hdg : decode cc pc = .ok (.putfield 15, 3)) (kk : ∀ (H1 : Heap) (locs1 : List Loc), va_P G.1 vwCl (xW G q (s1 σ 1 v)) H1 → va_D A (xW G q (s1 σ 1 v)) → va_S A s.heap H1 locs1 → W p l e R s m args below meth c H1 locs1 cells slots Q (F0 m (pc + 3) ls rest)) : W p l e R s m args below meth c H locs cells slots Q (F0 m pc ls (.int v :: .ref (q 2) :: rest)) :=
  va_put (D := G.1) (ci := 4) (v := .int v) (ty := .int) (C := RX4) (T := TX4) (N := 6) C.1 C.2.1 C.2.2.2.2.1 (inB inX4) tyX4 tyX4_ok nmX4 C.2.2.2.1 C.2.2.2.2.2.1 hP hD hS 2 rfl rfl 1 (by decide) (C.2.2.2.2.1 _ (List.mem_cons_of_mem _ lk_RX4_15)) (fun _ h9 => h9) rfl (by decide +kernel) rfl rfl (Nat.le_of_ble_eq_true rfl) hdg (fun H1 locs1 hP1 hD1 hS1 => kk H1 locs1 hP1 hD1 hS1)
theorem lk_RX4_19 : Cond.fieldLink RX4 19 RX4 "number" "I" ∈ TB := tbT 33 (by decide +kernel) rfl
theorem gf_RX4_19 (C : Cx G p s m args meth c cc nL ret k RX4 A) (hP : va_P G.1 vwCl (xW G q σ) H) (hdg : decode cc pc = .ok (.getfield 19, 3)) (kk : W p l e R s m args below meth c H locs cells slots Q (F0 m (pc + 3) ls (.int (σ.1 2) :: rest))) : W p l e R s m args below meth c H locs cells slots Q (F0 m pc ls (.ref (q 2) :: rest)) :=
  va_get (D := G.1) (ci := 4) (v := .int (σ.1 2)) (C := RX4) (T := TX4) (N := 6) C.1 C.2.1 C.2.2.2.2.1 (inB inX4) C.2.2.2.1 C.2.2.2.2.2.1 hP 2 rfl rfl 2 (by decide) (C.2.2.2.2.1 _ (List.mem_cons_of_mem _ lk_RX4_19)) (fun _ h9 => h9) rfl hdg kk
theorem pf_RX4_19 {v : Int32} (C : Cx G p s m args meth c cc nL ret k RX4 A) (hP : va_P G.1 vwCl (xW G q σ) H) (hD : va_D A (xW G q σ)) (hS : va_S A s.heap H locs) (hdg : decode cc pc = .ok (.putfield 19, 3)) (kk : ∀ (H1 : Heap) (locs1 : List Loc), va_P G.1 vwCl (xW G q (s1 σ 2 v)) H1 → va_D A (xW G q (s1 σ 2 v)) → va_S A s.heap H1 locs1 → W p l e R s m args below meth c H1 locs1 cells slots Q (F0 m (pc + 3) ls rest)) : W p l e R s m args below meth c H locs cells slots Q (F0 m pc ls (.int v :: .ref (q 2) :: rest)) :=
  va_put (D := G.1) (ci := 4) (v := .int v) (ty := .int) (C := RX4) (T := TX4) (N := 6) C.1 C.2.1 C.2.2.2.2.1 (inB inX4) tyX4 tyX4_ok nmX4 C.2.2.2.1 C.2.2.2.2.2.1 hP hD hS 2 rfl rfl 2 (by decide) (C.2.2.2.2.1 _ (List.mem_cons_of_mem _ lk_RX4_19)) (fun _ h9 => h9) rfl (by decide +kernel) rfl rfl (Nat.le_of_ble_eq_true rfl) hdg (fun H1 locs1 hP1 hD1 hS1 => kk H1 locs1 hP1 hD1 hS1)
theorem lk_RX4_22 : Cond.fieldLink RX4 22 RX4 "weights" "I" ∈ TB := tbT 34 (by decide +kernel) rfl
theorem gf_RX4_22 (C : Cx G p s m args meth c cc nL ret k RX4 A) (hP : va_P G.1 vwCl (xW G q σ) H) (hdg : decode cc pc = .ok (.getfield 22, 3)) (kk : W p l e R s m args below meth c H locs cells slots Q (F0 m (pc + 3) ls (.int (σ.1 3) :: rest))) : W p l e R s m args below meth c H locs cells slots Q (F0 m pc ls (.ref (q 2) :: rest)) :=
  va_get (D := G.1) (ci := 4) (v := .int (σ.1 3)) (C := RX4) (T := TX4) (N := 6) C.1 C.2.1 C.2.2.2.2.1 (inB inX4) C.2.2.2.1 C.2.2.2.2.2.1 hP 2 rfl rfl 3 (by decide) (C.2.2.2.2.1 _ (List.mem_cons_of_mem _ lk_RX4_22)) (fun _ h9 => h9) rfl hdg kk
theorem pf_RX4_22 {v : Int32} (C : Cx G p s m args meth c cc nL ret k RX4 A) (hP : va_P G.1 vwCl (xW G q σ) H) (hD : va_D A (xW G q σ)) (hS : va_S A s.heap H locs) (hdg : decode cc pc = .ok (.putfield 22, 3)) (kk : ∀ (H1 : Heap) (locs1 : List Loc), va_P G.1 vwCl (xW G q (s1 σ 3 v)) H1 → va_D A (xW G q (s1 σ 3 v)) → va_S A s.heap H1 locs1 → W p l e R s m args below meth c H1 locs1 cells slots Q (F0 m (pc + 3) ls rest)) : W p l e R s m args below meth c H locs cells slots Q (F0 m pc ls (.int v :: .ref (q 2) :: rest)) :=
  va_put (D := G.1) (ci := 4) (v := .int v) (ty := .int) (C := RX4) (T := TX4) (N := 6) C.1 C.2.1 C.2.2.2.2.1 (inB inX4) tyX4 tyX4_ok nmX4 C.2.2.2.1 C.2.2.2.2.2.1 hP hD hS 2 rfl rfl 3 (by decide) (C.2.2.2.2.1 _ (List.mem_cons_of_mem _ lk_RX4_22)) (fun _ h9 => h9) rfl (by decide +kernel) rfl rfl (Nat.le_of_ble_eq_true rfl) hdg (fun H1 locs1 hP1 hD1 hS1 => kk H1 locs1 hP1 hD1 hS1)
theorem lk_RX4_25 : Cond.fieldLink RX4 25 RX4 "heaviest" "I" ∈ TB := tbT 35 (by decide +kernel) rfl
theorem gf_RX4_25 (C : Cx G p s m args meth c cc nL ret k RX4 A) (hP : va_P G.1 vwCl (xW G q σ) H) (hdg : decode cc pc = .ok (.getfield 25, 3)) (kk : W p l e R s m args below meth c H locs cells slots Q (F0 m (pc + 3) ls (.int (σ.1 4) :: rest))) : W p l e R s m args below meth c H locs cells slots Q (F0 m pc ls (.ref (q 2) :: rest)) :=
  va_get (D := G.1) (ci := 4) (v := .int (σ.1 4)) (C := RX4) (T := TX4) (N := 6) C.1 C.2.1 C.2.2.2.2.1 (inB inX4) C.2.2.2.1 C.2.2.2.2.2.1 hP 2 rfl rfl 4 (by decide) (C.2.2.2.2.1 _ (List.mem_cons_of_mem _ lk_RX4_25)) (fun _ h9 => h9) rfl hdg kk
theorem pf_RX4_25 {v : Int32} (C : Cx G p s m args meth c cc nL ret k RX4 A) (hP : va_P G.1 vwCl (xW G q σ) H) (hD : va_D A (xW G q σ)) (hS : va_S A s.heap H locs) (hdg : decode cc pc = .ok (.putfield 25, 3)) (kk : ∀ (H1 : Heap) (locs1 : List Loc), va_P G.1 vwCl (xW G q (s1 σ 4 v)) H1 → va_D A (xW G q (s1 σ 4 v)) → va_S A s.heap H1 locs1 → W p l e R s m args below meth c H1 locs1 cells slots Q (F0 m (pc + 3) ls rest)) : W p l e R s m args below meth c H locs cells slots Q (F0 m pc ls (.int v :: .ref (q 2) :: rest)) :=
  va_put (D := G.1) (ci := 4) (v := .int v) (ty := .int) (C := RX4) (T := TX4) (N := 6) C.1 C.2.1 C.2.2.2.2.1 (inB inX4) tyX4 tyX4_ok nmX4 C.2.2.2.1 C.2.2.2.2.2.1 hP hD hS 2 rfl rfl 4 (by decide) (C.2.2.2.2.1 _ (List.mem_cons_of_mem _ lk_RX4_25)) (fun _ h9 => h9) rfl (by decide +kernel) rfl rfl (Nat.le_of_ble_eq_true rfl) hdg (fun H1 locs1 hP1 hD1 hS1 => kk H1 locs1 hP1 hD1 hS1)
theorem lk_RX4_28 : Cond.fieldLink RX4 28 RX4 "heaviestWeight" "I" ∈ TB := tbT 36 (by decide +kernel) rfl
theorem gf_RX4_28 (C : Cx G p s m args meth c cc nL ret k RX4 A) (hP : va_P G.1 vwCl (xW G q σ) H) (hdg : decode cc pc = .ok (.getfield 28, 3)) (kk : W p l e R s m args below meth c H locs cells slots Q (F0 m (pc + 3) ls (.int (σ.1 5) :: rest))) : W p l e R s m args below meth c H locs cells slots Q (F0 m pc ls (.ref (q 2) :: rest)) :=
  va_get (D := G.1) (ci := 4) (v := .int (σ.1 5)) (C := RX4) (T := TX4) (N := 6) C.1 C.2.1 C.2.2.2.2.1 (inB inX4) C.2.2.2.1 C.2.2.2.2.2.1 hP 2 rfl rfl 5 (by decide) (C.2.2.2.2.1 _ (List.mem_cons_of_mem _ lk_RX4_28)) (fun _ h9 => h9) rfl hdg kk
theorem pf_RX4_28 {v : Int32} (C : Cx G p s m args meth c cc nL ret k RX4 A) (hP : va_P G.1 vwCl (xW G q σ) H) (hD : va_D A (xW G q σ)) (hS : va_S A s.heap H locs) (hdg : decode cc pc = .ok (.putfield 28, 3)) (kk : ∀ (H1 : Heap) (locs1 : List Loc), va_P G.1 vwCl (xW G q (s1 σ 5 v)) H1 → va_D A (xW G q (s1 σ 5 v)) → va_S A s.heap H1 locs1 → W p l e R s m args below meth c H1 locs1 cells slots Q (F0 m (pc + 3) ls rest)) : W p l e R s m args below meth c H locs cells slots Q (F0 m pc ls (.int v :: .ref (q 2) :: rest)) :=
  va_put (D := G.1) (ci := 4) (v := .int v) (ty := .int) (C := RX4) (T := TX4) (N := 6) C.1 C.2.1 C.2.2.2.2.1 (inB inX4) tyX4 tyX4_ok nmX4 C.2.2.2.1 C.2.2.2.2.2.1 hP hD hS 2 rfl rfl 5 (by decide) (C.2.2.2.2.1 _ (List.mem_cons_of_mem _ lk_RX4_28)) (fun _ h9 => h9) rfl (by decide +kernel) rfl rfl (Nat.le_of_ble_eq_true rfl) hdg (fun H1 locs1 hP1 hD1 hS1 => kk H1 locs1 hP1 hD1 hS1)
theorem lk_RX1_9 : Cond.fieldLink RX1 9 RX1 "frequency" "[I" ∈ TB := tbT 51 (by decide +kernel) rfl
theorem gf_RX1_9 (C : Cx G p s m args meth c cc nL ret k RX1 A) (hP : va_P G.1 vwCl (xW G q σ) H) (hdg : decode cc pc = .ok (.getfield 9, 3)) (kk : W p l e R s m args below meth c H locs cells slots Q (F0 m (pc + 3) ls (.ref (q 6) :: rest))) : W p l e R s m args below meth c H locs cells slots Q (F0 m pc ls (.ref (q 1) :: rest)) :=
  va_get (D := G.1) (ci := 1) (v := .ref (q 6)) (C := RX1) (T := TX1) (N := 5) C.1 C.2.1 C.2.2.2.2.1 (inB inX1) C.2.2.2.1 C.2.2.2.2.2.1 hP 1 rfl rfl 0 (by decide) (C.2.2.2.2.1 _ (List.mem_cons_of_mem _ lk_RX1_9)) (fun _ h9 => h9) rfl hdg kk
theorem lk_RX1_15 : Cond.fieldLink RX1 15 RX1 "strengths" "[I" ∈ TB := tbT 52 (by decide +kernel) rfl
theorem gf_RX1_15 (C : Cx G p s m args meth c cc nL ret k RX1 A) (hP : va_P G.1 vwCl (xW G q σ) H) (hdg : decode cc pc = .ok (.getfield 15, 3)) (kk : W p l e R s m args below meth c H locs cells slots Q (F0 m (pc + 3) ls (.ref (q 7) :: rest))) : W p l e R s m args below meth c H locs cells slots Q (F0 m pc ls (.ref (q 1) :: rest)) :=
  va_get (D := G.1) (ci := 1) (v := .ref (q 7)) (C := RX1) (T := TX1) (N := 5) C.1 C.2.1 C.2.2.2.2.1 (inB inX1) C.2.2.2.1 C.2.2.2.2.2.1 hP 1 rfl rfl 1 (by decide) (C.2.2.2.2.1 _ (List.mem_cons_of_mem _ lk_RX1_15)) (fun _ h9 => h9) rfl hdg kk
theorem lk_RX1_18 : Cond.fieldLink RX1 18 RX1 "setting" "[I" ∈ TB := tbT 53 (by decide +kernel) rfl
theorem gf_RX1_18 (C : Cx G p s m args meth c cc nL ret k RX1 A) (hP : va_P G.1 vwCl (xW G q σ) H) (hdg : decode cc pc = .ok (.getfield 18, 3)) (kk : W p l e R s m args below meth c H locs cells slots Q (F0 m (pc + 3) ls (.ref (q 8) :: rest))) : W p l e R s m args below meth c H locs cells slots Q (F0 m pc ls (.ref (q 1) :: rest)) :=
  va_get (D := G.1) (ci := 1) (v := .ref (q 8)) (C := RX1) (T := TX1) (N := 5) C.1 C.2.1 C.2.2.2.2.1 (inB inX1) C.2.2.2.1 C.2.2.2.2.2.1 hP 1 rfl rfl 2 (by decide) (C.2.2.2.2.1 _ (List.mem_cons_of_mem _ lk_RX1_18)) (fun _ h9 => h9) rfl hdg kk
theorem lk_RX1_24 : Cond.fieldLink RX1 24 RX1 "tally" "LRadioRoom$SpurTally;" ∈ TB := tbT 54 (by decide +kernel) rfl
theorem gf_RX1_24 (C : Cx G p s m args meth c cc nL ret k RX1 A) (hP : va_P G.1 vwCl (xW G q σ) H) (hdg : decode cc pc = .ok (.getfield 24, 3)) (kk : W p l e R s m args below meth c H locs cells slots Q (F0 m (pc + 3) ls (.ref (q 2) :: rest))) : W p l e R s m args below meth c H locs cells slots Q (F0 m pc ls (.ref (q 1) :: rest)) :=
  va_get (D := G.1) (ci := 1) (v := .ref (q 2)) (C := RX1) (T := TX1) (N := 5) C.1 C.2.1 C.2.2.2.2.1 (inB inX1) C.2.2.2.1 C.2.2.2.2.2.1 hP 1 rfl rfl 3 (by decide) (C.2.2.2.2.1 _ (List.mem_cons_of_mem _ lk_RX1_24)) (fun _ h9 => h9) rfl hdg kk
theorem lk_RX1_28 : Cond.fieldLink RX1 28 RX1 "stations" "I" ∈ TB := tbT 55 (by decide +kernel) rfl
theorem gf_RX1_28 (C : Cx G p s m args meth c cc nL ret k RX1 A) (hP : va_P G.1 vwCl (xW G q σ) H) (hdg : decode cc pc = .ok (.getfield 28, 3)) (kk : W p l e R s m args below meth c H locs cells slots Q (F0 m (pc + 3) ls (.int (σ.1 0) :: rest))) : W p l e R s m args below meth c H locs cells slots Q (F0 m pc ls (.ref (q 1) :: rest)) :=
  va_get (D := G.1) (ci := 1) (v := .int (σ.1 0)) (C := RX1) (T := TX1) (N := 5) C.1 C.2.1 C.2.2.2.2.1 (inB inX1) C.2.2.2.1 C.2.2.2.2.2.1 hP 1 rfl rfl 4 (by decide) (C.2.2.2.2.1 _ (List.mem_cons_of_mem _ lk_RX1_28)) (fun _ h9 => h9) rfl hdg kk
theorem pf_RX1_28 {v : Int32} (C : Cx G p s m args meth c cc nL ret k RX1 A) (hP : va_P G.1 vwCl (xW G q σ) H) (hD : va_D A (xW G q σ)) (hS : va_S A s.heap H locs) (hdg : decode cc pc = .ok (.putfield 28, 3)) (kk : ∀ (H1 : Heap) (locs1 : List Loc), va_P G.1 vwCl (xW G q (s1 σ 0 v)) H1 → va_D A (xW G q (s1 σ 0 v)) → va_S A s.heap H1 locs1 → W p l e R s m args below meth c H1 locs1 cells slots Q (F0 m (pc + 3) ls rest)) : W p l e R s m args below meth c H locs cells slots Q (F0 m pc ls (.int v :: .ref (q 1) :: rest)) :=
  va_put (D := G.1) (ci := 1) (v := .int v) (ty := .int) (C := RX1) (T := TX1) (N := 5) C.1 C.2.1 C.2.2.2.2.1 (inB inX1) tyX1 tyX1_ok nmX1 C.2.2.2.1 C.2.2.2.2.2.1 hP hD hS 1 rfl rfl 4 (by decide) (C.2.2.2.2.1 _ (List.mem_cons_of_mem _ lk_RX1_28)) (fun _ h9 => h9) rfl (by decide +kernel) rfl rfl (Nat.le_of_ble_eq_true rfl) hdg (fun H1 locs1 hP1 hD1 hS1 => kk H1 locs1 hP1 hD1 hS1)
theorem lk_RX5_40 : Cond.fieldLink RX5 40 RX5 "dial" "LRadioRoom$Dial;" ∈ TB := tbT 73 (by decide +kernel) rfl
theorem gf_RX5_40 (C : Cx G p s m args meth c cc nL ret k RX5 A) (hP : va_P G.1 vwCl (xW G q σ) H) (hdg : decode cc pc = .ok (.getfield 40, 3)) (kk : W p l e R s m args below meth c H locs cells slots Q (F0 m (pc + 3) ls (.ref (q 1) :: rest))) : W p l e R s m args below meth c H locs cells slots Q (F0 m pc ls (.ref (q 3) :: rest)) :=
  va_get (D := G.1) (ci := 5) (v := .ref (q 1)) (C := RX5) (T := TX5) (N := 10) C.1 C.2.1 C.2.2.2.2.1 (inB inX5) C.2.2.2.1 C.2.2.2.2.2.1 hP 3 rfl rfl 0 (by decide) (C.2.2.2.2.1 _ (List.mem_cons_of_mem _ lk_RX5_40)) (fun _ h9 => h9) rfl hdg kk
theorem lk_RX5_9 : Cond.fieldLink RX5 9 RX5 "parts" "[I" ∈ TB := tbT 74 (by decide +kernel) rfl
theorem gf_RX5_9 (C : Cx G p s m args meth c cc nL ret k RX5 A) (hP : va_P G.1 vwCl (xW G q σ) H) (hdg : decode cc pc = .ok (.getfield 9, 3)) (kk : W p l e R s m args below meth c H locs cells slots Q (F0 m (pc + 3) ls (.ref (q 10) :: rest))) : W p l e R s m args below meth c H locs cells slots Q (F0 m pc ls (.ref (q 3) :: rest)) :=
  va_get (D := G.1) (ci := 5) (v := .ref (q 10)) (C := RX5) (T := TX5) (N := 10) C.1 C.2.1 C.2.2.2.2.1 (inB inX5) C.2.2.2.1 C.2.2.2.2.2.1 hP 3 rfl rfl 1 (by decide) (C.2.2.2.2.1 _ (List.mem_cons_of_mem _ lk_RX5_9)) (fun _ h9 => h9) rfl hdg kk
theorem lk_RX5_15 : Cond.fieldLink RX5 15 RX5 "places" "[I" ∈ TB := tbT 75 (by decide +kernel) rfl
theorem gf_RX5_15 (C : Cx G p s m args meth c cc nL ret k RX5 A) (hP : va_P G.1 vwCl (xW G q σ) H) (hdg : decode cc pc = .ok (.getfield 15, 3)) (kk : W p l e R s m args below meth c H locs cells slots Q (F0 m (pc + 3) ls (.ref (q 11) :: rest))) : W p l e R s m args below meth c H locs cells slots Q (F0 m pc ls (.ref (q 3) :: rest)) :=
  va_get (D := G.1) (ci := 5) (v := .ref (q 11)) (C := RX5) (T := TX5) (N := 10) C.1 C.2.1 C.2.2.2.2.1 (inB inX5) C.2.2.2.1 C.2.2.2.2.2.1 hP 3 rfl rfl 2 (by decide) (C.2.2.2.2.1 _ (List.mem_cons_of_mem _ lk_RX5_15)) (fun _ h9 => h9) rfl hdg kk
theorem lk_RX5_18 : Cond.fieldLink RX5 18 RX5 "low" "I" ∈ TB := tbT 76 (by decide +kernel) rfl
theorem gf_RX5_18 (C : Cx G p s m args meth c cc nL ret k RX5 A) (hP : va_P G.1 vwCl (xW G q σ) H) (hdg : decode cc pc = .ok (.getfield 18, 3)) (kk : W p l e R s m args below meth c H locs cells slots Q (F0 m (pc + 3) ls (.int (σ.1 6) :: rest))) : W p l e R s m args below meth c H locs cells slots Q (F0 m pc ls (.ref (q 3) :: rest)) :=
  va_get (D := G.1) (ci := 5) (v := .int (σ.1 6)) (C := RX5) (T := TX5) (N := 10) C.1 C.2.1 C.2.2.2.2.1 (inB inX5) C.2.2.2.1 C.2.2.2.2.2.1 hP 3 rfl rfl 3 (by decide) (C.2.2.2.2.1 _ (List.mem_cons_of_mem _ lk_RX5_18)) (fun _ h9 => h9) rfl hdg kk
theorem pf_RX5_18 {v : Int32} (C : Cx G p s m args meth c cc nL ret k RX5 A) (hP : va_P G.1 vwCl (xW G q σ) H) (hD : va_D A (xW G q σ)) (hS : va_S A s.heap H locs) (hdg : decode cc pc = .ok (.putfield 18, 3)) (kk : ∀ (H1 : Heap) (locs1 : List Loc), va_P G.1 vwCl (xW G q (s1 σ 6 v)) H1 → va_D A (xW G q (s1 σ 6 v)) → va_S A s.heap H1 locs1 → W p l e R s m args below meth c H1 locs1 cells slots Q (F0 m (pc + 3) ls rest)) : W p l e R s m args below meth c H locs cells slots Q (F0 m pc ls (.int v :: .ref (q 3) :: rest)) :=
  va_put (D := G.1) (ci := 5) (v := .int v) (ty := .int) (C := RX5) (T := TX5) (N := 10) C.1 C.2.1 C.2.2.2.2.1 (inB inX5) tyX5 tyX5_ok nmX5 C.2.2.2.1 C.2.2.2.2.2.1 hP hD hS 3 rfl rfl 3 (by decide) (C.2.2.2.2.1 _ (List.mem_cons_of_mem _ lk_RX5_18)) (fun _ h9 => h9) rfl (by decide +kernel) rfl rfl (Nat.le_of_ble_eq_true rfl) hdg (fun H1 locs1 hP1 hD1 hS1 => kk H1 locs1 hP1 hD1 hS1)
theorem lk_RX5_22 : Cond.fieldLink RX5 22 RX5 "high" "I" ∈ TB := tbT 77 (by decide +kernel) rfl
theorem gf_RX5_22 (C : Cx G p s m args meth c cc nL ret k RX5 A) (hP : va_P G.1 vwCl (xW G q σ) H) (hdg : decode cc pc = .ok (.getfield 22, 3)) (kk : W p l e R s m args below meth c H locs cells slots Q (F0 m (pc + 3) ls (.int (σ.1 7) :: rest))) : W p l e R s m args below meth c H locs cells slots Q (F0 m pc ls (.ref (q 3) :: rest)) :=
  va_get (D := G.1) (ci := 5) (v := .int (σ.1 7)) (C := RX5) (T := TX5) (N := 10) C.1 C.2.1 C.2.2.2.2.1 (inB inX5) C.2.2.2.1 C.2.2.2.2.2.1 hP 3 rfl rfl 4 (by decide) (C.2.2.2.2.1 _ (List.mem_cons_of_mem _ lk_RX5_22)) (fun _ h9 => h9) rfl hdg kk
theorem pf_RX5_22 {v : Int32} (C : Cx G p s m args meth c cc nL ret k RX5 A) (hP : va_P G.1 vwCl (xW G q σ) H) (hD : va_D A (xW G q σ)) (hS : va_S A s.heap H locs) (hdg : decode cc pc = .ok (.putfield 22, 3)) (kk : ∀ (H1 : Heap) (locs1 : List Loc), va_P G.1 vwCl (xW G q (s1 σ 7 v)) H1 → va_D A (xW G q (s1 σ 7 v)) → va_S A s.heap H1 locs1 → W p l e R s m args below meth c H1 locs1 cells slots Q (F0 m (pc + 3) ls rest)) : W p l e R s m args below meth c H locs cells slots Q (F0 m pc ls (.int v :: .ref (q 3) :: rest)) :=
  va_put (D := G.1) (ci := 5) (v := .int v) (ty := .int) (C := RX5) (T := TX5) (N := 10) C.1 C.2.1 C.2.2.2.2.1 (inB inX5) tyX5 tyX5_ok nmX5 C.2.2.2.1 C.2.2.2.2.2.1 hP hD hS 3 rfl rfl 4 (by decide) (C.2.2.2.2.1 _ (List.mem_cons_of_mem _ lk_RX5_22)) (fun _ h9 => h9) rfl (by decide +kernel) rfl rfl (Nat.le_of_ble_eq_true rfl) hdg (fun H1 locs1 hP1 hD1 hS1 => kk H1 locs1 hP1 hD1 hS1)
theorem lk_RX5_25 : Cond.fieldLink RX5 25 RX5 "points" "I" ∈ TB := tbT 78 (by decide +kernel) rfl
theorem gf_RX5_25 (C : Cx G p s m args meth c cc nL ret k RX5 A) (hP : va_P G.1 vwCl (xW G q σ) H) (hdg : decode cc pc = .ok (.getfield 25, 3)) (kk : W p l e R s m args below meth c H locs cells slots Q (F0 m (pc + 3) ls (.int (σ.1 8) :: rest))) : W p l e R s m args below meth c H locs cells slots Q (F0 m pc ls (.ref (q 3) :: rest)) :=
  va_get (D := G.1) (ci := 5) (v := .int (σ.1 8)) (C := RX5) (T := TX5) (N := 10) C.1 C.2.1 C.2.2.2.2.1 (inB inX5) C.2.2.2.1 C.2.2.2.2.2.1 hP 3 rfl rfl 5 (by decide) (C.2.2.2.2.1 _ (List.mem_cons_of_mem _ lk_RX5_25)) (fun _ h9 => h9) rfl hdg kk
theorem pf_RX5_25 {v : Int32} (C : Cx G p s m args meth c cc nL ret k RX5 A) (hP : va_P G.1 vwCl (xW G q σ) H) (hD : va_D A (xW G q σ)) (hS : va_S A s.heap H locs) (hdg : decode cc pc = .ok (.putfield 25, 3)) (kk : ∀ (H1 : Heap) (locs1 : List Loc), va_P G.1 vwCl (xW G q (s1 σ 8 v)) H1 → va_D A (xW G q (s1 σ 8 v)) → va_S A s.heap H1 locs1 → W p l e R s m args below meth c H1 locs1 cells slots Q (F0 m (pc + 3) ls rest)) : W p l e R s m args below meth c H locs cells slots Q (F0 m pc ls (.int v :: .ref (q 3) :: rest)) :=
  va_put (D := G.1) (ci := 5) (v := .int v) (ty := .int) (C := RX5) (T := TX5) (N := 10) C.1 C.2.1 C.2.2.2.2.1 (inB inX5) tyX5 tyX5_ok nmX5 C.2.2.2.1 C.2.2.2.2.2.1 hP hD hS 3 rfl rfl 5 (by decide) (C.2.2.2.2.1 _ (List.mem_cons_of_mem _ lk_RX5_25)) (fun _ h9 => h9) rfl (by decide +kernel) rfl rfl (Nat.le_of_ble_eq_true rfl) hdg (fun H1 locs1 hP1 hD1 hS1 => kk H1 locs1 hP1 hD1 hS1)
theorem lk_RX5_28 : Cond.fieldLink RX5 28 RX5 "gangAt" "[I" ∈ TB := tbT 79 (by decide +kernel) rfl
theorem gf_RX5_28 (C : Cx G p s m args meth c cc nL ret k RX5 A) (hP : va_P G.1 vwCl (xW G q σ) H) (hdg : decode cc pc = .ok (.getfield 28, 3)) (kk : W p l e R s m args below meth c H locs cells slots Q (F0 m (pc + 3) ls (.ref (q 12) :: rest))) : W p l e R s m args below meth c H locs cells slots Q (F0 m pc ls (.ref (q 3) :: rest)) :=
  va_get (D := G.1) (ci := 5) (v := .ref (q 12)) (C := RX5) (T := TX5) (N := 10) C.1 C.2.1 C.2.2.2.2.1 (inB inX5) C.2.2.2.1 C.2.2.2.2.2.1 hP 3 rfl rfl 6 (by decide) (C.2.2.2.2.1 _ (List.mem_cons_of_mem _ lk_RX5_28)) (fun _ h9 => h9) rfl hdg kk
theorem lk_RX5_31 : Cond.fieldLink RX5 31 RX5 "wantedAt" "[I" ∈ TB := tbT 80 (by decide +kernel) rfl
theorem gf_RX5_31 (C : Cx G p s m args meth c cc nL ret k RX5 A) (hP : va_P G.1 vwCl (xW G q σ) H) (hdg : decode cc pc = .ok (.getfield 31, 3)) (kk : W p l e R s m args below meth c H locs cells slots Q (F0 m (pc + 3) ls (.ref (q 13) :: rest))) : W p l e R s m args below meth c H locs cells slots Q (F0 m pc ls (.ref (q 3) :: rest)) :=
  va_get (D := G.1) (ci := 5) (v := .ref (q 13)) (C := RX5) (T := TX5) (N := 10) C.1 C.2.1 C.2.2.2.2.1 (inB inX5) C.2.2.2.1 C.2.2.2.2.2.1 hP 3 rfl rfl 7 (by decide) (C.2.2.2.2.1 _ (List.mem_cons_of_mem _ lk_RX5_31)) (fun _ h9 => h9) rfl hdg kk
theorem lk_RX5_34 : Cond.fieldLink RX5 34 RX5 "tunedBy" "[I" ∈ TB := tbT 81 (by decide +kernel) rfl
theorem gf_RX5_34 (C : Cx G p s m args meth c cc nL ret k RX5 A) (hP : va_P G.1 vwCl (xW G q σ) H) (hdg : decode cc pc = .ok (.getfield 34, 3)) (kk : W p l e R s m args below meth c H locs cells slots Q (F0 m (pc + 3) ls (.ref (q 14) :: rest))) : W p l e R s m args below meth c H locs cells slots Q (F0 m pc ls (.ref (q 3) :: rest)) :=
  va_get (D := G.1) (ci := 5) (v := .ref (q 14)) (C := RX5) (T := TX5) (N := 10) C.1 C.2.1 C.2.2.2.2.1 (inB inX5) C.2.2.2.1 C.2.2.2.2.2.1 hP 3 rfl rfl 8 (by decide) (C.2.2.2.2.1 _ (List.mem_cons_of_mem _ lk_RX5_34)) (fun _ h9 => h9) rfl hdg kk
theorem lk_RX5_37 : Cond.fieldLink RX5 37 RX5 "coilOfTunedBy" "I" ∈ TB := tbT 82 (by decide +kernel) rfl
theorem gf_RX5_37 (C : Cx G p s m args meth c cc nL ret k RX5 A) (hP : va_P G.1 vwCl (xW G q σ) H) (hdg : decode cc pc = .ok (.getfield 37, 3)) (kk : W p l e R s m args below meth c H locs cells slots Q (F0 m (pc + 3) ls (.int (σ.1 9) :: rest))) : W p l e R s m args below meth c H locs cells slots Q (F0 m pc ls (.ref (q 3) :: rest)) :=
  va_get (D := G.1) (ci := 5) (v := .int (σ.1 9)) (C := RX5) (T := TX5) (N := 10) C.1 C.2.1 C.2.2.2.2.1 (inB inX5) C.2.2.2.1 C.2.2.2.2.2.1 hP 3 rfl rfl 9 (by decide) (C.2.2.2.2.1 _ (List.mem_cons_of_mem _ lk_RX5_37)) (fun _ h9 => h9) rfl hdg kk
theorem pf_RX5_37 {v : Int32} (C : Cx G p s m args meth c cc nL ret k RX5 A) (hP : va_P G.1 vwCl (xW G q σ) H) (hD : va_D A (xW G q σ)) (hS : va_S A s.heap H locs) (hdg : decode cc pc = .ok (.putfield 37, 3)) (kk : ∀ (H1 : Heap) (locs1 : List Loc), va_P G.1 vwCl (xW G q (s1 σ 9 v)) H1 → va_D A (xW G q (s1 σ 9 v)) → va_S A s.heap H1 locs1 → W p l e R s m args below meth c H1 locs1 cells slots Q (F0 m (pc + 3) ls rest)) : W p l e R s m args below meth c H locs cells slots Q (F0 m pc ls (.int v :: .ref (q 3) :: rest)) :=
  va_put (D := G.1) (ci := 5) (v := .int v) (ty := .int) (C := RX5) (T := TX5) (N := 10) C.1 C.2.1 C.2.2.2.2.1 (inB inX5) tyX5 tyX5_ok nmX5 C.2.2.2.1 C.2.2.2.2.2.1 hP hD hS 3 rfl rfl 9 (by decide) (C.2.2.2.2.1 _ (List.mem_cons_of_mem _ lk_RX5_37)) (fun _ h9 => h9) rfl (by decide +kernel) rfl rfl (Nat.le_of_ble_eq_true rfl) hdg (fun H1 locs1 hP1 hD1 hS1 => kk H1 locs1 hP1 hD1 hS1)
theorem lk_RX0_31 : Cond.fieldLink RX0 31 RX0 "tracking" "LRadioRoom$Tracking;" ∈ TB := tbT 112 (by decide +kernel) rfl
theorem gf_RX0_31 (C : Cx G p s m args meth c cc nL ret k RX0 A) (hP : va_P G.1 vwCl (xW G q σ) H) (hdg : decode cc pc = .ok (.getfield 31, 3)) (kk : W p l e R s m args below meth c H locs cells slots Q (F0 m (pc + 3) ls (.ref (q 3) :: rest))) : W p l e R s m args below meth c H locs cells slots Q (F0 m pc ls (.ref (q 4) :: rest)) :=
  va_get (D := G.1) (ci := 0) (v := .ref (q 3)) (C := RX0) (T := TX0) (N := 6) C.1 C.2.1 C.2.2.2.2.1 (inB inX0) C.2.2.2.1 C.2.2.2.2.2.1 hP 4 rfl rfl 0 (by decide) (C.2.2.2.2.1 _ (List.mem_cons_of_mem _ lk_RX0_31)) (fun _ h9 => h9) rfl hdg kk
theorem lk_RX0_11 : Cond.fieldLink RX0 11 RX0 "row" "[LRadioRoom$RadioSet;" ∈ TB := tbT 113 (by decide +kernel) rfl
theorem gf_RX0_11 (C : Cx G p s m args meth c cc nL ret k RX0 A) (hP : va_P G.1 vwCl (xW G q σ) H) (hdg : decode cc pc = .ok (.getfield 11, 3)) (kk : W p l e R s m args below meth c H locs cells slots Q (F0 m (pc + 3) ls (.ref (q 21) :: rest))) : W p l e R s m args below meth c H locs cells slots Q (F0 m pc ls (.ref (q 4) :: rest)) :=
  va_get (D := G.1) (ci := 0) (v := .ref (q 21)) (C := RX0) (T := TX0) (N := 6) C.1 C.2.1 C.2.2.2.2.1 (inB inX0) C.2.2.2.1 C.2.2.2.2.2.1 hP 4 rfl rfl 1 (by decide) (C.2.2.2.2.1 _ (List.mem_cons_of_mem _ lk_RX0_11)) (fun _ h9 => h9) rfl hdg kk
theorem lk_RX0_17 : Cond.fieldLink RX0 17 RX0 "linePart" "[I" ∈ TB := tbT 114 (by decide +kernel) rfl
theorem gf_RX0_17 (C : Cx G p s m args meth c cc nL ret k RX0 A) (hP : va_P G.1 vwCl (xW G q σ) H) (hdg : decode cc pc = .ok (.getfield 17, 3)) (kk : W p l e R s m args below meth c H locs cells slots Q (F0 m (pc + 3) ls (.ref (q 15) :: rest))) : W p l e R s m args below meth c H locs cells slots Q (F0 m pc ls (.ref (q 4) :: rest)) :=
  va_get (D := G.1) (ci := 0) (v := .ref (q 15)) (C := RX0) (T := TX0) (N := 6) C.1 C.2.1 C.2.2.2.2.1 (inB inX0) C.2.2.2.1 C.2.2.2.2.2.1 hP 4 rfl rfl 2 (by decide) (C.2.2.2.2.1 _ (List.mem_cons_of_mem _ lk_RX0_17)) (fun _ h9 => h9) rfl hdg kk
theorem lk_RX0_21 : Cond.fieldLink RX0 21 RX0 "lineStep" "[I" ∈ TB := tbT 115 (by decide +kernel) rfl
theorem gf_RX0_21 (C : Cx G p s m args meth c cc nL ret k RX0 A) (hP : va_P G.1 vwCl (xW G q σ) H) (hdg : decode cc pc = .ok (.getfield 21, 3)) (kk : W p l e R s m args below meth c H locs cells slots Q (F0 m (pc + 3) ls (.ref (q 16) :: rest))) : W p l e R s m args below meth c H locs cells slots Q (F0 m pc ls (.ref (q 4) :: rest)) :=
  va_get (D := G.1) (ci := 0) (v := .ref (q 16)) (C := RX0) (T := TX0) (N := 6) C.1 C.2.1 C.2.2.2.2.1 (inB inX0) C.2.2.2.1 C.2.2.2.2.2.1 hP 4 rfl rfl 3 (by decide) (C.2.2.2.2.1 _ (List.mem_cons_of_mem _ lk_RX0_21)) (fun _ h9 => h9) rfl hdg kk
theorem lk_RX0_24 : Cond.fieldLink RX0 24 RX0 "sets" "I" ∈ TB := tbT 116 (by decide +kernel) rfl
theorem gf_RX0_24 (C : Cx G p s m args meth c cc nL ret k RX0 A) (hP : va_P G.1 vwCl (xW G q σ) H) (hdg : decode cc pc = .ok (.getfield 24, 3)) (kk : W p l e R s m args below meth c H locs cells slots Q (F0 m (pc + 3) ls (.int (σ.1 10) :: rest))) : W p l e R s m args below meth c H locs cells slots Q (F0 m pc ls (.ref (q 4) :: rest)) :=
  va_get (D := G.1) (ci := 0) (v := .int (σ.1 10)) (C := RX0) (T := TX0) (N := 6) C.1 C.2.1 C.2.2.2.2.1 (inB inX0) C.2.2.2.1 C.2.2.2.2.2.1 hP 4 rfl rfl 4 (by decide) (C.2.2.2.2.1 _ (List.mem_cons_of_mem _ lk_RX0_24)) (fun _ h9 => h9) rfl hdg kk
theorem lk_RX0_28 : Cond.fieldLink RX0 28 RX0 "lines" "I" ∈ TB := tbT 117 (by decide +kernel) rfl
theorem gf_RX0_28 (C : Cx G p s m args meth c cc nL ret k RX0 A) (hP : va_P G.1 vwCl (xW G q σ) H) (hdg : decode cc pc = .ok (.getfield 28, 3)) (kk : W p l e R s m args below meth c H locs cells slots Q (F0 m (pc + 3) ls (.int (σ.1 11) :: rest))) : W p l e R s m args below meth c H locs cells slots Q (F0 m pc ls (.ref (q 4) :: rest)) :=
  va_get (D := G.1) (ci := 0) (v := .int (σ.1 11)) (C := RX0) (T := TX0) (N := 6) C.1 C.2.1 C.2.2.2.2.1 (inB inX0) C.2.2.2.1 C.2.2.2.2.2.1 hP 4 rfl rfl 5 (by decide) (C.2.2.2.2.1 _ (List.mem_cons_of_mem _ lk_RX0_28)) (fun _ h9 => h9) rfl hdg kk
theorem pf_RX0_28 {v : Int32} (C : Cx G p s m args meth c cc nL ret k RX0 A) (hP : va_P G.1 vwCl (xW G q σ) H) (hD : va_D A (xW G q σ)) (hS : va_S A s.heap H locs) (hdg : decode cc pc = .ok (.putfield 28, 3)) (kk : ∀ (H1 : Heap) (locs1 : List Loc), va_P G.1 vwCl (xW G q (s1 σ 11 v)) H1 → va_D A (xW G q (s1 σ 11 v)) → va_S A s.heap H1 locs1 → W p l e R s m args below meth c H1 locs1 cells slots Q (F0 m (pc + 3) ls rest)) : W p l e R s m args below meth c H locs cells slots Q (F0 m pc ls (.int v :: .ref (q 4) :: rest)) :=
  va_put (D := G.1) (ci := 0) (v := .int v) (ty := .int) (C := RX0) (T := TX0) (N := 6) C.1 C.2.1 C.2.2.2.2.1 (inB inX0) tyX0 tyX0_ok nmX0 C.2.2.2.1 C.2.2.2.2.2.1 hP hD hS 4 rfl rfl 5 (by decide) (C.2.2.2.2.1 _ (List.mem_cons_of_mem _ lk_RX0_28)) (fun _ h9 => h9) rfl (by decide +kernel) rfl rfl (Nat.le_of_ble_eq_true rfl) hdg (fun H1 locs1 hP1 hD1 hS1 => kk H1 locs1 hP1 hD1 hS1)
theorem lk_RX2_9 : Cond.fieldLink RX2 9 RX2 "likelihoods" "[I" ∈ TB := tbT 137 (by decide +kernel) rfl
theorem gf_RX2_9 (C : Cx G p s m args meth c cc nL ret k RX2 A) (hP : va_P G.1 vwCl (xW G q σ) H) (hdg : decode cc pc = .ok (.getfield 9, 3)) (kk : W p l e R s m args below meth c H locs cells slots Q (F0 m (pc + 3) ls (.ref (q 17) :: rest))) : W p l e R s m args below meth c H locs cells slots Q (F0 m pc ls (.ref (q 5) :: rest)) :=
  va_get (D := G.1) (ci := 2) (v := .ref (q 17)) (C := RX2) (T := TX2) (N := 7) C.1 C.2.1 C.2.2.2.2.1 (inB inX2) C.2.2.2.1 C.2.2.2.2.2.1 hP 5 rfl rfl 0 (by decide) (C.2.2.2.2.1 _ (List.mem_cons_of_mem _ lk_RX2_9)) (fun _ h9 => h9) rfl hdg kk
theorem lk_RX2_15 : Cond.fieldLink RX2 15 RX2 "prices" "[I" ∈ TB := tbT 138 (by decide +kernel) rfl
theorem gf_RX2_15 (C : Cx G p s m args meth c cc nL ret k RX2 A) (hP : va_P G.1 vwCl (xW G q σ) H) (hdg : decode cc pc = .ok (.getfield 15, 3)) (kk : W p l e R s m args below meth c H locs cells slots Q (F0 m (pc + 3) ls (.ref (q 18) :: rest))) : W p l e R s m args below meth c H locs cells slots Q (F0 m pc ls (.ref (q 5) :: rest)) :=
  va_get (D := G.1) (ci := 2) (v := .ref (q 18)) (C := RX2) (T := TX2) (N := 7) C.1 C.2.1 C.2.2.2.2.1 (inB inX2) C.2.2.2.1 C.2.2.2.2.2.1 hP 5 rfl rfl 1 (by decide) (C.2.2.2.2.1 _ (List.mem_cons_of_mem _ lk_RX2_15)) (fun _ h9 => h9) rfl hdg kk
theorem lk_RX2_18 : Cond.fieldLink RX2 18 RX2 "giving" "[I" ∈ TB := tbT 139 (by decide +kernel) rfl
theorem gf_RX2_18 (C : Cx G p s m args meth c cc nL ret k RX2 A) (hP : va_P G.1 vwCl (xW G q σ) H) (hdg : decode cc pc = .ok (.getfield 18, 3)) (kk : W p l e R s m args below meth c H locs cells slots Q (F0 m (pc + 3) ls (.ref (q 19) :: rest))) : W p l e R s m args below meth c H locs cells slots Q (F0 m pc ls (.ref (q 5) :: rest)) :=
  va_get (D := G.1) (ci := 2) (v := .ref (q 19)) (C := RX2) (T := TX2) (N := 7) C.1 C.2.1 C.2.2.2.2.1 (inB inX2) C.2.2.2.1 C.2.2.2.2.2.1 hP 5 rfl rfl 2 (by decide) (C.2.2.2.2.1 _ (List.mem_cons_of_mem _ lk_RX2_18)) (fun _ h9 => h9) rfl hdg kk
theorem lk_RX2_21 : Cond.fieldLink RX2 21 RX2 "costOf" "[I" ∈ TB := tbT 140 (by decide +kernel) rfl
theorem gf_RX2_21 (C : Cx G p s m args meth c cc nL ret k RX2 A) (hP : va_P G.1 vwCl (xW G q σ) H) (hdg : decode cc pc = .ok (.getfield 21, 3)) (kk : W p l e R s m args below meth c H locs cells slots Q (F0 m (pc + 3) ls (.ref (q 20) :: rest))) : W p l e R s m args below meth c H locs cells slots Q (F0 m pc ls (.ref (q 5) :: rest)) :=
  va_get (D := G.1) (ci := 2) (v := .ref (q 20)) (C := RX2) (T := TX2) (N := 7) C.1 C.2.1 C.2.2.2.2.1 (inB inX2) C.2.2.2.1 C.2.2.2.2.2.1 hP 5 rfl rfl 3 (by decide) (C.2.2.2.2.1 _ (List.mem_cons_of_mem _ lk_RX2_21)) (fun _ h9 => h9) rfl hdg kk
theorem lk_RX2_24 : Cond.fieldLink RX2 24 RX2 "faults" "I" ∈ TB := tbT 141 (by decide +kernel) rfl
theorem gf_RX2_24 (C : Cx G p s m args meth c cc nL ret k RX2 A) (hP : va_P G.1 vwCl (xW G q σ) H) (hdg : decode cc pc = .ok (.getfield 24, 3)) (kk : W p l e R s m args below meth c H locs cells slots Q (F0 m (pc + 3) ls (.int (σ.1 12) :: rest))) : W p l e R s m args below meth c H locs cells slots Q (F0 m pc ls (.ref (q 5) :: rest)) :=
  va_get (D := G.1) (ci := 2) (v := .int (σ.1 12)) (C := RX2) (T := TX2) (N := 7) C.1 C.2.1 C.2.2.2.2.1 (inB inX2) C.2.2.2.1 C.2.2.2.2.2.1 hP 5 rfl rfl 4 (by decide) (C.2.2.2.2.1 _ (List.mem_cons_of_mem _ lk_RX2_24)) (fun _ h9 => h9) rfl hdg kk
theorem pf_RX2_24 {v : Int32} (C : Cx G p s m args meth c cc nL ret k RX2 A) (hP : va_P G.1 vwCl (xW G q σ) H) (hD : va_D A (xW G q σ)) (hS : va_S A s.heap H locs) (hdg : decode cc pc = .ok (.putfield 24, 3)) (kk : ∀ (H1 : Heap) (locs1 : List Loc), va_P G.1 vwCl (xW G q (s1 σ 12 v)) H1 → va_D A (xW G q (s1 σ 12 v)) → va_S A s.heap H1 locs1 → W p l e R s m args below meth c H1 locs1 cells slots Q (F0 m (pc + 3) ls rest)) : W p l e R s m args below meth c H locs cells slots Q (F0 m pc ls (.int v :: .ref (q 5) :: rest)) :=
  va_put (D := G.1) (ci := 2) (v := .int v) (ty := .int) (C := RX2) (T := TX2) (N := 7) C.1 C.2.1 C.2.2.2.2.1 (inB inX2) tyX2 tyX2_ok nmX2 C.2.2.2.1 C.2.2.2.2.2.1 hP hD hS 5 rfl rfl 4 (by decide) (C.2.2.2.2.1 _ (List.mem_cons_of_mem _ lk_RX2_24)) (fun _ h9 => h9) rfl (by decide +kernel) rfl rfl (Nat.le_of_ble_eq_true rfl) hdg (fun H1 locs1 hP1 hD1 hS1 => kk H1 locs1 hP1 hD1 hS1)
theorem lk_RX2_28 : Cond.fieldLink RX2 28 RX2 "tests" "I" ∈ TB := tbT 142 (by decide +kernel) rfl
theorem gf_RX2_28 (C : Cx G p s m args meth c cc nL ret k RX2 A) (hP : va_P G.1 vwCl (xW G q σ) H) (hdg : decode cc pc = .ok (.getfield 28, 3)) (kk : W p l e R s m args below meth c H locs cells slots Q (F0 m (pc + 3) ls (.int (σ.1 13) :: rest))) : W p l e R s m args below meth c H locs cells slots Q (F0 m pc ls (.ref (q 5) :: rest)) :=
  va_get (D := G.1) (ci := 2) (v := .int (σ.1 13)) (C := RX2) (T := TX2) (N := 7) C.1 C.2.1 C.2.2.2.2.1 (inB inX2) C.2.2.2.1 C.2.2.2.2.2.1 hP 5 rfl rfl 5 (by decide) (C.2.2.2.2.1 _ (List.mem_cons_of_mem _ lk_RX2_28)) (fun _ h9 => h9) rfl hdg kk
theorem pf_RX2_28 {v : Int32} (C : Cx G p s m args meth c cc nL ret k RX2 A) (hP : va_P G.1 vwCl (xW G q σ) H) (hD : va_D A (xW G q σ)) (hS : va_S A s.heap H locs) (hdg : decode cc pc = .ok (.putfield 28, 3)) (kk : ∀ (H1 : Heap) (locs1 : List Loc), va_P G.1 vwCl (xW G q (s1 σ 13 v)) H1 → va_D A (xW G q (s1 σ 13 v)) → va_S A s.heap H1 locs1 → W p l e R s m args below meth c H1 locs1 cells slots Q (F0 m (pc + 3) ls rest)) : W p l e R s m args below meth c H locs cells slots Q (F0 m pc ls (.int v :: .ref (q 5) :: rest)) :=
  va_put (D := G.1) (ci := 2) (v := .int v) (ty := .int) (C := RX2) (T := TX2) (N := 7) C.1 C.2.1 C.2.2.2.2.1 (inB inX2) tyX2 tyX2_ok nmX2 C.2.2.2.1 C.2.2.2.2.2.1 hP hD hS 5 rfl rfl 5 (by decide) (C.2.2.2.2.1 _ (List.mem_cons_of_mem _ lk_RX2_28)) (fun _ h9 => h9) rfl (by decide +kernel) rfl rfl (Nat.le_of_ble_eq_true rfl) hdg (fun H1 locs1 hP1 hD1 hS1 => kk H1 locs1 hP1 hD1 hS1)
theorem lk_RX2_31 : Cond.fieldLink RX2 31 RX2 "remaining" "I" ∈ TB := tbT 143 (by decide +kernel) rfl
theorem gf_RX2_31 (C : Cx G p s m args meth c cc nL ret k RX2 A) (hP : va_P G.1 vwCl (xW G q σ) H) (hdg : decode cc pc = .ok (.getfield 31, 3)) (kk : W p l e R s m args below meth c H locs cells slots Q (F0 m (pc + 3) ls (.int (σ.1 14) :: rest))) : W p l e R s m args below meth c H locs cells slots Q (F0 m pc ls (.ref (q 5) :: rest)) :=
  va_get (D := G.1) (ci := 2) (v := .int (σ.1 14)) (C := RX2) (T := TX2) (N := 7) C.1 C.2.1 C.2.2.2.2.1 (inB inX2) C.2.2.2.1 C.2.2.2.2.2.1 hP 5 rfl rfl 6 (by decide) (C.2.2.2.2.1 _ (List.mem_cons_of_mem _ lk_RX2_31)) (fun _ h9 => h9) rfl hdg kk
theorem pf_RX2_31 {v : Int32} (C : Cx G p s m args meth c cc nL ret k RX2 A) (hP : va_P G.1 vwCl (xW G q σ) H) (hD : va_D A (xW G q σ)) (hS : va_S A s.heap H locs) (hdg : decode cc pc = .ok (.putfield 31, 3)) (kk : ∀ (H1 : Heap) (locs1 : List Loc), va_P G.1 vwCl (xW G q (s1 σ 14 v)) H1 → va_D A (xW G q (s1 σ 14 v)) → va_S A s.heap H1 locs1 → W p l e R s m args below meth c H1 locs1 cells slots Q (F0 m (pc + 3) ls rest)) : W p l e R s m args below meth c H locs cells slots Q (F0 m pc ls (.int v :: .ref (q 5) :: rest)) :=
  va_put (D := G.1) (ci := 2) (v := .int v) (ty := .int) (C := RX2) (T := TX2) (N := 7) C.1 C.2.1 C.2.2.2.2.1 (inB inX2) tyX2 tyX2_ok nmX2 C.2.2.2.1 C.2.2.2.2.2.1 hP hD hS 5 rfl rfl 6 (by decide) (C.2.2.2.2.1 _ (List.mem_cons_of_mem _ lk_RX2_31)) (fun _ h9 => h9) rfl (by decide +kernel) rfl rfl (Nat.le_of_ble_eq_true rfl) hdg (fun H1 locs1 hP1 hD1 hS1 => kk H1 locs1 hP1 hD1 hS1)
theorem lk_RX6_12 : Cond.fieldLink RX6 12 RX6 "dial" "LRadioRoom$Dial;" ∈ TB := tbT 159 (by decide +kernel) rfl
theorem gf_RX6_12 (C : Cx G p s m args meth c cc nL ret k RX6 A) (hP : va_P G.1 vwCl (xW G q σ) H) (hdg : decode cc pc = .ok (.getfield 12, 3)) (kk : W p l e R s m args below meth c H locs cells slots Q (F0 m (pc + 3) ls (.ref (q 1) :: rest))) : W p l e R s m args below meth c H locs cells slots Q (F0 m pc ls (.ref (q 0) :: rest)) :=
  va_get (D := G.1) (ci := 6) (v := .ref (q 1)) (C := RX6) (T := TX6) (N := 4) C.1 C.2.1 C.2.2.2.2.1 (inB inX6) C.2.2.2.1 C.2.2.2.2.2.1 hP 0 rfl rfl 0 (by decide) (C.2.2.2.2.1 _ (List.mem_cons_of_mem _ lk_RX6_12)) (fun _ h9 => h9) rfl hdg kk
theorem lk_RX6_21 : Cond.fieldLink RX6 21 RX6 "tracking" "LRadioRoom$Tracking;" ∈ TB := tbT 160 (by decide +kernel) rfl
theorem gf_RX6_21 (C : Cx G p s m args meth c cc nL ret k RX6 A) (hP : va_P G.1 vwCl (xW G q σ) H) (hdg : decode cc pc = .ok (.getfield 21, 3)) (kk : W p l e R s m args below meth c H locs cells slots Q (F0 m (pc + 3) ls (.ref (q 3) :: rest))) : W p l e R s m args below meth c H locs cells slots Q (F0 m pc ls (.ref (q 0) :: rest)) :=
  va_get (D := G.1) (ci := 6) (v := .ref (q 3)) (C := RX6) (T := TX6) (N := 4) C.1 C.2.1 C.2.2.2.2.1 (inB inX6) C.2.2.2.1 C.2.2.2.2.2.1 hP 0 rfl rfl 1 (by decide) (C.2.2.2.2.1 _ (List.mem_cons_of_mem _ lk_RX6_21)) (fun _ h9 => h9) rfl hdg kk
theorem lk_RX6_30 : Cond.fieldLink RX6 30 RX6 "bench" "LRadioRoom$Bench;" ∈ TB := tbT 161 (by decide +kernel) rfl
theorem gf_RX6_30 (C : Cx G p s m args meth c cc nL ret k RX6 A) (hP : va_P G.1 vwCl (xW G q σ) H) (hdg : decode cc pc = .ok (.getfield 30, 3)) (kk : W p l e R s m args below meth c H locs cells slots Q (F0 m (pc + 3) ls (.ref (q 4) :: rest))) : W p l e R s m args below meth c H locs cells slots Q (F0 m pc ls (.ref (q 0) :: rest)) :=
  va_get (D := G.1) (ci := 6) (v := .ref (q 4)) (C := RX6) (T := TX6) (N := 4) C.1 C.2.1 C.2.2.2.2.1 (inB inX6) C.2.2.2.1 C.2.2.2.2.2.1 hP 0 rfl rfl 2 (by decide) (C.2.2.2.2.1 _ (List.mem_cons_of_mem _ lk_RX6_30)) (fun _ h9 => h9) rfl hdg kk
theorem lk_RX6_37 : Cond.fieldLink RX6 37 RX6 "faultBook" "LRadioRoom$FaultBook;" ∈ TB := tbT 162 (by decide +kernel) rfl
theorem gf_RX6_37 (C : Cx G p s m args meth c cc nL ret k RX6 A) (hP : va_P G.1 vwCl (xW G q σ) H) (hdg : decode cc pc = .ok (.getfield 37, 3)) (kk : W p l e R s m args below meth c H locs cells slots Q (F0 m (pc + 3) ls (.ref (q 5) :: rest))) : W p l e R s m args below meth c H locs cells slots Q (F0 m pc ls (.ref (q 0) :: rest)) :=
  va_get (D := G.1) (ci := 6) (v := .ref (q 5)) (C := RX6) (T := TX6) (N := 4) C.1 C.2.1 C.2.2.2.2.1 (inB inX6) C.2.2.2.1 C.2.2.2.2.2.1 hP 0 rfl rfl 3 (by decide) (C.2.2.2.2.1 _ (List.mem_cons_of_mem _ lk_RX6_37)) (fun _ h9 => h9) rfl hdg kk
theorem lk_RX7_9 : Cond.fieldLink RX7 9 RX7 "frequency" "[I" ∈ TB := tbT 695 (by decide +kernel) rfl
theorem gf_RX7_9 (C : Cx G p s m args meth c cc nL ret k RX7 A) (hP : va_P G.1 vwCl (mW G q σ) H) (hdg : decode cc pc = .ok (.getfield 9, 3)) (kk : W p l e R s m args below meth c H locs cells slots Q (F0 m (pc + 3) ls (.ref (q 1) :: rest))) : W p l e R s m args below meth c H locs cells slots Q (F0 m pc ls (.ref (q 0) :: rest)) :=
  va_get (D := G.1) (ci := 7) (v := .ref (q 1)) (C := RX7) (T := TX7) (N := 31) C.1 C.2.1 C.2.2.2.2.1 (inB inX7) C.2.2.2.1 C.2.2.2.2.2.1 hP 0 rfl rfl 0 (by decide) (C.2.2.2.2.1 _ (List.mem_cons_of_mem _ lk_RX7_9)) (fun _ h9 => h9) rfl hdg kk
theorem lk_RX7_13 : Cond.fieldLink RX7 13 RX7 "strength" "[I" ∈ TB := tbT 696 (by decide +kernel) rfl
theorem gf_RX7_13 (C : Cx G p s m args meth c cc nL ret k RX7 A) (hP : va_P G.1 vwCl (mW G q σ) H) (hdg : decode cc pc = .ok (.getfield 13, 3)) (kk : W p l e R s m args below meth c H locs cells slots Q (F0 m (pc + 3) ls (.ref (q 2) :: rest))) : W p l e R s m args below meth c H locs cells slots Q (F0 m pc ls (.ref (q 0) :: rest)) :=
  va_get (D := G.1) (ci := 7) (v := .ref (q 2)) (C := RX7) (T := TX7) (N := 31) C.1 C.2.1 C.2.2.2.2.1 (inB inX7) C.2.2.2.1 C.2.2.2.2.2.1 hP 0 rfl rfl 1 (by decide) (C.2.2.2.2.1 _ (List.mem_cons_of_mem _ lk_RX7_13)) (fun _ h9 => h9) rfl hdg kk
theorem lk_RX7_72 : Cond.fieldLink RX7 72 RX7 "stations" "I" ∈ TB := tbT 697 (by decide +kernel) rfl
theorem gf_RX7_72 (C : Cx G p s m args meth c cc nL ret k RX7 A) (hP : va_P G.1 vwCl (mW G q σ) H) (hdg : decode cc pc = .ok (.getfield 72, 3)) (kk : W p l e R s m args below meth c H locs cells slots Q (F0 m (pc + 3) ls (.int (σ.1 0) :: rest))) : W p l e R s m args below meth c H locs cells slots Q (F0 m pc ls (.ref (q 0) :: rest)) :=
  va_get (D := G.1) (ci := 7) (v := .int (σ.1 0)) (C := RX7) (T := TX7) (N := 31) C.1 C.2.1 C.2.2.2.2.1 (inB inX7) C.2.2.2.1 C.2.2.2.2.2.1 hP 0 rfl rfl 2 (by decide) (C.2.2.2.2.1 _ (List.mem_cons_of_mem _ lk_RX7_72)) (fun _ h9 => h9) rfl hdg kk
theorem pf_RX7_72 {v : Int32} (C : Cx G p s m args meth c cc nL ret k RX7 A) (hP : va_P G.1 vwCl (mW G q σ) H) (hD : va_D A (mW G q σ)) (hS : va_S A s.heap H locs) (hdg : decode cc pc = .ok (.putfield 72, 3)) (kk : ∀ (H1 : Heap) (locs1 : List Loc), va_P G.1 vwCl (mW G q (s1 σ 0 v)) H1 → va_D A (mW G q (s1 σ 0 v)) → va_S A s.heap H1 locs1 → W p l e R s m args below meth c H1 locs1 cells slots Q (F0 m (pc + 3) ls rest)) : W p l e R s m args below meth c H locs cells slots Q (F0 m pc ls (.int v :: .ref (q 0) :: rest)) :=
  va_put (D := G.1) (ci := 7) (v := .int v) (ty := .int) (C := RX7) (T := TX7) (N := 31) C.1 C.2.1 C.2.2.2.2.1 (inB inX7) tyX7 tyX7_ok nmX7 C.2.2.2.1 C.2.2.2.2.2.1 hP hD hS 0 rfl rfl 2 (by decide) (C.2.2.2.2.1 _ (List.mem_cons_of_mem _ lk_RX7_72)) (fun _ h9 => h9) rfl (by decide +kernel) rfl rfl (Nat.le_of_ble_eq_true rfl) hdg (fun H1 locs1 hP1 hD1 hS1 => kk H1 locs1 hP1 hD1 hS1)
theorem lk_RX7_16 : Cond.fieldLink RX7 16 RX7 "middle" "I" ∈ TB := tbT 698 (by decide +kernel) rfl
theorem gf_RX7_16 (C : Cx G p s m args meth c cc nL ret k RX7 A) (hP : va_P G.1 vwCl (mW G q σ) H) (hdg : decode cc pc = .ok (.getfield 16, 3)) (kk : W p l e R s m args below meth c H locs cells slots Q (F0 m (pc + 3) ls (.int (σ.1 1) :: rest))) : W p l e R s m args below meth c H locs cells slots Q (F0 m pc ls (.ref (q 0) :: rest)) :=
  va_get (D := G.1) (ci := 7) (v := .int (σ.1 1)) (C := RX7) (T := TX7) (N := 31) C.1 C.2.1 C.2.2.2.2.1 (inB inX7) C.2.2.2.1 C.2.2.2.2.2.1 hP 0 rfl rfl 3 (by decide) (C.2.2.2.2.1 _ (List.mem_cons_of_mem _ lk_RX7_16)) (fun _ h9 => h9) rfl hdg kk
theorem pf_RX7_16 {v : Int32} (C : Cx G p s m args meth c cc nL ret k RX7 A) (hP : va_P G.1 vwCl (mW G q σ) H) (hD : va_D A (mW G q σ)) (hS : va_S A s.heap H locs) (hdg : decode cc pc = .ok (.putfield 16, 3)) (kk : ∀ (H1 : Heap) (locs1 : List Loc), va_P G.1 vwCl (mW G q (s1 σ 1 v)) H1 → va_D A (mW G q (s1 σ 1 v)) → va_S A s.heap H1 locs1 → W p l e R s m args below meth c H1 locs1 cells slots Q (F0 m (pc + 3) ls rest)) : W p l e R s m args below meth c H locs cells slots Q (F0 m pc ls (.int v :: .ref (q 0) :: rest)) :=
  va_put (D := G.1) (ci := 7) (v := .int v) (ty := .int) (C := RX7) (T := TX7) (N := 31) C.1 C.2.1 C.2.2.2.2.1 (inB inX7) tyX7 tyX7_ok nmX7 C.2.2.2.1 C.2.2.2.2.2.1 hP hD hS 0 rfl rfl 3 (by decide) (C.2.2.2.2.1 _ (List.mem_cons_of_mem _ lk_RX7_16)) (fun _ h9 => h9) rfl (by decide +kernel) rfl rfl (Nat.le_of_ble_eq_true rfl) hdg (fun H1 locs1 hP1 hD1 hS1 => kk H1 locs1 hP1 hD1 hS1)
theorem lk_RX7_20 : Cond.fieldLink RX7 20 RX7 "over" "I" ∈ TB := tbT 699 (by decide +kernel) rfl
theorem gf_RX7_20 (C : Cx G p s m args meth c cc nL ret k RX7 A) (hP : va_P G.1 vwCl (mW G q σ) H) (hdg : decode cc pc = .ok (.getfield 20, 3)) (kk : W p l e R s m args below meth c H locs cells slots Q (F0 m (pc + 3) ls (.int (σ.1 2) :: rest))) : W p l e R s m args below meth c H locs cells slots Q (F0 m pc ls (.ref (q 0) :: rest)) :=
  va_get (D := G.1) (ci := 7) (v := .int (σ.1 2)) (C := RX7) (T := TX7) (N := 31) C.1 C.2.1 C.2.2.2.2.1 (inB inX7) C.2.2.2.1 C.2.2.2.2.2.1 hP 0 rfl rfl 4 (by decide) (C.2.2.2.2.1 _ (List.mem_cons_of_mem _ lk_RX7_20)) (fun _ h9 => h9) rfl hdg kk
theorem pf_RX7_20 {v : Int32} (C : Cx G p s m args meth c cc nL ret k RX7 A) (hP : va_P G.1 vwCl (mW G q σ) H) (hD : va_D A (mW G q σ)) (hS : va_S A s.heap H locs) (hdg : decode cc pc = .ok (.putfield 20, 3)) (kk : ∀ (H1 : Heap) (locs1 : List Loc), va_P G.1 vwCl (mW G q (s1 σ 2 v)) H1 → va_D A (mW G q (s1 σ 2 v)) → va_S A s.heap H1 locs1 → W p l e R s m args below meth c H1 locs1 cells slots Q (F0 m (pc + 3) ls rest)) : W p l e R s m args below meth c H locs cells slots Q (F0 m pc ls (.int v :: .ref (q 0) :: rest)) :=
  va_put (D := G.1) (ci := 7) (v := .int v) (ty := .int) (C := RX7) (T := TX7) (N := 31) C.1 C.2.1 C.2.2.2.2.1 (inB inX7) tyX7 tyX7_ok nmX7 C.2.2.2.1 C.2.2.2.2.2.1 hP hD hS 0 rfl rfl 4 (by decide) (C.2.2.2.2.1 _ (List.mem_cons_of_mem _ lk_RX7_20)) (fun _ h9 => h9) rfl (by decide +kernel) rfl rfl (Nat.le_of_ble_eq_true rfl) hdg (fun H1 locs1 hP1 hD1 hS1 => kk H1 locs1 hP1 hD1 hS1)
theorem lk_RX7_23 : Cond.fieldLink RX7 23 RX7 "order" "I" ∈ TB := tbT 700 (by decide +kernel) rfl
theorem gf_RX7_23 (C : Cx G p s m args meth c cc nL ret k RX7 A) (hP : va_P G.1 vwCl (mW G q σ) H) (hdg : decode cc pc = .ok (.getfield 23, 3)) (kk : W p l e R s m args below meth c H locs cells slots Q (F0 m (pc + 3) ls (.int (σ.1 3) :: rest))) : W p l e R s m args below meth c H locs cells slots Q (F0 m pc ls (.ref (q 0) :: rest)) :=
  va_get (D := G.1) (ci := 7) (v := .int (σ.1 3)) (C := RX7) (T := TX7) (N := 31) C.1 C.2.1 C.2.2.2.2.1 (inB inX7) C.2.2.2.1 C.2.2.2.2.2.1 hP 0 rfl rfl 5 (by decide) (C.2.2.2.2.1 _ (List.mem_cons_of_mem _ lk_RX7_23)) (fun _ h9 => h9) rfl hdg kk
theorem pf_RX7_23 {v : Int32} (C : Cx G p s m args meth c cc nL ret k RX7 A) (hP : va_P G.1 vwCl (mW G q σ) H) (hD : va_D A (mW G q σ)) (hS : va_S A s.heap H locs) (hdg : decode cc pc = .ok (.putfield 23, 3)) (kk : ∀ (H1 : Heap) (locs1 : List Loc), va_P G.1 vwCl (mW G q (s1 σ 3 v)) H1 → va_D A (mW G q (s1 σ 3 v)) → va_S A s.heap H1 locs1 → W p l e R s m args below meth c H1 locs1 cells slots Q (F0 m (pc + 3) ls rest)) : W p l e R s m args below meth c H locs cells slots Q (F0 m pc ls (.int v :: .ref (q 0) :: rest)) :=
  va_put (D := G.1) (ci := 7) (v := .int v) (ty := .int) (C := RX7) (T := TX7) (N := 31) C.1 C.2.1 C.2.2.2.2.1 (inB inX7) tyX7 tyX7_ok nmX7 C.2.2.2.1 C.2.2.2.2.2.1 hP hD hS 0 rfl rfl 5 (by decide) (C.2.2.2.2.1 _ (List.mem_cons_of_mem _ lk_RX7_23)) (fun _ h9 => h9) rfl (by decide +kernel) rfl rfl (Nat.le_of_ble_eq_true rfl) hdg (fun H1 locs1 hP1 hD1 hS1 => kk H1 locs1 hP1 hD1 hS1)
theorem lk_RX7_26 : Cond.fieldLink RX7 26 RX7 "pass" "I" ∈ TB := tbT 701 (by decide +kernel) rfl
theorem gf_RX7_26 (C : Cx G p s m args meth c cc nL ret k RX7 A) (hP : va_P G.1 vwCl (mW G q σ) H) (hdg : decode cc pc = .ok (.getfield 26, 3)) (kk : W p l e R s m args below meth c H locs cells slots Q (F0 m (pc + 3) ls (.int (σ.1 4) :: rest))) : W p l e R s m args below meth c H locs cells slots Q (F0 m pc ls (.ref (q 0) :: rest)) :=
  va_get (D := G.1) (ci := 7) (v := .int (σ.1 4)) (C := RX7) (T := TX7) (N := 31) C.1 C.2.1 C.2.2.2.2.1 (inB inX7) C.2.2.2.1 C.2.2.2.2.2.1 hP 0 rfl rfl 6 (by decide) (C.2.2.2.2.1 _ (List.mem_cons_of_mem _ lk_RX7_26)) (fun _ h9 => h9) rfl hdg kk
theorem pf_RX7_26 {v : Int32} (C : Cx G p s m args meth c cc nL ret k RX7 A) (hP : va_P G.1 vwCl (mW G q σ) H) (hD : va_D A (mW G q σ)) (hS : va_S A s.heap H locs) (hdg : decode cc pc = .ok (.putfield 26, 3)) (kk : ∀ (H1 : Heap) (locs1 : List Loc), va_P G.1 vwCl (mW G q (s1 σ 4 v)) H1 → va_D A (mW G q (s1 σ 4 v)) → va_S A s.heap H1 locs1 → W p l e R s m args below meth c H1 locs1 cells slots Q (F0 m (pc + 3) ls rest)) : W p l e R s m args below meth c H locs cells slots Q (F0 m pc ls (.int v :: .ref (q 0) :: rest)) :=
  va_put (D := G.1) (ci := 7) (v := .int v) (ty := .int) (C := RX7) (T := TX7) (N := 31) C.1 C.2.1 C.2.2.2.2.1 (inB inX7) tyX7 tyX7_ok nmX7 C.2.2.2.1 C.2.2.2.2.2.1 hP hD hS 0 rfl rfl 6 (by decide) (C.2.2.2.2.1 _ (List.mem_cons_of_mem _ lk_RX7_26)) (fun _ h9 => h9) rfl (by decide +kernel) rfl rfl (Nat.le_of_ble_eq_true rfl) hdg (fun H1 locs1 hP1 hD1 hS1 => kk H1 locs1 hP1 hD1 hS1)
theorem lk_RX7_29 : Cond.fieldLink RX7 29 RX7 "low" "I" ∈ TB := tbT 702 (by decide +kernel) rfl
theorem gf_RX7_29 (C : Cx G p s m args meth c cc nL ret k RX7 A) (hP : va_P G.1 vwCl (mW G q σ) H) (hdg : decode cc pc = .ok (.getfield 29, 3)) (kk : W p l e R s m args below meth c H locs cells slots Q (F0 m (pc + 3) ls (.int (σ.1 5) :: rest))) : W p l e R s m args below meth c H locs cells slots Q (F0 m pc ls (.ref (q 0) :: rest)) :=
  va_get (D := G.1) (ci := 7) (v := .int (σ.1 5)) (C := RX7) (T := TX7) (N := 31) C.1 C.2.1 C.2.2.2.2.1 (inB inX7) C.2.2.2.1 C.2.2.2.2.2.1 hP 0 rfl rfl 7 (by decide) (C.2.2.2.2.1 _ (List.mem_cons_of_mem _ lk_RX7_29)) (fun _ h9 => h9) rfl hdg kk
theorem pf_RX7_29 {v : Int32} (C : Cx G p s m args meth c cc nL ret k RX7 A) (hP : va_P G.1 vwCl (mW G q σ) H) (hD : va_D A (mW G q σ)) (hS : va_S A s.heap H locs) (hdg : decode cc pc = .ok (.putfield 29, 3)) (kk : ∀ (H1 : Heap) (locs1 : List Loc), va_P G.1 vwCl (mW G q (s1 σ 5 v)) H1 → va_D A (mW G q (s1 σ 5 v)) → va_S A s.heap H1 locs1 → W p l e R s m args below meth c H1 locs1 cells slots Q (F0 m (pc + 3) ls rest)) : W p l e R s m args below meth c H locs cells slots Q (F0 m pc ls (.int v :: .ref (q 0) :: rest)) :=
  va_put (D := G.1) (ci := 7) (v := .int v) (ty := .int) (C := RX7) (T := TX7) (N := 31) C.1 C.2.1 C.2.2.2.2.1 (inB inX7) tyX7 tyX7_ok nmX7 C.2.2.2.1 C.2.2.2.2.2.1 hP hD hS 0 rfl rfl 7 (by decide) (C.2.2.2.2.1 _ (List.mem_cons_of_mem _ lk_RX7_29)) (fun _ h9 => h9) rfl (by decide +kernel) rfl rfl (Nat.le_of_ble_eq_true rfl) hdg (fun H1 locs1 hP1 hD1 hS1 => kk H1 locs1 hP1 hD1 hS1)
theorem lk_RX7_32 : Cond.fieldLink RX7 32 RX7 "high" "I" ∈ TB := tbT 703 (by decide +kernel) rfl
theorem gf_RX7_32 (C : Cx G p s m args meth c cc nL ret k RX7 A) (hP : va_P G.1 vwCl (mW G q σ) H) (hdg : decode cc pc = .ok (.getfield 32, 3)) (kk : W p l e R s m args below meth c H locs cells slots Q (F0 m (pc + 3) ls (.int (σ.1 6) :: rest))) : W p l e R s m args below meth c H locs cells slots Q (F0 m pc ls (.ref (q 0) :: rest)) :=
  va_get (D := G.1) (ci := 7) (v := .int (σ.1 6)) (C := RX7) (T := TX7) (N := 31) C.1 C.2.1 C.2.2.2.2.1 (inB inX7) C.2.2.2.1 C.2.2.2.2.2.1 hP 0 rfl rfl 8 (by decide) (C.2.2.2.2.1 _ (List.mem_cons_of_mem _ lk_RX7_32)) (fun _ h9 => h9) rfl hdg kk
theorem pf_RX7_32 {v : Int32} (C : Cx G p s m args meth c cc nL ret k RX7 A) (hP : va_P G.1 vwCl (mW G q σ) H) (hD : va_D A (mW G q σ)) (hS : va_S A s.heap H locs) (hdg : decode cc pc = .ok (.putfield 32, 3)) (kk : ∀ (H1 : Heap) (locs1 : List Loc), va_P G.1 vwCl (mW G q (s1 σ 6 v)) H1 → va_D A (mW G q (s1 σ 6 v)) → va_S A s.heap H1 locs1 → W p l e R s m args below meth c H1 locs1 cells slots Q (F0 m (pc + 3) ls rest)) : W p l e R s m args below meth c H locs cells slots Q (F0 m pc ls (.int v :: .ref (q 0) :: rest)) :=
  va_put (D := G.1) (ci := 7) (v := .int v) (ty := .int) (C := RX7) (T := TX7) (N := 31) C.1 C.2.1 C.2.2.2.2.1 (inB inX7) tyX7 tyX7_ok nmX7 C.2.2.2.1 C.2.2.2.2.2.1 hP hD hS 0 rfl rfl 8 (by decide) (C.2.2.2.2.1 _ (List.mem_cons_of_mem _ lk_RX7_32)) (fun _ h9 => h9) rfl (by decide +kernel) rfl rfl (Nat.le_of_ble_eq_true rfl) hdg (fun H1 locs1 hP1 hD1 hS1 => kk H1 locs1 hP1 hD1 hS1)
theorem lk_RX7_35 : Cond.fieldLink RX7 35 RX7 "part" "[I" ∈ TB := tbT 704 (by decide +kernel) rfl
theorem gf_RX7_35 (C : Cx G p s m args meth c cc nL ret k RX7 A) (hP : va_P G.1 vwCl (mW G q σ) H) (hdg : decode cc pc = .ok (.getfield 35, 3)) (kk : W p l e R s m args below meth c H locs cells slots Q (F0 m (pc + 3) ls (.ref (q 3) :: rest))) : W p l e R s m args below meth c H locs cells slots Q (F0 m pc ls (.ref (q 0) :: rest)) :=
  va_get (D := G.1) (ci := 7) (v := .ref (q 3)) (C := RX7) (T := TX7) (N := 31) C.1 C.2.1 C.2.2.2.2.1 (inB inX7) C.2.2.2.1 C.2.2.2.2.2.1 hP 0 rfl rfl 9 (by decide) (C.2.2.2.2.1 _ (List.mem_cons_of_mem _ lk_RX7_35)) (fun _ h9 => h9) rfl hdg kk
theorem lk_RX7_38 : Cond.fieldLink RX7 38 RX7 "points" "[I" ∈ TB := tbT 705 (by decide +kernel) rfl
theorem gf_RX7_38 (C : Cx G p s m args meth c cc nL ret k RX7 A) (hP : va_P G.1 vwCl (mW G q σ) H) (hdg : decode cc pc = .ok (.getfield 38, 3)) (kk : W p l e R s m args below meth c H locs cells slots Q (F0 m (pc + 3) ls (.ref (q 4) :: rest))) : W p l e R s m args below meth c H locs cells slots Q (F0 m pc ls (.ref (q 0) :: rest)) :=
  va_get (D := G.1) (ci := 7) (v := .ref (q 4)) (C := RX7) (T := TX7) (N := 31) C.1 C.2.1 C.2.2.2.2.1 (inB inX7) C.2.2.2.1 C.2.2.2.2.2.1 hP 0 rfl rfl 10 (by decide) (C.2.2.2.2.1 _ (List.mem_cons_of_mem _ lk_RX7_38)) (fun _ h9 => h9) rfl hdg kk
theorem lk_RX7_162 : Cond.fieldLink RX7 162 RX7 "pointMany" "I" ∈ TB := tbT 706 (by decide +kernel) rfl
theorem gf_RX7_162 (C : Cx G p s m args meth c cc nL ret k RX7 A) (hP : va_P G.1 vwCl (mW G q σ) H) (hdg : decode cc pc = .ok (.getfield 162, 3)) (kk : W p l e R s m args below meth c H locs cells slots Q (F0 m (pc + 3) ls (.int (σ.1 7) :: rest))) : W p l e R s m args below meth c H locs cells slots Q (F0 m pc ls (.ref (q 0) :: rest)) :=
  va_get (D := G.1) (ci := 7) (v := .int (σ.1 7)) (C := RX7) (T := TX7) (N := 31) C.1 C.2.1 C.2.2.2.2.1 (inB inX7) C.2.2.2.1 C.2.2.2.2.2.1 hP 0 rfl rfl 11 (by decide) (C.2.2.2.2.1 _ (List.mem_cons_of_mem _ lk_RX7_162)) (fun _ h9 => h9) rfl hdg kk
theorem pf_RX7_162 {v : Int32} (C : Cx G p s m args meth c cc nL ret k RX7 A) (hP : va_P G.1 vwCl (mW G q σ) H) (hD : va_D A (mW G q σ)) (hS : va_S A s.heap H locs) (hdg : decode cc pc = .ok (.putfield 162, 3)) (kk : ∀ (H1 : Heap) (locs1 : List Loc), va_P G.1 vwCl (mW G q (s1 σ 7 v)) H1 → va_D A (mW G q (s1 σ 7 v)) → va_S A s.heap H1 locs1 → W p l e R s m args below meth c H1 locs1 cells slots Q (F0 m (pc + 3) ls rest)) : W p l e R s m args below meth c H locs cells slots Q (F0 m pc ls (.int v :: .ref (q 0) :: rest)) :=
  va_put (D := G.1) (ci := 7) (v := .int v) (ty := .int) (C := RX7) (T := TX7) (N := 31) C.1 C.2.1 C.2.2.2.2.1 (inB inX7) tyX7 tyX7_ok nmX7 C.2.2.2.1 C.2.2.2.2.2.1 hP hD hS 0 rfl rfl 11 (by decide) (C.2.2.2.2.1 _ (List.mem_cons_of_mem _ lk_RX7_162)) (fun _ h9 => h9) rfl (by decide +kernel) rfl rfl (Nat.le_of_ble_eq_true rfl) hdg (fun H1 locs1 hP1 hD1 hS1 => kk H1 locs1 hP1 hD1 hS1)
theorem lk_RX7_41 : Cond.fieldLink RX7 41 RX7 "built" "[I" ∈ TB := tbT 707 (by decide +kernel) rfl
theorem gf_RX7_41 (C : Cx G p s m args meth c cc nL ret k RX7 A) (hP : va_P G.1 vwCl (mW G q σ) H) (hdg : decode cc pc = .ok (.getfield 41, 3)) (kk : W p l e R s m args below meth c H locs cells slots Q (F0 m (pc + 3) ls (.ref (q 5) :: rest))) : W p l e R s m args below meth c H locs cells slots Q (F0 m pc ls (.ref (q 0) :: rest)) :=
  va_get (D := G.1) (ci := 7) (v := .ref (q 5)) (C := RX7) (T := TX7) (N := 31) C.1 C.2.1 C.2.2.2.2.1 (inB inX7) C.2.2.2.1 C.2.2.2.2.2.1 hP 0 rfl rfl 12 (by decide) (C.2.2.2.2.1 _ (List.mem_cons_of_mem _ lk_RX7_41)) (fun _ h9 => h9) rfl hdg kk
theorem lk_RX7_44 : Cond.fieldLink RX7 44 RX7 "offBy" "[I" ∈ TB := tbT 708 (by decide +kernel) rfl
theorem gf_RX7_44 (C : Cx G p s m args meth c cc nL ret k RX7 A) (hP : va_P G.1 vwCl (mW G q σ) H) (hdg : decode cc pc = .ok (.getfield 44, 3)) (kk : W p l e R s m args below meth c H locs cells slots Q (F0 m (pc + 3) ls (.ref (q 6) :: rest))) : W p l e R s m args below meth c H locs cells slots Q (F0 m pc ls (.ref (q 0) :: rest)) :=
  va_get (D := G.1) (ci := 7) (v := .ref (q 6)) (C := RX7) (T := TX7) (N := 31) C.1 C.2.1 C.2.2.2.2.1 (inB inX7) C.2.2.2.1 C.2.2.2.2.2.1 hP 0 rfl rfl 13 (by decide) (C.2.2.2.2.1 _ (List.mem_cons_of_mem _ lk_RX7_44)) (fun _ h9 => h9) rfl hdg kk
theorem lk_RX7_47 : Cond.fieldLink RX7 47 RX7 "turned" "[I" ∈ TB := tbT 709 (by decide +kernel) rfl
theorem gf_RX7_47 (C : Cx G p s m args meth c cc nL ret k RX7 A) (hP : va_P G.1 vwCl (mW G q σ) H) (hdg : decode cc pc = .ok (.getfield 47, 3)) (kk : W p l e R s m args below meth c H locs cells slots Q (F0 m (pc + 3) ls (.ref (q 7) :: rest))) : W p l e R s m args below meth c H locs cells slots Q (F0 m pc ls (.ref (q 0) :: rest)) :=
  va_get (D := G.1) (ci := 7) (v := .ref (q 7)) (C := RX7) (T := TX7) (N := 31) C.1 C.2.1 C.2.2.2.2.1 (inB inX7) C.2.2.2.1 C.2.2.2.2.2.1 hP 0 rfl rfl 14 (by decide) (C.2.2.2.2.1 _ (List.mem_cons_of_mem _ lk_RX7_47)) (fun _ h9 => h9) rfl hdg kk
theorem lk_RX7_170 : Cond.fieldLink RX7 170 RX7 "sets" "I" ∈ TB := tbT 710 (by decide +kernel) rfl
theorem gf_RX7_170 (C : Cx G p s m args meth c cc nL ret k RX7 A) (hP : va_P G.1 vwCl (mW G q σ) H) (hdg : decode cc pc = .ok (.getfield 170, 3)) (kk : W p l e R s m args below meth c H locs cells slots Q (F0 m (pc + 3) ls (.int (σ.1 8) :: rest))) : W p l e R s m args below meth c H locs cells slots Q (F0 m pc ls (.ref (q 0) :: rest)) :=
  va_get (D := G.1) (ci := 7) (v := .int (σ.1 8)) (C := RX7) (T := TX7) (N := 31) C.1 C.2.1 C.2.2.2.2.1 (inB inX7) C.2.2.2.1 C.2.2.2.2.2.1 hP 0 rfl rfl 15 (by decide) (C.2.2.2.2.1 _ (List.mem_cons_of_mem _ lk_RX7_170)) (fun _ h9 => h9) rfl hdg kk
theorem pf_RX7_170 {v : Int32} (C : Cx G p s m args meth c cc nL ret k RX7 A) (hP : va_P G.1 vwCl (mW G q σ) H) (hD : va_D A (mW G q σ)) (hS : va_S A s.heap H locs) (hdg : decode cc pc = .ok (.putfield 170, 3)) (kk : ∀ (H1 : Heap) (locs1 : List Loc), va_P G.1 vwCl (mW G q (s1 σ 8 v)) H1 → va_D A (mW G q (s1 σ 8 v)) → va_S A s.heap H1 locs1 → W p l e R s m args below meth c H1 locs1 cells slots Q (F0 m (pc + 3) ls rest)) : W p l e R s m args below meth c H locs cells slots Q (F0 m pc ls (.int v :: .ref (q 0) :: rest)) :=
  va_put (D := G.1) (ci := 7) (v := .int v) (ty := .int) (C := RX7) (T := TX7) (N := 31) C.1 C.2.1 C.2.2.2.2.1 (inB inX7) tyX7 tyX7_ok nmX7 C.2.2.2.1 C.2.2.2.2.2.1 hP hD hS 0 rfl rfl 15 (by decide) (C.2.2.2.2.1 _ (List.mem_cons_of_mem _ lk_RX7_170)) (fun _ h9 => h9) rfl (by decide +kernel) rfl rfl (Nat.le_of_ble_eq_true rfl) hdg (fun H1 locs1 hP1 hD1 hS1 => kk H1 locs1 hP1 hD1 hS1)
theorem lk_RX7_50 : Cond.fieldLink RX7 50 RX7 "linePart" "[I" ∈ TB := tbT 711 (by decide +kernel) rfl
theorem gf_RX7_50 (C : Cx G p s m args meth c cc nL ret k RX7 A) (hP : va_P G.1 vwCl (mW G q σ) H) (hdg : decode cc pc = .ok (.getfield 50, 3)) (kk : W p l e R s m args below meth c H locs cells slots Q (F0 m (pc + 3) ls (.ref (q 8) :: rest))) : W p l e R s m args below meth c H locs cells slots Q (F0 m pc ls (.ref (q 0) :: rest)) :=
  va_get (D := G.1) (ci := 7) (v := .ref (q 8)) (C := RX7) (T := TX7) (N := 31) C.1 C.2.1 C.2.2.2.2.1 (inB inX7) C.2.2.2.1 C.2.2.2.2.2.1 hP 0 rfl rfl 16 (by decide) (C.2.2.2.2.1 _ (List.mem_cons_of_mem _ lk_RX7_50)) (fun _ h9 => h9) rfl hdg kk
theorem lk_RX7_53 : Cond.fieldLink RX7 53 RX7 "lineStep" "[I" ∈ TB := tbT 712 (by decide +kernel) rfl
theorem gf_RX7_53 (C : Cx G p s m args meth c cc nL ret k RX7 A) (hP : va_P G.1 vwCl (mW G q σ) H) (hdg : decode cc pc = .ok (.getfield 53, 3)) (kk : W p l e R s m args below meth c H locs cells slots Q (F0 m (pc + 3) ls (.ref (q 9) :: rest))) : W p l e R s m args below meth c H locs cells slots Q (F0 m pc ls (.ref (q 0) :: rest)) :=
  va_get (D := G.1) (ci := 7) (v := .ref (q 9)) (C := RX7) (T := TX7) (N := 31) C.1 C.2.1 C.2.2.2.2.1 (inB inX7) C.2.2.2.1 C.2.2.2.2.2.1 hP 0 rfl rfl 17 (by decide) (C.2.2.2.2.1 _ (List.mem_cons_of_mem _ lk_RX7_53)) (fun _ h9 => h9) rfl hdg kk
theorem lk_RX7_182 : Cond.fieldLink RX7 182 RX7 "lines" "I" ∈ TB := tbT 713 (by decide +kernel) rfl
theorem gf_RX7_182 (C : Cx G p s m args meth c cc nL ret k RX7 A) (hP : va_P G.1 vwCl (mW G q σ) H) (hdg : decode cc pc = .ok (.getfield 182, 3)) (kk : W p l e R s m args below meth c H locs cells slots Q (F0 m (pc + 3) ls (.int (σ.1 9) :: rest))) : W p l e R s m args below meth c H locs cells slots Q (F0 m pc ls (.ref (q 0) :: rest)) :=
  va_get (D := G.1) (ci := 7) (v := .int (σ.1 9)) (C := RX7) (T := TX7) (N := 31) C.1 C.2.1 C.2.2.2.2.1 (inB inX7) C.2.2.2.1 C.2.2.2.2.2.1 hP 0 rfl rfl 18 (by decide) (C.2.2.2.2.1 _ (List.mem_cons_of_mem _ lk_RX7_182)) (fun _ h9 => h9) rfl hdg kk
theorem pf_RX7_182 {v : Int32} (C : Cx G p s m args meth c cc nL ret k RX7 A) (hP : va_P G.1 vwCl (mW G q σ) H) (hD : va_D A (mW G q σ)) (hS : va_S A s.heap H locs) (hdg : decode cc pc = .ok (.putfield 182, 3)) (kk : ∀ (H1 : Heap) (locs1 : List Loc), va_P G.1 vwCl (mW G q (s1 σ 9 v)) H1 → va_D A (mW G q (s1 σ 9 v)) → va_S A s.heap H1 locs1 → W p l e R s m args below meth c H1 locs1 cells slots Q (F0 m (pc + 3) ls rest)) : W p l e R s m args below meth c H locs cells slots Q (F0 m pc ls (.int v :: .ref (q 0) :: rest)) :=
  va_put (D := G.1) (ci := 7) (v := .int v) (ty := .int) (C := RX7) (T := TX7) (N := 31) C.1 C.2.1 C.2.2.2.2.1 (inB inX7) tyX7 tyX7_ok nmX7 C.2.2.2.1 C.2.2.2.2.2.1 hP hD hS 0 rfl rfl 18 (by decide) (C.2.2.2.2.1 _ (List.mem_cons_of_mem _ lk_RX7_182)) (fun _ h9 => h9) rfl (by decide +kernel) rfl rfl (Nat.le_of_ble_eq_true rfl) hdg (fun H1 locs1 hP1 hD1 hS1 => kk H1 locs1 hP1 hD1 hS1)
theorem lk_RX7_56 : Cond.fieldLink RX7 56 RX7 "likelihood" "[I" ∈ TB := tbT 714 (by decide +kernel) rfl
theorem gf_RX7_56 (C : Cx G p s m args meth c cc nL ret k RX7 A) (hP : va_P G.1 vwCl (mW G q σ) H) (hdg : decode cc pc = .ok (.getfield 56, 3)) (kk : W p l e R s m args below meth c H locs cells slots Q (F0 m (pc + 3) ls (.ref (q 10) :: rest))) : W p l e R s m args below meth c H locs cells slots Q (F0 m pc ls (.ref (q 0) :: rest)) :=
  va_get (D := G.1) (ci := 7) (v := .ref (q 10)) (C := RX7) (T := TX7) (N := 31) C.1 C.2.1 C.2.2.2.2.1 (inB inX7) C.2.2.2.1 C.2.2.2.2.2.1 hP 0 rfl rfl 19 (by decide) (C.2.2.2.2.1 _ (List.mem_cons_of_mem _ lk_RX7_56)) (fun _ h9 => h9) rfl hdg kk
theorem lk_RX7_59 : Cond.fieldLink RX7 59 RX7 "price" "[I" ∈ TB := tbT 715 (by decide +kernel) rfl
theorem gf_RX7_59 (C : Cx G p s m args meth c cc nL ret k RX7 A) (hP : va_P G.1 vwCl (mW G q σ) H) (hdg : decode cc pc = .ok (.getfield 59, 3)) (kk : W p l e R s m args below meth c H locs cells slots Q (F0 m (pc + 3) ls (.ref (q 11) :: rest))) : W p l e R s m args below meth c H locs cells slots Q (F0 m pc ls (.ref (q 0) :: rest)) :=
  va_get (D := G.1) (ci := 7) (v := .ref (q 11)) (C := RX7) (T := TX7) (N := 31) C.1 C.2.1 C.2.2.2.2.1 (inB inX7) C.2.2.2.1 C.2.2.2.2.2.1 hP 0 rfl rfl 20 (by decide) (C.2.2.2.2.1 _ (List.mem_cons_of_mem _ lk_RX7_59)) (fun _ h9 => h9) rfl hdg kk
theorem lk_RX7_62 : Cond.fieldLink RX7 62 RX7 "reading" "[I" ∈ TB := tbT 716 (by decide +kernel) rfl
theorem gf_RX7_62 (C : Cx G p s m args meth c cc nL ret k RX7 A) (hP : va_P G.1 vwCl (mW G q σ) H) (hdg : decode cc pc = .ok (.getfield 62, 3)) (kk : W p l e R s m args below meth c H locs cells slots Q (F0 m (pc + 3) ls (.ref (q 12) :: rest))) : W p l e R s m args below meth c H locs cells slots Q (F0 m pc ls (.ref (q 0) :: rest)) :=
  va_get (D := G.1) (ci := 7) (v := .ref (q 12)) (C := RX7) (T := TX7) (N := 31) C.1 C.2.1 C.2.2.2.2.1 (inB inX7) C.2.2.2.1 C.2.2.2.2.2.1 hP 0 rfl rfl 21 (by decide) (C.2.2.2.2.1 _ (List.mem_cons_of_mem _ lk_RX7_62)) (fun _ h9 => h9) rfl hdg kk
theorem lk_RX7_191 : Cond.fieldLink RX7 191 RX7 "faults" "I" ∈ TB := tbT 717 (by decide +kernel) rfl
theorem gf_RX7_191 (C : Cx G p s m args meth c cc nL ret k RX7 A) (hP : va_P G.1 vwCl (mW G q σ) H) (hdg : decode cc pc = .ok (.getfield 191, 3)) (kk : W p l e R s m args below meth c H locs cells slots Q (F0 m (pc + 3) ls (.int (σ.1 10) :: rest))) : W p l e R s m args below meth c H locs cells slots Q (F0 m pc ls (.ref (q 0) :: rest)) :=
  va_get (D := G.1) (ci := 7) (v := .int (σ.1 10)) (C := RX7) (T := TX7) (N := 31) C.1 C.2.1 C.2.2.2.2.1 (inB inX7) C.2.2.2.1 C.2.2.2.2.2.1 hP 0 rfl rfl 22 (by decide) (C.2.2.2.2.1 _ (List.mem_cons_of_mem _ lk_RX7_191)) (fun _ h9 => h9) rfl hdg kk
theorem pf_RX7_191 {v : Int32} (C : Cx G p s m args meth c cc nL ret k RX7 A) (hP : va_P G.1 vwCl (mW G q σ) H) (hD : va_D A (mW G q σ)) (hS : va_S A s.heap H locs) (hdg : decode cc pc = .ok (.putfield 191, 3)) (kk : ∀ (H1 : Heap) (locs1 : List Loc), va_P G.1 vwCl (mW G q (s1 σ 10 v)) H1 → va_D A (mW G q (s1 σ 10 v)) → va_S A s.heap H1 locs1 → W p l e R s m args below meth c H1 locs1 cells slots Q (F0 m (pc + 3) ls rest)) : W p l e R s m args below meth c H locs cells slots Q (F0 m pc ls (.int v :: .ref (q 0) :: rest)) :=
  va_put (D := G.1) (ci := 7) (v := .int v) (ty := .int) (C := RX7) (T := TX7) (N := 31) C.1 C.2.1 C.2.2.2.2.1 (inB inX7) tyX7 tyX7_ok nmX7 C.2.2.2.1 C.2.2.2.2.2.1 hP hD hS 0 rfl rfl 22 (by decide) (C.2.2.2.2.1 _ (List.mem_cons_of_mem _ lk_RX7_191)) (fun _ h9 => h9) rfl (by decide +kernel) rfl rfl (Nat.le_of_ble_eq_true rfl) hdg (fun H1 locs1 hP1 hD1 hS1 => kk H1 locs1 hP1 hD1 hS1)
theorem lk_RX7_197 : Cond.fieldLink RX7 197 RX7 "tests" "I" ∈ TB := tbT 718 (by decide +kernel) rfl
theorem gf_RX7_197 (C : Cx G p s m args meth c cc nL ret k RX7 A) (hP : va_P G.1 vwCl (mW G q σ) H) (hdg : decode cc pc = .ok (.getfield 197, 3)) (kk : W p l e R s m args below meth c H locs cells slots Q (F0 m (pc + 3) ls (.int (σ.1 11) :: rest))) : W p l e R s m args below meth c H locs cells slots Q (F0 m pc ls (.ref (q 0) :: rest)) :=
  va_get (D := G.1) (ci := 7) (v := .int (σ.1 11)) (C := RX7) (T := TX7) (N := 31) C.1 C.2.1 C.2.2.2.2.1 (inB inX7) C.2.2.2.1 C.2.2.2.2.2.1 hP 0 rfl rfl 23 (by decide) (C.2.2.2.2.1 _ (List.mem_cons_of_mem _ lk_RX7_197)) (fun _ h9 => h9) rfl hdg kk
theorem pf_RX7_197 {v : Int32} (C : Cx G p s m args meth c cc nL ret k RX7 A) (hP : va_P G.1 vwCl (mW G q σ) H) (hD : va_D A (mW G q σ)) (hS : va_S A s.heap H locs) (hdg : decode cc pc = .ok (.putfield 197, 3)) (kk : ∀ (H1 : Heap) (locs1 : List Loc), va_P G.1 vwCl (mW G q (s1 σ 11 v)) H1 → va_D A (mW G q (s1 σ 11 v)) → va_S A s.heap H1 locs1 → W p l e R s m args below meth c H1 locs1 cells slots Q (F0 m (pc + 3) ls rest)) : W p l e R s m args below meth c H locs cells slots Q (F0 m pc ls (.int v :: .ref (q 0) :: rest)) :=
  va_put (D := G.1) (ci := 7) (v := .int v) (ty := .int) (C := RX7) (T := TX7) (N := 31) C.1 C.2.1 C.2.2.2.2.1 (inB inX7) tyX7 tyX7_ok nmX7 C.2.2.2.1 C.2.2.2.2.2.1 hP hD hS 0 rfl rfl 23 (by decide) (C.2.2.2.2.1 _ (List.mem_cons_of_mem _ lk_RX7_197)) (fun _ h9 => h9) rfl (by decide +kernel) rfl rfl (Nat.le_of_ble_eq_true rfl) hdg (fun H1 locs1 hP1 hD1 hS1 => kk H1 locs1 hP1 hD1 hS1)
theorem lk_RX7_194 : Cond.fieldLink RX7 194 RX7 "left" "I" ∈ TB := tbT 719 (by decide +kernel) rfl
theorem gf_RX7_194 (C : Cx G p s m args meth c cc nL ret k RX7 A) (hP : va_P G.1 vwCl (mW G q σ) H) (hdg : decode cc pc = .ok (.getfield 194, 3)) (kk : W p l e R s m args below meth c H locs cells slots Q (F0 m (pc + 3) ls (.int (σ.1 12) :: rest))) : W p l e R s m args below meth c H locs cells slots Q (F0 m pc ls (.ref (q 0) :: rest)) :=
  va_get (D := G.1) (ci := 7) (v := .int (σ.1 12)) (C := RX7) (T := TX7) (N := 31) C.1 C.2.1 C.2.2.2.2.1 (inB inX7) C.2.2.2.1 C.2.2.2.2.2.1 hP 0 rfl rfl 24 (by decide) (C.2.2.2.2.1 _ (List.mem_cons_of_mem _ lk_RX7_194)) (fun _ h9 => h9) rfl hdg kk
theorem pf_RX7_194 {v : Int32} (C : Cx G p s m args meth c cc nL ret k RX7 A) (hP : va_P G.1 vwCl (mW G q σ) H) (hD : va_D A (mW G q σ)) (hS : va_S A s.heap H locs) (hdg : decode cc pc = .ok (.putfield 194, 3)) (kk : ∀ (H1 : Heap) (locs1 : List Loc), va_P G.1 vwCl (mW G q (s1 σ 12 v)) H1 → va_D A (mW G q (s1 σ 12 v)) → va_S A s.heap H1 locs1 → W p l e R s m args below meth c H1 locs1 cells slots Q (F0 m (pc + 3) ls rest)) : W p l e R s m args below meth c H locs cells slots Q (F0 m pc ls (.int v :: .ref (q 0) :: rest)) :=
  va_put (D := G.1) (ci := 7) (v := .int v) (ty := .int) (C := RX7) (T := TX7) (N := 31) C.1 C.2.1 C.2.2.2.2.1 (inB inX7) tyX7 tyX7_ok nmX7 C.2.2.2.1 C.2.2.2.2.2.1 hP hD hS 0 rfl rfl 24 (by decide) (C.2.2.2.2.1 _ (List.mem_cons_of_mem _ lk_RX7_194)) (fun _ h9 => h9) rfl (by decide +kernel) rfl rfl (Nat.le_of_ble_eq_true rfl) hdg (fun H1 locs1 hP1 hD1 hS1 => kk H1 locs1 hP1 hD1 hS1)
theorem lk_RX7_65 : Cond.fieldLink RX7 65 RX7 "few" "[I" ∈ TB := tbT 720 (by decide +kernel) rfl
theorem gf_RX7_65 (C : Cx G p s m args meth c cc nL ret k RX7 A) (hP : va_P G.1 vwCl (mW G q σ) H) (hdg : decode cc pc = .ok (.getfield 65, 3)) (kk : W p l e R s m args below meth c H locs cells slots Q (F0 m (pc + 3) ls (.ref (q 13) :: rest))) : W p l e R s m args below meth c H locs cells slots Q (F0 m pc ls (.ref (q 0) :: rest)) :=
  va_get (D := G.1) (ci := 7) (v := .ref (q 13)) (C := RX7) (T := TX7) (N := 31) C.1 C.2.1 C.2.2.2.2.1 (inB inX7) C.2.2.2.1 C.2.2.2.2.2.1 hP 0 rfl rfl 25 (by decide) (C.2.2.2.2.1 _ (List.mem_cons_of_mem _ lk_RX7_65)) (fun _ h9 => h9) rfl hdg kk
theorem lk_RX7_68 : Cond.fieldLink RX7 68 RX7 "isDone" "[Z" ∈ TB := tbT 721 (by decide +kernel) rfl
theorem gf_RX7_68 (C : Cx G p s m args meth c cc nL ret k RX7 A) (hP : va_P G.1 vwCl (mW G q σ) H) (hdg : decode cc pc = .ok (.getfield 68, 3)) (kk : W p l e R s m args below meth c H locs cells slots Q (F0 m (pc + 3) ls (.ref (q 14) :: rest))) : W p l e R s m args below meth c H locs cells slots Q (F0 m pc ls (.ref (q 0) :: rest)) :=
  va_get (D := G.1) (ci := 7) (v := .ref (q 14)) (C := RX7) (T := TX7) (N := 31) C.1 C.2.1 C.2.2.2.2.1 (inB inX7) C.2.2.2.1 C.2.2.2.2.2.1 hP 0 rfl rfl 26 (by decide) (C.2.2.2.2.1 _ (List.mem_cons_of_mem _ lk_RX7_68)) (fun _ h9 => h9) rfl hdg kk
theorem lk_RX7_99 : Cond.fieldLink RX7 99 RX7 "spurJ" "I" ∈ TB := tbT 722 (by decide +kernel) rfl
theorem gf_RX7_99 (C : Cx G p s m args meth c cc nL ret k RX7 A) (hP : va_P G.1 vwCl (mW G q σ) H) (hdg : decode cc pc = .ok (.getfield 99, 3)) (kk : W p l e R s m args below meth c H locs cells slots Q (F0 m (pc + 3) ls (.int (σ.1 13) :: rest))) : W p l e R s m args below meth c H locs cells slots Q (F0 m pc ls (.ref (q 0) :: rest)) :=
  va_get (D := G.1) (ci := 7) (v := .int (σ.1 13)) (C := RX7) (T := TX7) (N := 31) C.1 C.2.1 C.2.2.2.2.1 (inB inX7) C.2.2.2.1 C.2.2.2.2.2.1 hP 0 rfl rfl 27 (by decide) (C.2.2.2.2.1 _ (List.mem_cons_of_mem _ lk_RX7_99)) (fun _ h9 => h9) rfl hdg kk
theorem pf_RX7_99 {v : Int32} (C : Cx G p s m args meth c cc nL ret k RX7 A) (hP : va_P G.1 vwCl (mW G q σ) H) (hD : va_D A (mW G q σ)) (hS : va_S A s.heap H locs) (hdg : decode cc pc = .ok (.putfield 99, 3)) (kk : ∀ (H1 : Heap) (locs1 : List Loc), va_P G.1 vwCl (mW G q (s1 σ 13 v)) H1 → va_D A (mW G q (s1 σ 13 v)) → va_S A s.heap H1 locs1 → W p l e R s m args below meth c H1 locs1 cells slots Q (F0 m (pc + 3) ls rest)) : W p l e R s m args below meth c H locs cells slots Q (F0 m pc ls (.int v :: .ref (q 0) :: rest)) :=
  va_put (D := G.1) (ci := 7) (v := .int v) (ty := .int) (C := RX7) (T := TX7) (N := 31) C.1 C.2.1 C.2.2.2.2.1 (inB inX7) tyX7 tyX7_ok nmX7 C.2.2.2.1 C.2.2.2.2.2.1 hP hD hS 0 rfl rfl 27 (by decide) (C.2.2.2.2.1 _ (List.mem_cons_of_mem _ lk_RX7_99)) (fun _ h9 => h9) rfl (by decide +kernel) rfl rfl (Nat.le_of_ble_eq_true rfl) hdg (fun H1 locs1 hP1 hD1 hS1 => kk H1 locs1 hP1 hD1 hS1)
theorem lk_RX7_102 : Cond.fieldLink RX7 102 RX7 "spurP" "I" ∈ TB := tbT 723 (by decide +kernel) rfl
theorem gf_RX7_102 (C : Cx G p s m args meth c cc nL ret k RX7 A) (hP : va_P G.1 vwCl (mW G q σ) H) (hdg : decode cc pc = .ok (.getfield 102, 3)) (kk : W p l e R s m args below meth c H locs cells slots Q (F0 m (pc + 3) ls (.int (σ.1 14) :: rest))) : W p l e R s m args below meth c H locs cells slots Q (F0 m pc ls (.ref (q 0) :: rest)) :=
  va_get (D := G.1) (ci := 7) (v := .int (σ.1 14)) (C := RX7) (T := TX7) (N := 31) C.1 C.2.1 C.2.2.2.2.1 (inB inX7) C.2.2.2.1 C.2.2.2.2.2.1 hP 0 rfl rfl 28 (by decide) (C.2.2.2.2.1 _ (List.mem_cons_of_mem _ lk_RX7_102)) (fun _ h9 => h9) rfl hdg kk
theorem pf_RX7_102 {v : Int32} (C : Cx G p s m args meth c cc nL ret k RX7 A) (hP : va_P G.1 vwCl (mW G q σ) H) (hD : va_D A (mW G q σ)) (hS : va_S A s.heap H locs) (hdg : decode cc pc = .ok (.putfield 102, 3)) (kk : ∀ (H1 : Heap) (locs1 : List Loc), va_P G.1 vwCl (mW G q (s1 σ 14 v)) H1 → va_D A (mW G q (s1 σ 14 v)) → va_S A s.heap H1 locs1 → W p l e R s m args below meth c H1 locs1 cells slots Q (F0 m (pc + 3) ls rest)) : W p l e R s m args below meth c H locs cells slots Q (F0 m pc ls (.int v :: .ref (q 0) :: rest)) :=
  va_put (D := G.1) (ci := 7) (v := .int v) (ty := .int) (C := RX7) (T := TX7) (N := 31) C.1 C.2.1 C.2.2.2.2.1 (inB inX7) tyX7 tyX7_ok nmX7 C.2.2.2.1 C.2.2.2.2.2.1 hP hD hS 0 rfl rfl 28 (by decide) (C.2.2.2.2.1 _ (List.mem_cons_of_mem _ lk_RX7_102)) (fun _ h9 => h9) rfl (by decide +kernel) rfl rfl (Nat.le_of_ble_eq_true rfl) hdg (fun H1 locs1 hP1 hD1 hS1 => kk H1 locs1 hP1 hD1 hS1)
theorem lk_RX7_105 : Cond.fieldLink RX7 105 RX7 "spurQ" "I" ∈ TB := tbT 724 (by decide +kernel) rfl
theorem gf_RX7_105 (C : Cx G p s m args meth c cc nL ret k RX7 A) (hP : va_P G.1 vwCl (mW G q σ) H) (hdg : decode cc pc = .ok (.getfield 105, 3)) (kk : W p l e R s m args below meth c H locs cells slots Q (F0 m (pc + 3) ls (.int (σ.1 15) :: rest))) : W p l e R s m args below meth c H locs cells slots Q (F0 m pc ls (.ref (q 0) :: rest)) :=
  va_get (D := G.1) (ci := 7) (v := .int (σ.1 15)) (C := RX7) (T := TX7) (N := 31) C.1 C.2.1 C.2.2.2.2.1 (inB inX7) C.2.2.2.1 C.2.2.2.2.2.1 hP 0 rfl rfl 29 (by decide) (C.2.2.2.2.1 _ (List.mem_cons_of_mem _ lk_RX7_105)) (fun _ h9 => h9) rfl hdg kk
theorem pf_RX7_105 {v : Int32} (C : Cx G p s m args meth c cc nL ret k RX7 A) (hP : va_P G.1 vwCl (mW G q σ) H) (hD : va_D A (mW G q σ)) (hS : va_S A s.heap H locs) (hdg : decode cc pc = .ok (.putfield 105, 3)) (kk : ∀ (H1 : Heap) (locs1 : List Loc), va_P G.1 vwCl (mW G q (s1 σ 15 v)) H1 → va_D A (mW G q (s1 σ 15 v)) → va_S A s.heap H1 locs1 → W p l e R s m args below meth c H1 locs1 cells slots Q (F0 m (pc + 3) ls rest)) : W p l e R s m args below meth c H locs cells slots Q (F0 m pc ls (.int v :: .ref (q 0) :: rest)) :=
  va_put (D := G.1) (ci := 7) (v := .int v) (ty := .int) (C := RX7) (T := TX7) (N := 31) C.1 C.2.1 C.2.2.2.2.1 (inB inX7) tyX7 tyX7_ok nmX7 C.2.2.2.1 C.2.2.2.2.2.1 hP hD hS 0 rfl rfl 29 (by decide) (C.2.2.2.2.1 _ (List.mem_cons_of_mem _ lk_RX7_105)) (fun _ h9 => h9) rfl (by decide +kernel) rfl rfl (Nat.le_of_ble_eq_true rfl) hdg (fun H1 locs1 hP1 hD1 hS1 => kk H1 locs1 hP1 hD1 hS1)
theorem lk_RX7_108 : Cond.fieldLink RX7 108 RX7 "spurHow" "I" ∈ TB := tbT 725 (by decide +kernel) rfl
theorem gf_RX7_108 (C : Cx G p s m args meth c cc nL ret k RX7 A) (hP : va_P G.1 vwCl (mW G q σ) H) (hdg : decode cc pc = .ok (.getfield 108, 3)) (kk : W p l e R s m args below meth c H locs cells slots Q (F0 m (pc + 3) ls (.int (σ.1 16) :: rest))) : W p l e R s m args below meth c H locs cells slots Q (F0 m pc ls (.ref (q 0) :: rest)) :=
  va_get (D := G.1) (ci := 7) (v := .int (σ.1 16)) (C := RX7) (T := TX7) (N := 31) C.1 C.2.1 C.2.2.2.2.1 (inB inX7) C.2.2.2.1 C.2.2.2.2.2.1 hP 0 rfl rfl 30 (by decide) (C.2.2.2.2.1 _ (List.mem_cons_of_mem _ lk_RX7_108)) (fun _ h9 => h9) rfl hdg kk
theorem pf_RX7_108 {v : Int32} (C : Cx G p s m args meth c cc nL ret k RX7 A) (hP : va_P G.1 vwCl (mW G q σ) H) (hD : va_D A (mW G q σ)) (hS : va_S A s.heap H locs) (hdg : decode cc pc = .ok (.putfield 108, 3)) (kk : ∀ (H1 : Heap) (locs1 : List Loc), va_P G.1 vwCl (mW G q (s1 σ 16 v)) H1 → va_D A (mW G q (s1 σ 16 v)) → va_S A s.heap H1 locs1 → W p l e R s m args below meth c H1 locs1 cells slots Q (F0 m (pc + 3) ls rest)) : W p l e R s m args below meth c H locs cells slots Q (F0 m pc ls (.int v :: .ref (q 0) :: rest)) :=
  va_put (D := G.1) (ci := 7) (v := .int v) (ty := .int) (C := RX7) (T := TX7) (N := 31) C.1 C.2.1 C.2.2.2.2.1 (inB inX7) tyX7 tyX7_ok nmX7 C.2.2.2.1 C.2.2.2.2.2.1 hP hD hS 0 rfl rfl 30 (by decide) (C.2.2.2.2.1 _ (List.mem_cons_of_mem _ lk_RX7_108)) (fun _ h9 => h9) rfl (by decide +kernel) rfl rfl (Nat.le_of_ble_eq_true rfl) hdg (fun H1 locs1 hP1 hD1 hS1 => kk H1 locs1 hP1 hD1 hS1)
theorem ldM_0 {i : Int32} (C : Cx G p s m args meth c cc nL ret k own A) (hP : va_P G.1 vwCl (mW G q σ) H) (hin : vp_in i 20) (hdg : decode cc pc = .ok (.iaload, 1)) (kk : W p l e R s m args below meth c H locs cells slots Q (F0 m (pc + 1) ls (.int (σ.2 0 i.toNatClampNeg) :: rest))) : W p l e R s m args below meth c H locs cells slots Q (F0 m pc ls (.int i :: .ref (q 1) :: rest)) :=
  va_iald C.1 C.2.1 C.2.2.2.2.2.1 hP 1 0 rfl rfl hin hdg kk
theorem stM_0 {i v : Int32} (C : Cx G p s m args meth c cc nL ret k own A) (hP : va_P G.1 vwCl (mW G q σ) H) (hD : va_D A (mW G q σ)) (hS : va_S A s.heap H locs) (hin : vp_in i 20) (hdg : decode cc pc = .ok (.iastore, 1)) (kk : ∀ (H1 : Heap) (locs1 : List Loc), va_P G.1 vwCl (mW G q (sA σ 0 i.toNatClampNeg v)) H1 → va_D A (mW G q (sA σ 0 i.toNatClampNeg v)) → va_S A s.heap H1 locs1 → W p l e R s m args below meth c H1 locs1 cells slots Q (F0 m (pc + 1) ls rest)) : W p l e R s m args below meth c H locs cells slots Q (F0 m pc ls (.int v :: .int i :: .ref (q 1) :: rest)) :=
  va_iast C.1 C.2.1 C.2.2.2.2.2.1 hP hD hS 1 0 rfl rfl hin hdg (fun H1 locs1 hP1 hD1 hS1 => kk H1 locs1 hP1 hD1 hS1)
theorem ldM_1 {i : Int32} (C : Cx G p s m args meth c cc nL ret k own A) (hP : va_P G.1 vwCl (mW G q σ) H) (hin : vp_in i 20) (hdg : decode cc pc = .ok (.iaload, 1)) (kk : W p l e R s m args below meth c H locs cells slots Q (F0 m (pc + 1) ls (.int (σ.2 1 i.toNatClampNeg) :: rest))) : W p l e R s m args below meth c H locs cells slots Q (F0 m pc ls (.int i :: .ref (q 2) :: rest)) :=
  va_iald C.1 C.2.1 C.2.2.2.2.2.1 hP 2 0 rfl rfl hin hdg kk
theorem stM_1 {i v : Int32} (C : Cx G p s m args meth c cc nL ret k own A) (hP : va_P G.1 vwCl (mW G q σ) H) (hD : va_D A (mW G q σ)) (hS : va_S A s.heap H locs) (hin : vp_in i 20) (hdg : decode cc pc = .ok (.iastore, 1)) (kk : ∀ (H1 : Heap) (locs1 : List Loc), va_P G.1 vwCl (mW G q (sA σ 1 i.toNatClampNeg v)) H1 → va_D A (mW G q (sA σ 1 i.toNatClampNeg v)) → va_S A s.heap H1 locs1 → W p l e R s m args below meth c H1 locs1 cells slots Q (F0 m (pc + 1) ls rest)) : W p l e R s m args below meth c H locs cells slots Q (F0 m pc ls (.int v :: .int i :: .ref (q 2) :: rest)) :=
  va_iast C.1 C.2.1 C.2.2.2.2.2.1 hP hD hS 2 0 rfl rfl hin hdg (fun H1 locs1 hP1 hD1 hS1 => kk H1 locs1 hP1 hD1 hS1)
theorem ldM_2 {i : Int32} (C : Cx G p s m args meth c cc nL ret k own A) (hP : va_P G.1 vwCl (mW G q σ) H) (hin : vp_in i 5) (hdg : decode cc pc = .ok (.iaload, 1)) (kk : W p l e R s m args below meth c H locs cells slots Q (F0 m (pc + 1) ls (.int (σ.2 2 i.toNatClampNeg) :: rest))) : W p l e R s m args below meth c H locs cells slots Q (F0 m pc ls (.int i :: .ref (q 3) :: rest)) :=
  va_iald C.1 C.2.1 C.2.2.2.2.2.1 hP 3 0 rfl rfl hin hdg kk
theorem stM_2 {i v : Int32} (C : Cx G p s m args meth c cc nL ret k own A) (hP : va_P G.1 vwCl (mW G q σ) H) (hD : va_D A (mW G q σ)) (hS : va_S A s.heap H locs) (hin : vp_in i 5) (hdg : decode cc pc = .ok (.iastore, 1)) (kk : ∀ (H1 : Heap) (locs1 : List Loc), va_P G.1 vwCl (mW G q (sA σ 2 i.toNatClampNeg v)) H1 → va_D A (mW G q (sA σ 2 i.toNatClampNeg v)) → va_S A s.heap H1 locs1 → W p l e R s m args below meth c H1 locs1 cells slots Q (F0 m (pc + 1) ls rest)) : W p l e R s m args below meth c H locs cells slots Q (F0 m pc ls (.int v :: .int i :: .ref (q 3) :: rest)) :=
  va_iast C.1 C.2.1 C.2.2.2.2.2.1 hP hD hS 3 0 rfl rfl hin hdg (fun H1 locs1 hP1 hD1 hS1 => kk H1 locs1 hP1 hD1 hS1)
theorem ldM_3 {i : Int32} (C : Cx G p s m args meth c cc nL ret k own A) (hP : va_P G.1 vwCl (mW G q σ) H) (hin : vp_in i 5) (hdg : decode cc pc = .ok (.iaload, 1)) (kk : W p l e R s m args below meth c H locs cells slots Q (F0 m (pc + 1) ls (.int (σ.2 3 i.toNatClampNeg) :: rest))) : W p l e R s m args below meth c H locs cells slots Q (F0 m pc ls (.int i :: .ref (q 4) :: rest)) :=
  va_iald C.1 C.2.1 C.2.2.2.2.2.1 hP 4 0 rfl rfl hin hdg kk
theorem stM_3 {i v : Int32} (C : Cx G p s m args meth c cc nL ret k own A) (hP : va_P G.1 vwCl (mW G q σ) H) (hD : va_D A (mW G q σ)) (hS : va_S A s.heap H locs) (hin : vp_in i 5) (hdg : decode cc pc = .ok (.iastore, 1)) (kk : ∀ (H1 : Heap) (locs1 : List Loc), va_P G.1 vwCl (mW G q (sA σ 3 i.toNatClampNeg v)) H1 → va_D A (mW G q (sA σ 3 i.toNatClampNeg v)) → va_S A s.heap H1 locs1 → W p l e R s m args below meth c H1 locs1 cells slots Q (F0 m (pc + 1) ls rest)) : W p l e R s m args below meth c H locs cells slots Q (F0 m pc ls (.int v :: .int i :: .ref (q 4) :: rest)) :=
  va_iast C.1 C.2.1 C.2.2.2.2.2.1 hP hD hS 4 0 rfl rfl hin hdg (fun H1 locs1 hP1 hD1 hS1 => kk H1 locs1 hP1 hD1 hS1)
theorem ldM_4 {i : Int32} (C : Cx G p s m args meth c cc nL ret k own A) (hP : va_P G.1 vwCl (mW G q σ) H) (hin : vp_in i 60) (hdg : decode cc pc = .ok (.iaload, 1)) (kk : W p l e R s m args below meth c H locs cells slots Q (F0 m (pc + 1) ls (.int (σ.2 4 i.toNatClampNeg) :: rest))) : W p l e R s m args below meth c H locs cells slots Q (F0 m pc ls (.int i :: .ref (q 5) :: rest)) :=
  va_iald C.1 C.2.1 C.2.2.2.2.2.1 hP 5 0 rfl rfl hin hdg kk
theorem stM_4 {i v : Int32} (C : Cx G p s m args meth c cc nL ret k own A) (hP : va_P G.1 vwCl (mW G q σ) H) (hD : va_D A (mW G q σ)) (hS : va_S A s.heap H locs) (hin : vp_in i 60) (hdg : decode cc pc = .ok (.iastore, 1)) (kk : ∀ (H1 : Heap) (locs1 : List Loc), va_P G.1 vwCl (mW G q (sA σ 4 i.toNatClampNeg v)) H1 → va_D A (mW G q (sA σ 4 i.toNatClampNeg v)) → va_S A s.heap H1 locs1 → W p l e R s m args below meth c H1 locs1 cells slots Q (F0 m (pc + 1) ls rest)) : W p l e R s m args below meth c H locs cells slots Q (F0 m pc ls (.int v :: .int i :: .ref (q 5) :: rest)) :=
  va_iast C.1 C.2.1 C.2.2.2.2.2.1 hP hD hS 5 0 rfl rfl hin hdg (fun H1 locs1 hP1 hD1 hS1 => kk H1 locs1 hP1 hD1 hS1)
theorem ldM_5 {i : Int32} (C : Cx G p s m args meth c cc nL ret k own A) (hP : va_P G.1 vwCl (mW G q σ) H) (hin : vp_in i 60) (hdg : decode cc pc = .ok (.iaload, 1)) (kk : W p l e R s m args below meth c H locs cells slots Q (F0 m (pc + 1) ls (.int (σ.2 5 i.toNatClampNeg) :: rest))) : W p l e R s m args below meth c H locs cells slots Q (F0 m pc ls (.int i :: .ref (q 6) :: rest)) :=
  va_iald C.1 C.2.1 C.2.2.2.2.2.1 hP 6 0 rfl rfl hin hdg kk
theorem stM_5 {i v : Int32} (C : Cx G p s m args meth c cc nL ret k own A) (hP : va_P G.1 vwCl (mW G q σ) H) (hD : va_D A (mW G q σ)) (hS : va_S A s.heap H locs) (hin : vp_in i 60) (hdg : decode cc pc = .ok (.iastore, 1)) (kk : ∀ (H1 : Heap) (locs1 : List Loc), va_P G.1 vwCl (mW G q (sA σ 5 i.toNatClampNeg v)) H1 → va_D A (mW G q (sA σ 5 i.toNatClampNeg v)) → va_S A s.heap H1 locs1 → W p l e R s m args below meth c H1 locs1 cells slots Q (F0 m (pc + 1) ls rest)) : W p l e R s m args below meth c H locs cells slots Q (F0 m pc ls (.int v :: .int i :: .ref (q 6) :: rest)) :=
  va_iast C.1 C.2.1 C.2.2.2.2.2.1 hP hD hS 6 0 rfl rfl hin hdg (fun H1 locs1 hP1 hD1 hS1 => kk H1 locs1 hP1 hD1 hS1)
theorem ldM_6 {i : Int32} (C : Cx G p s m args meth c cc nL ret k own A) (hP : va_P G.1 vwCl (mW G q σ) H) (hin : vp_in i 60) (hdg : decode cc pc = .ok (.iaload, 1)) (kk : W p l e R s m args below meth c H locs cells slots Q (F0 m (pc + 1) ls (.int (σ.2 6 i.toNatClampNeg) :: rest))) : W p l e R s m args below meth c H locs cells slots Q (F0 m pc ls (.int i :: .ref (q 7) :: rest)) :=
  va_iald C.1 C.2.1 C.2.2.2.2.2.1 hP 7 0 rfl rfl hin hdg kk
theorem stM_6 {i v : Int32} (C : Cx G p s m args meth c cc nL ret k own A) (hP : va_P G.1 vwCl (mW G q σ) H) (hD : va_D A (mW G q σ)) (hS : va_S A s.heap H locs) (hin : vp_in i 60) (hdg : decode cc pc = .ok (.iastore, 1)) (kk : ∀ (H1 : Heap) (locs1 : List Loc), va_P G.1 vwCl (mW G q (sA σ 6 i.toNatClampNeg v)) H1 → va_D A (mW G q (sA σ 6 i.toNatClampNeg v)) → va_S A s.heap H1 locs1 → W p l e R s m args below meth c H1 locs1 cells slots Q (F0 m (pc + 1) ls rest)) : W p l e R s m args below meth c H locs cells slots Q (F0 m pc ls (.int v :: .int i :: .ref (q 7) :: rest)) :=
  va_iast C.1 C.2.1 C.2.2.2.2.2.1 hP hD hS 7 0 rfl rfl hin hdg (fun H1 locs1 hP1 hD1 hS1 => kk H1 locs1 hP1 hD1 hS1)
theorem ldM_7 {i : Int32} (C : Cx G p s m args meth c cc nL ret k own A) (hP : va_P G.1 vwCl (mW G q σ) H) (hin : vp_in i 8) (hdg : decode cc pc = .ok (.iaload, 1)) (kk : W p l e R s m args below meth c H locs cells slots Q (F0 m (pc + 1) ls (.int (σ.2 7 i.toNatClampNeg) :: rest))) : W p l e R s m args below meth c H locs cells slots Q (F0 m pc ls (.int i :: .ref (q 8) :: rest)) :=
  va_iald C.1 C.2.1 C.2.2.2.2.2.1 hP 8 0 rfl rfl hin hdg kk
theorem stM_7 {i v : Int32} (C : Cx G p s m args meth c cc nL ret k own A) (hP : va_P G.1 vwCl (mW G q σ) H) (hD : va_D A (mW G q σ)) (hS : va_S A s.heap H locs) (hin : vp_in i 8) (hdg : decode cc pc = .ok (.iastore, 1)) (kk : ∀ (H1 : Heap) (locs1 : List Loc), va_P G.1 vwCl (mW G q (sA σ 7 i.toNatClampNeg v)) H1 → va_D A (mW G q (sA σ 7 i.toNatClampNeg v)) → va_S A s.heap H1 locs1 → W p l e R s m args below meth c H1 locs1 cells slots Q (F0 m (pc + 1) ls rest)) : W p l e R s m args below meth c H locs cells slots Q (F0 m pc ls (.int v :: .int i :: .ref (q 8) :: rest)) :=
  va_iast C.1 C.2.1 C.2.2.2.2.2.1 hP hD hS 8 0 rfl rfl hin hdg (fun H1 locs1 hP1 hD1 hS1 => kk H1 locs1 hP1 hD1 hS1)
theorem ldM_8 {i : Int32} (C : Cx G p s m args meth c cc nL ret k own A) (hP : va_P G.1 vwCl (mW G q σ) H) (hin : vp_in i 8) (hdg : decode cc pc = .ok (.iaload, 1)) (kk : W p l e R s m args below meth c H locs cells slots Q (F0 m (pc + 1) ls (.int (σ.2 8 i.toNatClampNeg) :: rest))) : W p l e R s m args below meth c H locs cells slots Q (F0 m pc ls (.int i :: .ref (q 9) :: rest)) :=
  va_iald C.1 C.2.1 C.2.2.2.2.2.1 hP 9 0 rfl rfl hin hdg kk
theorem stM_8 {i v : Int32} (C : Cx G p s m args meth c cc nL ret k own A) (hP : va_P G.1 vwCl (mW G q σ) H) (hD : va_D A (mW G q σ)) (hS : va_S A s.heap H locs) (hin : vp_in i 8) (hdg : decode cc pc = .ok (.iastore, 1)) (kk : ∀ (H1 : Heap) (locs1 : List Loc), va_P G.1 vwCl (mW G q (sA σ 8 i.toNatClampNeg v)) H1 → va_D A (mW G q (sA σ 8 i.toNatClampNeg v)) → va_S A s.heap H1 locs1 → W p l e R s m args below meth c H1 locs1 cells slots Q (F0 m (pc + 1) ls rest)) : W p l e R s m args below meth c H locs cells slots Q (F0 m pc ls (.int v :: .int i :: .ref (q 9) :: rest)) :=
  va_iast C.1 C.2.1 C.2.2.2.2.2.1 hP hD hS 9 0 rfl rfl hin hdg (fun H1 locs1 hP1 hD1 hS1 => kk H1 locs1 hP1 hD1 hS1)
theorem ldM_9 {i : Int32} (C : Cx G p s m args meth c cc nL ret k own A) (hP : va_P G.1 vwCl (mW G q σ) H) (hin : vp_in i 12) (hdg : decode cc pc = .ok (.iaload, 1)) (kk : W p l e R s m args below meth c H locs cells slots Q (F0 m (pc + 1) ls (.int (σ.2 9 i.toNatClampNeg) :: rest))) : W p l e R s m args below meth c H locs cells slots Q (F0 m pc ls (.int i :: .ref (q 10) :: rest)) :=
  va_iald C.1 C.2.1 C.2.2.2.2.2.1 hP 10 0 rfl rfl hin hdg kk
theorem stM_9 {i v : Int32} (C : Cx G p s m args meth c cc nL ret k own A) (hP : va_P G.1 vwCl (mW G q σ) H) (hD : va_D A (mW G q σ)) (hS : va_S A s.heap H locs) (hin : vp_in i 12) (hdg : decode cc pc = .ok (.iastore, 1)) (kk : ∀ (H1 : Heap) (locs1 : List Loc), va_P G.1 vwCl (mW G q (sA σ 9 i.toNatClampNeg v)) H1 → va_D A (mW G q (sA σ 9 i.toNatClampNeg v)) → va_S A s.heap H1 locs1 → W p l e R s m args below meth c H1 locs1 cells slots Q (F0 m (pc + 1) ls rest)) : W p l e R s m args below meth c H locs cells slots Q (F0 m pc ls (.int v :: .int i :: .ref (q 10) :: rest)) :=
  va_iast C.1 C.2.1 C.2.2.2.2.2.1 hP hD hS 10 0 rfl rfl hin hdg (fun H1 locs1 hP1 hD1 hS1 => kk H1 locs1 hP1 hD1 hS1)
theorem ldM_10 {i : Int32} (C : Cx G p s m args meth c cc nL ret k own A) (hP : va_P G.1 vwCl (mW G q σ) H) (hin : vp_in i 12) (hdg : decode cc pc = .ok (.iaload, 1)) (kk : W p l e R s m args below meth c H locs cells slots Q (F0 m (pc + 1) ls (.int (σ.2 10 i.toNatClampNeg) :: rest))) : W p l e R s m args below meth c H locs cells slots Q (F0 m pc ls (.int i :: .ref (q 11) :: rest)) :=
  va_iald C.1 C.2.1 C.2.2.2.2.2.1 hP 11 0 rfl rfl hin hdg kk
theorem stM_10 {i v : Int32} (C : Cx G p s m args meth c cc nL ret k own A) (hP : va_P G.1 vwCl (mW G q σ) H) (hD : va_D A (mW G q σ)) (hS : va_S A s.heap H locs) (hin : vp_in i 12) (hdg : decode cc pc = .ok (.iastore, 1)) (kk : ∀ (H1 : Heap) (locs1 : List Loc), va_P G.1 vwCl (mW G q (sA σ 10 i.toNatClampNeg v)) H1 → va_D A (mW G q (sA σ 10 i.toNatClampNeg v)) → va_S A s.heap H1 locs1 → W p l e R s m args below meth c H1 locs1 cells slots Q (F0 m (pc + 1) ls rest)) : W p l e R s m args below meth c H locs cells slots Q (F0 m pc ls (.int v :: .int i :: .ref (q 11) :: rest)) :=
  va_iast C.1 C.2.1 C.2.2.2.2.2.1 hP hD hS 11 0 rfl rfl hin hdg (fun H1 locs1 hP1 hD1 hS1 => kk H1 locs1 hP1 hD1 hS1)
theorem ldM_11 {i : Int32} (C : Cx G p s m args meth c cc nL ret k own A) (hP : va_P G.1 vwCl (mW G q σ) H) (hin : vp_in i 144) (hdg : decode cc pc = .ok (.iaload, 1)) (kk : W p l e R s m args below meth c H locs cells slots Q (F0 m (pc + 1) ls (.int (σ.2 11 i.toNatClampNeg) :: rest))) : W p l e R s m args below meth c H locs cells slots Q (F0 m pc ls (.int i :: .ref (q 12) :: rest)) :=
  va_iald C.1 C.2.1 C.2.2.2.2.2.1 hP 12 0 rfl rfl hin hdg kk
theorem stM_11 {i v : Int32} (C : Cx G p s m args meth c cc nL ret k own A) (hP : va_P G.1 vwCl (mW G q σ) H) (hD : va_D A (mW G q σ)) (hS : va_S A s.heap H locs) (hin : vp_in i 144) (hdg : decode cc pc = .ok (.iastore, 1)) (kk : ∀ (H1 : Heap) (locs1 : List Loc), va_P G.1 vwCl (mW G q (sA σ 11 i.toNatClampNeg v)) H1 → va_D A (mW G q (sA σ 11 i.toNatClampNeg v)) → va_S A s.heap H1 locs1 → W p l e R s m args below meth c H1 locs1 cells slots Q (F0 m (pc + 1) ls rest)) : W p l e R s m args below meth c H locs cells slots Q (F0 m pc ls (.int v :: .int i :: .ref (q 12) :: rest)) :=
  va_iast C.1 C.2.1 C.2.2.2.2.2.1 hP hD hS 12 0 rfl rfl hin hdg (fun H1 locs1 hP1 hD1 hS1 => kk H1 locs1 hP1 hD1 hS1)
theorem ldM_12 {i : Int32} (C : Cx G p s m args meth c cc nL ret k own A) (hP : va_P G.1 vwCl (mW G q σ) H) (hin : vp_in i 4096) (hdg : decode cc pc = .ok (.iaload, 1)) (kk : W p l e R s m args below meth c H locs cells slots Q (F0 m (pc + 1) ls (.int (σ.2 12 i.toNatClampNeg) :: rest))) : W p l e R s m args below meth c H locs cells slots Q (F0 m pc ls (.int i :: .ref (q 13) :: rest)) :=
  va_iald C.1 C.2.1 C.2.2.2.2.2.1 hP 13 0 rfl rfl hin hdg kk
theorem stM_12 {i v : Int32} (C : Cx G p s m args meth c cc nL ret k own A) (hP : va_P G.1 vwCl (mW G q σ) H) (hD : va_D A (mW G q σ)) (hS : va_S A s.heap H locs) (hin : vp_in i 4096) (hdg : decode cc pc = .ok (.iastore, 1)) (kk : ∀ (H1 : Heap) (locs1 : List Loc), va_P G.1 vwCl (mW G q (sA σ 12 i.toNatClampNeg v)) H1 → va_D A (mW G q (sA σ 12 i.toNatClampNeg v)) → va_S A s.heap H1 locs1 → W p l e R s m args below meth c H1 locs1 cells slots Q (F0 m (pc + 1) ls rest)) : W p l e R s m args below meth c H locs cells slots Q (F0 m pc ls (.int v :: .int i :: .ref (q 13) :: rest)) :=
  va_iast C.1 C.2.1 C.2.2.2.2.2.1 hP hD hS 13 0 rfl rfl hin hdg (fun H1 locs1 hP1 hD1 hS1 => kk H1 locs1 hP1 hD1 hS1)
theorem ldM_13 {i : Int32} (C : Cx G p s m args meth c cc nL ret k own A) (hP : va_P G.1 vwCl (mW G q σ) H) (hin : vp_in i 4096) (hdg : decode cc pc = .ok (.baload, 1)) (kk : W p l e R s m args below meth c H locs cells slots Q (F0 m (pc + 1) ls (.int (σ.2 13 i.toNatClampNeg) :: rest))) : W p l e R s m args below meth c H locs cells slots Q (F0 m pc ls (.int i :: .ref (q 14) :: rest)) :=
  va_zald C.1 C.2.1 C.2.2.2.2.2.1 hP 14 1 rfl rfl hin hdg kk
theorem stM_13 {i v : Int32} (C : Cx G p s m args meth c cc nL ret k own A) (hP : va_P G.1 vwCl (mW G q σ) H) (hD : va_D A (mW G q σ)) (hS : va_S A s.heap H locs) (hin : vp_in i 4096) (hdg : decode cc pc = .ok (.bastore, 1)) (kk : ∀ (H1 : Heap) (locs1 : List Loc), va_P G.1 vwCl (mW G q (sA σ 13 i.toNatClampNeg (vp_nar .boolean v))) H1 → va_D A (mW G q (sA σ 13 i.toNatClampNeg (vp_nar .boolean v))) → va_S A s.heap H1 locs1 → W p l e R s m args below meth c H1 locs1 cells slots Q (F0 m (pc + 1) ls rest)) : W p l e R s m args below meth c H locs cells slots Q (F0 m pc ls (.int v :: .int i :: .ref (q 14) :: rest)) :=
  va_zast C.1 C.2.1 C.2.2.2.2.2.1 hP hD hS 14 1 rfl rfl hin hdg (fun H1 locs1 hP1 hD1 hS1 => kk H1 locs1 hP1 hD1 hS1)
theorem ldX_0 {i : Int32} (C : Cx G p s m args meth c cc nL ret k own A) (hP : va_P G.1 vwCl (xW G q σ) H) (hin : vp_in i 20) (hdg : decode cc pc = .ok (.iaload, 1)) (kk : W p l e R s m args below meth c H locs cells slots Q (F0 m (pc + 1) ls (.int (σ.2 0 i.toNatClampNeg) :: rest))) : W p l e R s m args below meth c H locs cells slots Q (F0 m pc ls (.int i :: .ref (q 6) :: rest)) :=
  va_iald C.1 C.2.1 C.2.2.2.2.2.1 hP 6 0 rfl rfl hin hdg kk
theorem stX_0 {i v : Int32} (C : Cx G p s m args meth c cc nL ret k own A) (hP : va_P G.1 vwCl (xW G q σ) H) (hD : va_D A (xW G q σ)) (hS : va_S A s.heap H locs) (hin : vp_in i 20) (hdg : decode cc pc = .ok (.iastore, 1)) (kk : ∀ (H1 : Heap) (locs1 : List Loc), va_P G.1 vwCl (xW G q (sA σ 0 i.toNatClampNeg v)) H1 → va_D A (xW G q (sA σ 0 i.toNatClampNeg v)) → va_S A s.heap H1 locs1 → W p l e R s m args below meth c H1 locs1 cells slots Q (F0 m (pc + 1) ls rest)) : W p l e R s m args below meth c H locs cells slots Q (F0 m pc ls (.int v :: .int i :: .ref (q 6) :: rest)) :=
  va_iast C.1 C.2.1 C.2.2.2.2.2.1 hP hD hS 6 0 rfl rfl hin hdg (fun H1 locs1 hP1 hD1 hS1 => kk H1 locs1 ((xSt0 σ i.toNatClampNeg v) ▸ hP1) ((xSt0 σ i.toNatClampNeg v) ▸ hD1) hS1)
theorem ldX_1 {i : Int32} (C : Cx G p s m args meth c cc nL ret k own A) (hP : va_P G.1 vwCl (xW G q σ) H) (hin : vp_in i 20) (hdg : decode cc pc = .ok (.iaload, 1)) (kk : W p l e R s m args below meth c H locs cells slots Q (F0 m (pc + 1) ls (.int (σ.2 1 i.toNatClampNeg) :: rest))) : W p l e R s m args below meth c H locs cells slots Q (F0 m pc ls (.int i :: .ref (q 7) :: rest)) :=
  va_iald C.1 C.2.1 C.2.2.2.2.2.1 hP 7 0 rfl rfl hin hdg kk
theorem stX_1 {i v : Int32} (C : Cx G p s m args meth c cc nL ret k own A) (hP : va_P G.1 vwCl (xW G q σ) H) (hD : va_D A (xW G q σ)) (hS : va_S A s.heap H locs) (hin : vp_in i 20) (hdg : decode cc pc = .ok (.iastore, 1)) (kk : ∀ (H1 : Heap) (locs1 : List Loc), va_P G.1 vwCl (xW G q (sA σ 1 i.toNatClampNeg v)) H1 → va_D A (xW G q (sA σ 1 i.toNatClampNeg v)) → va_S A s.heap H1 locs1 → W p l e R s m args below meth c H1 locs1 cells slots Q (F0 m (pc + 1) ls rest)) : W p l e R s m args below meth c H locs cells slots Q (F0 m pc ls (.int v :: .int i :: .ref (q 7) :: rest)) :=
  va_iast C.1 C.2.1 C.2.2.2.2.2.1 hP hD hS 7 0 rfl rfl hin hdg (fun H1 locs1 hP1 hD1 hS1 => kk H1 locs1 ((xSt1 σ i.toNatClampNeg v) ▸ hP1) ((xSt1 σ i.toNatClampNeg v) ▸ hD1) hS1)
theorem ldX_2 {i : Int32} (C : Cx G p s m args meth c cc nL ret k own A) (hP : va_P G.1 vwCl (xW G q σ) H) (hin : vp_in i 4) (hdg : decode cc pc = .ok (.iaload, 1)) (kk : W p l e R s m args below meth c H locs cells slots Q (F0 m (pc + 1) ls (.int (σ.2 2 i.toNatClampNeg) :: rest))) : W p l e R s m args below meth c H locs cells slots Q (F0 m pc ls (.int i :: .ref (q 8) :: rest)) :=
  va_iald C.1 C.2.1 C.2.2.2.2.2.1 hP 8 0 rfl rfl hin hdg kk
theorem stX_2 {i v : Int32} (C : Cx G p s m args meth c cc nL ret k own A) (hP : va_P G.1 vwCl (xW G q σ) H) (hD : va_D A (xW G q σ)) (hS : va_S A s.heap H locs) (hin : vp_in i 4) (hdg : decode cc pc = .ok (.iastore, 1)) (kk : ∀ (H1 : Heap) (locs1 : List Loc), va_P G.1 vwCl (xW G q (sA σ 2 i.toNatClampNeg v)) H1 → va_D A (xW G q (sA σ 2 i.toNatClampNeg v)) → va_S A s.heap H1 locs1 → W p l e R s m args below meth c H1 locs1 cells slots Q (F0 m (pc + 1) ls rest)) : W p l e R s m args below meth c H locs cells slots Q (F0 m pc ls (.int v :: .int i :: .ref (q 8) :: rest)) :=
  va_iast C.1 C.2.1 C.2.2.2.2.2.1 hP hD hS 8 0 rfl rfl hin hdg (fun H1 locs1 hP1 hD1 hS1 => kk H1 locs1 ((xSt2 σ i.toNatClampNeg v) ▸ hP1) ((xSt2 σ i.toNatClampNeg v) ▸ hD1) hS1)
theorem ldX_3 {i : Int32} (C : Cx G p s m args meth c cc nL ret k own A) (hP : va_P G.1 vwCl (xW G q σ) H) (hin : vp_in i 5) (hdg : decode cc pc = .ok (.iaload, 1)) (kk : W p l e R s m args below meth c H locs cells slots Q (F0 m (pc + 1) ls (.int (σ.2 3 i.toNatClampNeg) :: rest))) : W p l e R s m args below meth c H locs cells slots Q (F0 m pc ls (.int i :: .ref (q 9) :: rest)) :=
  va_iald C.1 C.2.1 C.2.2.2.2.2.1 hP 9 0 rfl rfl hin hdg kk
theorem stX_3 {i v : Int32} (C : Cx G p s m args meth c cc nL ret k own A) (hP : va_P G.1 vwCl (xW G q σ) H) (hD : va_D A (xW G q σ)) (hS : va_S A s.heap H locs) (hin : vp_in i 5) (hdg : decode cc pc = .ok (.iastore, 1)) (kk : ∀ (H1 : Heap) (locs1 : List Loc), va_P G.1 vwCl (xW G q (sA σ 3 i.toNatClampNeg v)) H1 → va_D A (xW G q (sA σ 3 i.toNatClampNeg v)) → va_S A s.heap H1 locs1 → W p l e R s m args below meth c H1 locs1 cells slots Q (F0 m (pc + 1) ls rest)) : W p l e R s m args below meth c H locs cells slots Q (F0 m pc ls (.int v :: .int i :: .ref (q 9) :: rest)) :=
  va_iast C.1 C.2.1 C.2.2.2.2.2.1 hP hD hS 9 0 rfl rfl hin hdg (fun H1 locs1 hP1 hD1 hS1 => kk H1 locs1 ((xSt3 σ i.toNatClampNeg v) ▸ hP1) ((xSt3 σ i.toNatClampNeg v) ▸ hD1) hS1)
theorem ldX_4 {i : Int32} (C : Cx G p s m args meth c cc nL ret k own A) (hP : va_P G.1 vwCl (xW G q σ) H) (hin : vp_in i 6) (hdg : decode cc pc = .ok (.iaload, 1)) (kk : W p l e R s m args below meth c H locs cells slots Q (F0 m (pc + 1) ls (.int (σ.2 4 i.toNatClampNeg) :: rest))) : W p l e R s m args below meth c H locs cells slots Q (F0 m pc ls (.int i :: .ref (q 10) :: rest)) :=
  va_iald C.1 C.2.1 C.2.2.2.2.2.1 hP 10 0 rfl rfl hin hdg kk
theorem stX_4 {i v : Int32} (C : Cx G p s m args meth c cc nL ret k own A) (hP : va_P G.1 vwCl (xW G q σ) H) (hD : va_D A (xW G q σ)) (hS : va_S A s.heap H locs) (hin : vp_in i 6) (hdg : decode cc pc = .ok (.iastore, 1)) (kk : ∀ (H1 : Heap) (locs1 : List Loc), va_P G.1 vwCl (xW G q (sA σ 4 i.toNatClampNeg v)) H1 → va_D A (xW G q (sA σ 4 i.toNatClampNeg v)) → va_S A s.heap H1 locs1 → W p l e R s m args below meth c H1 locs1 cells slots Q (F0 m (pc + 1) ls rest)) : W p l e R s m args below meth c H locs cells slots Q (F0 m pc ls (.int v :: .int i :: .ref (q 10) :: rest)) :=
  va_iast C.1 C.2.1 C.2.2.2.2.2.1 hP hD hS 10 0 rfl rfl hin hdg (fun H1 locs1 hP1 hD1 hS1 => kk H1 locs1 ((xSt4 σ i.toNatClampNeg v) ▸ hP1) ((xSt4 σ i.toNatClampNeg v) ▸ hD1) hS1)
theorem ldX_5 {i : Int32} (C : Cx G p s m args meth c cc nL ret k own A) (hP : va_P G.1 vwCl (xW G q σ) H) (hin : vp_in i 5) (hdg : decode cc pc = .ok (.iaload, 1)) (kk : W p l e R s m args below meth c H locs cells slots Q (F0 m (pc + 1) ls (.int (σ.2 5 i.toNatClampNeg) :: rest))) : W p l e R s m args below meth c H locs cells slots Q (F0 m pc ls (.int i :: .ref (q 11) :: rest)) :=
  va_iald C.1 C.2.1 C.2.2.2.2.2.1 hP 11 0 rfl rfl hin hdg kk
theorem stX_5 {i v : Int32} (C : Cx G p s m args meth c cc nL ret k own A) (hP : va_P G.1 vwCl (xW G q σ) H) (hD : va_D A (xW G q σ)) (hS : va_S A s.heap H locs) (hin : vp_in i 5) (hdg : decode cc pc = .ok (.iastore, 1)) (kk : ∀ (H1 : Heap) (locs1 : List Loc), va_P G.1 vwCl (xW G q (sA σ 5 i.toNatClampNeg v)) H1 → va_D A (xW G q (sA σ 5 i.toNatClampNeg v)) → va_S A s.heap H1 locs1 → W p l e R s m args below meth c H1 locs1 cells slots Q (F0 m (pc + 1) ls rest)) : W p l e R s m args below meth c H locs cells slots Q (F0 m pc ls (.int v :: .int i :: .ref (q 11) :: rest)) :=
  va_iast C.1 C.2.1 C.2.2.2.2.2.1 hP hD hS 11 0 rfl rfl hin hdg (fun H1 locs1 hP1 hD1 hS1 => kk H1 locs1 ((xSt5 σ i.toNatClampNeg v) ▸ hP1) ((xSt5 σ i.toNatClampNeg v) ▸ hD1) hS1)
theorem ldX_6 {i : Int32} (C : Cx G p s m args meth c cc nL ret k own A) (hP : va_P G.1 vwCl (xW G q σ) H) (hin : vp_in i 5) (hdg : decode cc pc = .ok (.iaload, 1)) (kk : W p l e R s m args below meth c H locs cells slots Q (F0 m (pc + 1) ls (.int (σ.2 6 i.toNatClampNeg) :: rest))) : W p l e R s m args below meth c H locs cells slots Q (F0 m pc ls (.int i :: .ref (q 12) :: rest)) :=
  va_iald C.1 C.2.1 C.2.2.2.2.2.1 hP 12 0 rfl rfl hin hdg kk
theorem stX_6 {i v : Int32} (C : Cx G p s m args meth c cc nL ret k own A) (hP : va_P G.1 vwCl (xW G q σ) H) (hD : va_D A (xW G q σ)) (hS : va_S A s.heap H locs) (hin : vp_in i 5) (hdg : decode cc pc = .ok (.iastore, 1)) (kk : ∀ (H1 : Heap) (locs1 : List Loc), va_P G.1 vwCl (xW G q (sA σ 6 i.toNatClampNeg v)) H1 → va_D A (xW G q (sA σ 6 i.toNatClampNeg v)) → va_S A s.heap H1 locs1 → W p l e R s m args below meth c H1 locs1 cells slots Q (F0 m (pc + 1) ls rest)) : W p l e R s m args below meth c H locs cells slots Q (F0 m pc ls (.int v :: .int i :: .ref (q 12) :: rest)) :=
  va_iast C.1 C.2.1 C.2.2.2.2.2.1 hP hD hS 12 0 rfl rfl hin hdg (fun H1 locs1 hP1 hD1 hS1 => kk H1 locs1 ((xSt6 σ i.toNatClampNeg v) ▸ hP1) ((xSt6 σ i.toNatClampNeg v) ▸ hD1) hS1)
theorem ldX_7 {i : Int32} (C : Cx G p s m args meth c cc nL ret k own A) (hP : va_P G.1 vwCl (xW G q σ) H) (hin : vp_in i 5) (hdg : decode cc pc = .ok (.iaload, 1)) (kk : W p l e R s m args below meth c H locs cells slots Q (F0 m (pc + 1) ls (.int (σ.2 7 i.toNatClampNeg) :: rest))) : W p l e R s m args below meth c H locs cells slots Q (F0 m pc ls (.int i :: .ref (q 13) :: rest)) :=
  va_iald C.1 C.2.1 C.2.2.2.2.2.1 hP 13 0 rfl rfl hin hdg kk
theorem stX_7 {i v : Int32} (C : Cx G p s m args meth c cc nL ret k own A) (hP : va_P G.1 vwCl (xW G q σ) H) (hD : va_D A (xW G q σ)) (hS : va_S A s.heap H locs) (hin : vp_in i 5) (hdg : decode cc pc = .ok (.iastore, 1)) (kk : ∀ (H1 : Heap) (locs1 : List Loc), va_P G.1 vwCl (xW G q (sA σ 7 i.toNatClampNeg v)) H1 → va_D A (xW G q (sA σ 7 i.toNatClampNeg v)) → va_S A s.heap H1 locs1 → W p l e R s m args below meth c H1 locs1 cells slots Q (F0 m (pc + 1) ls rest)) : W p l e R s m args below meth c H locs cells slots Q (F0 m pc ls (.int v :: .int i :: .ref (q 13) :: rest)) :=
  va_iast C.1 C.2.1 C.2.2.2.2.2.1 hP hD hS 13 0 rfl rfl hin hdg (fun H1 locs1 hP1 hD1 hS1 => kk H1 locs1 ((xSt7 σ i.toNatClampNeg v) ▸ hP1) ((xSt7 σ i.toNatClampNeg v) ▸ hD1) hS1)
theorem ldX_8 {i : Int32} (C : Cx G p s m args meth c cc nL ret k own A) (hP : va_P G.1 vwCl (xW G q σ) H) (hin : vp_in i 1099) (hdg : decode cc pc = .ok (.iaload, 1)) (kk : W p l e R s m args below meth c H locs cells slots Q (F0 m (pc + 1) ls (.int (σ.2 8 i.toNatClampNeg) :: rest))) : W p l e R s m args below meth c H locs cells slots Q (F0 m pc ls (.int i :: .ref (q 14) :: rest)) :=
  va_iald C.1 C.2.1 C.2.2.2.2.2.1 hP 14 0 rfl rfl hin hdg kk
theorem stX_8 {i v : Int32} (C : Cx G p s m args meth c cc nL ret k own A) (hP : va_P G.1 vwCl (xW G q σ) H) (hD : va_D A (xW G q σ)) (hS : va_S A s.heap H locs) (hin : vp_in i 1099) (hdg : decode cc pc = .ok (.iastore, 1)) (kk : ∀ (H1 : Heap) (locs1 : List Loc), va_P G.1 vwCl (xW G q (sA σ 8 i.toNatClampNeg v)) H1 → va_D A (xW G q (sA σ 8 i.toNatClampNeg v)) → va_S A s.heap H1 locs1 → W p l e R s m args below meth c H1 locs1 cells slots Q (F0 m (pc + 1) ls rest)) : W p l e R s m args below meth c H locs cells slots Q (F0 m pc ls (.int v :: .int i :: .ref (q 14) :: rest)) :=
  va_iast C.1 C.2.1 C.2.2.2.2.2.1 hP hD hS 14 0 rfl rfl hin hdg (fun H1 locs1 hP1 hD1 hS1 => kk H1 locs1 ((xSt8 σ i.toNatClampNeg v) ▸ hP1) ((xSt8 σ i.toNatClampNeg v) ▸ hD1) hS1)
theorem ldX_9 {i : Int32} (C : Cx G p s m args meth c cc nL ret k own A) (hP : va_P G.1 vwCl (xW G q σ) H) (hin : vp_in i 8) (hdg : decode cc pc = .ok (.iaload, 1)) (kk : W p l e R s m args below meth c H locs cells slots Q (F0 m (pc + 1) ls (.int (σ.2 9 i.toNatClampNeg) :: rest))) : W p l e R s m args below meth c H locs cells slots Q (F0 m pc ls (.int i :: .ref (q 15) :: rest)) :=
  va_iald C.1 C.2.1 C.2.2.2.2.2.1 hP 15 0 rfl rfl hin hdg kk
theorem stX_9 {i v : Int32} (C : Cx G p s m args meth c cc nL ret k own A) (hP : va_P G.1 vwCl (xW G q σ) H) (hD : va_D A (xW G q σ)) (hS : va_S A s.heap H locs) (hin : vp_in i 8) (hdg : decode cc pc = .ok (.iastore, 1)) (kk : ∀ (H1 : Heap) (locs1 : List Loc), va_P G.1 vwCl (xW G q (sA σ 9 i.toNatClampNeg v)) H1 → va_D A (xW G q (sA σ 9 i.toNatClampNeg v)) → va_S A s.heap H1 locs1 → W p l e R s m args below meth c H1 locs1 cells slots Q (F0 m (pc + 1) ls rest)) : W p l e R s m args below meth c H locs cells slots Q (F0 m pc ls (.int v :: .int i :: .ref (q 15) :: rest)) :=
  va_iast C.1 C.2.1 C.2.2.2.2.2.1 hP hD hS 15 0 rfl rfl hin hdg (fun H1 locs1 hP1 hD1 hS1 => kk H1 locs1 ((xSt9 σ i.toNatClampNeg v) ▸ hP1) ((xSt9 σ i.toNatClampNeg v) ▸ hD1) hS1)
theorem ldX_10 {i : Int32} (C : Cx G p s m args meth c cc nL ret k own A) (hP : va_P G.1 vwCl (xW G q σ) H) (hin : vp_in i 8) (hdg : decode cc pc = .ok (.iaload, 1)) (kk : W p l e R s m args below meth c H locs cells slots Q (F0 m (pc + 1) ls (.int (σ.2 10 i.toNatClampNeg) :: rest))) : W p l e R s m args below meth c H locs cells slots Q (F0 m pc ls (.int i :: .ref (q 16) :: rest)) :=
  va_iald C.1 C.2.1 C.2.2.2.2.2.1 hP 16 0 rfl rfl hin hdg kk
theorem stX_10 {i v : Int32} (C : Cx G p s m args meth c cc nL ret k own A) (hP : va_P G.1 vwCl (xW G q σ) H) (hD : va_D A (xW G q σ)) (hS : va_S A s.heap H locs) (hin : vp_in i 8) (hdg : decode cc pc = .ok (.iastore, 1)) (kk : ∀ (H1 : Heap) (locs1 : List Loc), va_P G.1 vwCl (xW G q (sA σ 10 i.toNatClampNeg v)) H1 → va_D A (xW G q (sA σ 10 i.toNatClampNeg v)) → va_S A s.heap H1 locs1 → W p l e R s m args below meth c H1 locs1 cells slots Q (F0 m (pc + 1) ls rest)) : W p l e R s m args below meth c H locs cells slots Q (F0 m pc ls (.int v :: .int i :: .ref (q 16) :: rest)) :=
  va_iast C.1 C.2.1 C.2.2.2.2.2.1 hP hD hS 16 0 rfl rfl hin hdg (fun H1 locs1 hP1 hD1 hS1 => kk H1 locs1 ((xSt10 σ i.toNatClampNeg v) ▸ hP1) ((xSt10 σ i.toNatClampNeg v) ▸ hD1) hS1)
theorem ldX_11 {i : Int32} (C : Cx G p s m args meth c cc nL ret k own A) (hP : va_P G.1 vwCl (xW G q σ) H) (hin : vp_in i 12) (hdg : decode cc pc = .ok (.iaload, 1)) (kk : W p l e R s m args below meth c H locs cells slots Q (F0 m (pc + 1) ls (.int (σ.2 11 i.toNatClampNeg) :: rest))) : W p l e R s m args below meth c H locs cells slots Q (F0 m pc ls (.int i :: .ref (q 17) :: rest)) :=
  va_iald C.1 C.2.1 C.2.2.2.2.2.1 hP 17 0 rfl rfl hin hdg kk
theorem stX_11 {i v : Int32} (C : Cx G p s m args meth c cc nL ret k own A) (hP : va_P G.1 vwCl (xW G q σ) H) (hD : va_D A (xW G q σ)) (hS : va_S A s.heap H locs) (hin : vp_in i 12) (hdg : decode cc pc = .ok (.iastore, 1)) (kk : ∀ (H1 : Heap) (locs1 : List Loc), va_P G.1 vwCl (xW G q (sA σ 11 i.toNatClampNeg v)) H1 → va_D A (xW G q (sA σ 11 i.toNatClampNeg v)) → va_S A s.heap H1 locs1 → W p l e R s m args below meth c H1 locs1 cells slots Q (F0 m (pc + 1) ls rest)) : W p l e R s m args below meth c H locs cells slots Q (F0 m pc ls (.int v :: .int i :: .ref (q 17) :: rest)) :=
  va_iast C.1 C.2.1 C.2.2.2.2.2.1 hP hD hS 17 0 rfl rfl hin hdg (fun H1 locs1 hP1 hD1 hS1 => kk H1 locs1 ((xSt11 σ i.toNatClampNeg v) ▸ hP1) ((xSt11 σ i.toNatClampNeg v) ▸ hD1) hS1)
theorem ldX_12 {i : Int32} (C : Cx G p s m args meth c cc nL ret k own A) (hP : va_P G.1 vwCl (xW G q σ) H) (hin : vp_in i 12) (hdg : decode cc pc = .ok (.iaload, 1)) (kk : W p l e R s m args below meth c H locs cells slots Q (F0 m (pc + 1) ls (.int (σ.2 12 i.toNatClampNeg) :: rest))) : W p l e R s m args below meth c H locs cells slots Q (F0 m pc ls (.int i :: .ref (q 18) :: rest)) :=
  va_iald C.1 C.2.1 C.2.2.2.2.2.1 hP 18 0 rfl rfl hin hdg kk
theorem stX_12 {i v : Int32} (C : Cx G p s m args meth c cc nL ret k own A) (hP : va_P G.1 vwCl (xW G q σ) H) (hD : va_D A (xW G q σ)) (hS : va_S A s.heap H locs) (hin : vp_in i 12) (hdg : decode cc pc = .ok (.iastore, 1)) (kk : ∀ (H1 : Heap) (locs1 : List Loc), va_P G.1 vwCl (xW G q (sA σ 12 i.toNatClampNeg v)) H1 → va_D A (xW G q (sA σ 12 i.toNatClampNeg v)) → va_S A s.heap H1 locs1 → W p l e R s m args below meth c H1 locs1 cells slots Q (F0 m (pc + 1) ls rest)) : W p l e R s m args below meth c H locs cells slots Q (F0 m pc ls (.int v :: .int i :: .ref (q 18) :: rest)) :=
  va_iast C.1 C.2.1 C.2.2.2.2.2.1 hP hD hS 18 0 rfl rfl hin hdg (fun H1 locs1 hP1 hD1 hS1 => kk H1 locs1 ((xSt12 σ i.toNatClampNeg v) ▸ hP1) ((xSt12 σ i.toNatClampNeg v) ▸ hD1) hS1)
theorem ldX_13 {i : Int32} (C : Cx G p s m args meth c cc nL ret k own A) (hP : va_P G.1 vwCl (xW G q σ) H) (hin : vp_in i 48) (hdg : decode cc pc = .ok (.iaload, 1)) (kk : W p l e R s m args below meth c H locs cells slots Q (F0 m (pc + 1) ls (.int (σ.2 13 i.toNatClampNeg) :: rest))) : W p l e R s m args below meth c H locs cells slots Q (F0 m pc ls (.int i :: .ref (q 19) :: rest)) :=
  va_iald C.1 C.2.1 C.2.2.2.2.2.1 hP 19 0 rfl rfl hin hdg kk
theorem stX_13 {i v : Int32} (C : Cx G p s m args meth c cc nL ret k own A) (hP : va_P G.1 vwCl (xW G q σ) H) (hD : va_D A (xW G q σ)) (hS : va_S A s.heap H locs) (hin : vp_in i 48) (hdg : decode cc pc = .ok (.iastore, 1)) (kk : ∀ (H1 : Heap) (locs1 : List Loc), va_P G.1 vwCl (xW G q (sA σ 13 i.toNatClampNeg v)) H1 → va_D A (xW G q (sA σ 13 i.toNatClampNeg v)) → va_S A s.heap H1 locs1 → W p l e R s m args below meth c H1 locs1 cells slots Q (F0 m (pc + 1) ls rest)) : W p l e R s m args below meth c H locs cells slots Q (F0 m pc ls (.int v :: .int i :: .ref (q 19) :: rest)) :=
  va_iast C.1 C.2.1 C.2.2.2.2.2.1 hP hD hS 19 0 rfl rfl hin hdg (fun H1 locs1 hP1 hD1 hS1 => kk H1 locs1 ((xSt13 σ i.toNatClampNeg v) ▸ hP1) ((xSt13 σ i.toNatClampNeg v) ▸ hD1) hS1)
theorem ldX_14 {i : Int32} (C : Cx G p s m args meth c cc nL ret k own A) (hP : va_P G.1 vwCl (xW G q σ) H) (hin : vp_in i 4096) (hdg : decode cc pc = .ok (.iaload, 1)) (kk : W p l e R s m args below meth c H locs cells slots Q (F0 m (pc + 1) ls (.int (σ.2 14 i.toNatClampNeg) :: rest))) : W p l e R s m args below meth c H locs cells slots Q (F0 m pc ls (.int i :: .ref (q 20) :: rest)) :=
  va_iald C.1 C.2.1 C.2.2.2.2.2.1 hP 20 0 rfl rfl hin hdg kk
theorem stX_14 {i v : Int32} (C : Cx G p s m args meth c cc nL ret k own A) (hP : va_P G.1 vwCl (xW G q σ) H) (hD : va_D A (xW G q σ)) (hS : va_S A s.heap H locs) (hin : vp_in i 4096) (hdg : decode cc pc = .ok (.iastore, 1)) (kk : ∀ (H1 : Heap) (locs1 : List Loc), va_P G.1 vwCl (xW G q (sA σ 14 i.toNatClampNeg v)) H1 → va_D A (xW G q (sA σ 14 i.toNatClampNeg v)) → va_S A s.heap H1 locs1 → W p l e R s m args below meth c H1 locs1 cells slots Q (F0 m (pc + 1) ls rest)) : W p l e R s m args below meth c H locs cells slots Q (F0 m pc ls (.int v :: .int i :: .ref (q 20) :: rest)) :=
  va_iast C.1 C.2.1 C.2.2.2.2.2.1 hP hD hS 20 0 rfl rfl hin hdg (fun H1 locs1 hP1 hD1 hS1 => kk H1 locs1 ((xSt14 σ i.toNatClampNeg v) ▸ hP1) ((xSt14 σ i.toNatClampNeg v) ▸ hD1) hS1)
end
end
section
/-! the calls: what the tables hold of each -/
theorem mc_yX6_station : Cond.code yX6_station cX6_station 3 (some .int) ∈ TB := tbT 175 (by decide +kernel) rfl
theorem mc_yX1_addStation : Cond.code yX1_addStation cX1_addStation 3 (some .int) ∈ TB := tbT 179 (by decide +kernel) rfl
theorem mc_yX6_within : Cond.code yX6_within cX6_within 3 (some .boolean) ∈ TB := tbT 182 (by decide +kernel) rfl
theorem mc_yX6_plan : Cond.code yX6_plan cX6_plan 3 (some .int) ∈ TB := tbT 186 (by decide +kernel) rfl
theorem mc_yX1_change : Cond.code yX1_change cX1_change 4 (some .int) ∈ TB := tbT 190 (by decide +kernel) rfl
theorem mc_yX6_oscillator : Cond.code yX6_oscillator cX6_oscillator 2 (some .int) ∈ TB := tbT 198 (by decide +kernel) rfl
theorem mc_yX1_hasStation : Cond.code yX1_hasStation cX1_hasStation 2 (some .boolean) ∈ TB := tbT 202 (by decide +kernel) rfl
theorem mc_yX1_middle : Cond.code yX1_middle cX1_middle 1 (some .int) ∈ TB := tbT 206 (by decide +kernel) rfl
theorem mc_yX1_oscillatorFor : Cond.code yX1_oscillatorFor cX1_oscillatorFor 3 (some .int) ∈ TB := tbT 210 (by decide +kernel) rfl
theorem mc_yX1_isOver : Cond.code yX1_isOver cX1_isOver 1 (some .boolean) ∈ TB := tbT 214 (by decide +kernel) rfl
theorem mc_yX6_spurs : Cond.code yX6_spurs cX6_spurs 2 (some .int) ∈ TB := tbT 219 (by decide +kernel) rfl
theorem mc_yX1_spursOf : Cond.code yX1_spursOf cX1_spursOf 2 (some .int) ∈ TB := tbT 223 (by decide +kernel) rfl
theorem mc_yX1_gather : Cond.code yX1_gather cX1_gather 8 none ∈ TB := tbT 228 (by decide +kernel) rfl
theorem mc_yX4_begin : Cond.code yX4_begin cX4_begin 2 none ∈ TB := tbT 232 (by decide +kernel) rfl
theorem mc_yX1_gatherSums : Cond.code yX1_gatherSums cX1_gatherSums 10 none ∈ TB := tbT 237 (by decide +kernel) rfl
theorem mc_yX1_fallsOn : Cond.code yX1_fallsOn cX1_fallsOn 3 (some .boolean) ∈ TB := tbT 241 (by decide +kernel) rfl
theorem mc_yJ9_abs_0f7a4 : Cond.code yJ9_abs_0f7a4 cJ9_abs_0f7a4 1 (some .int) ∈ TB := tbT 244 (by decide +kernel) rfl
theorem mc_yX4_take : Cond.code yX4_take cX4_take 6 none ∈ TB := tbT 248 (by decide +kernel) rfl
theorem mc_yX4_number : Cond.code yX4_number cX4_number 1 (some .int) ∈ TB := tbT 252 (by decide +kernel) rfl
theorem mc_yX6_spur : Cond.code yX6_spur cX6_spur 4 (some .int) ∈ TB := tbT 256 (by decide +kernel) rfl
theorem mc_yX1_ofSpur : Cond.code yX1_ofSpur cX1_ofSpur 4 (some .int) ∈ TB := tbT 260 (by decide +kernel) rfl
theorem mc_yX4_factOfWanted : Cond.code yX4_factOfWanted cX4_factOfWanted 2 (some .int) ∈ TB := tbT 264 (by decide +kernel) rfl
theorem mc_yX6_image : Cond.code yX6_image cX6_image 3 (some .int) ∈ TB := tbT 269 (by decide +kernel) rfl
theorem mc_yX1_isImage : Cond.code yX1_isImage cX1_isImage 4 (some .boolean) ∈ TB := tbT 273 (by decide +kernel) rfl
theorem mc_yX6_worst : Cond.code yX6_worst cX6_worst 2 (some .int) ∈ TB := tbT 277 (by decide +kernel) rfl
theorem mc_yX1_worstOf : Cond.code yX1_worstOf cX1_worstOf 2 (some .int) ∈ TB := tbT 281 (by decide +kernel) rfl
theorem mc_yX4_heaviest : Cond.code yX4_heaviest cX4_heaviest 1 (some .int) ∈ TB := tbT 285 (by decide +kernel) rfl
theorem mc_yX6_birdies : Cond.code yX6_birdies cX6_birdies 1 (some .int) ∈ TB := tbT 289 (by decide +kernel) rfl
theorem mc_yX1_birdiesFor : Cond.code yX1_birdiesFor cX1_birdiesFor 5 (some .int) ∈ TB := tbT 293 (by decide +kernel) rfl
theorem mc_yX6_load : Cond.code yX6_load cX6_load 2 (some .int) ∈ TB := tbT 297 (by decide +kernel) rfl
theorem mc_yX1_loadFor : Cond.code yX1_loadFor cX1_loadFor 4 (some .int) ∈ TB := tbT 302 (by decide +kernel) rfl
theorem mc_yX4_weights : Cond.code yX4_weights cX4_weights 1 (some .int) ∈ TB := tbT 307 (by decide +kernel) rfl
theorem mc_yX6_best : Cond.code yX6_best cX6_best 4 (some .int) ∈ TB := tbT 311 (by decide +kernel) rfl
theorem mc_yX1_bestMiddle : Cond.code yX1_bestMiddle cX1_bestMiddle 8 (some .int) ∈ TB := tbT 315 (by decide +kernel) rfl
theorem mc_yX6_gang : Cond.code yX6_gang cX6_gang 3 (some .int) ∈ TB := tbT 320 (by decide +kernel) rfl
theorem mc_yX5_changeGang : Cond.code yX5_changeGang cX5_changeGang 3 (some .int) ∈ TB := tbT 324 (by decide +kernel) rfl
theorem mc_yX6_part : Cond.code yX6_part cX6_part 3 (some .int) ∈ TB := tbT 329 (by decide +kernel) rfl
theorem mc_yX5_changePart : Cond.code yX5_changePart cX5_changePart 4 (some .int) ∈ TB := tbT 333 (by decide +kernel) rfl
theorem mc_yX6_tuned : Cond.code yX6_tuned cX6_tuned 3 (some .int) ∈ TB := tbT 341 (by decide +kernel) rfl
theorem mc_yX6_isPlace : Cond.code yX6_isPlace cX6_isPlace 1 (some .boolean) ∈ TB := tbT 344 (by decide +kernel) rfl
theorem mc_yX5_tunedAt : Cond.code yX5_tunedAt cX5_tunedAt 3 (some .int) ∈ TB := tbT 348 (by decide +kernel) rfl
theorem mc_yX5_signalTuned : Cond.code yX5_signalTuned cX5_signalTuned 2 (some .int) ∈ TB := tbT 352 (by decide +kernel) rfl
theorem mc_yX5_capacityAt : Cond.code yX5_capacityAt cX5_capacityAt 2 (some .int) ∈ TB := tbT 356 (by decide +kernel) rfl
theorem mc_yX5_tunedTo : Cond.code yX5_tunedTo cX5_tunedTo 12 (some .int) ∈ TB := tbT 359 (by decide +kernel) rfl
theorem mc_yX5_padded : Cond.code yX5_padded cX5_padded 4 (some .int) ∈ TB := tbT 364 (by decide +kernel) rfl
theorem mc_yX6_error : Cond.code yX6_error cX6_error 2 (some .int) ∈ TB := tbT 368 (by decide +kernel) rfl
theorem mc_yX5_ownParts : Cond.code yX5_ownParts cX5_ownParts 1 (some (.array .int)) ∈ TB := tbT 372 (by decide +kernel) rfl
theorem mc_yX5_errorAt : Cond.code yX5_errorAt cX5_errorAt 7 (some .int) ∈ TB := tbT 377 (by decide +kernel) rfl
theorem mc_yX6_point : Cond.code yX6_point cX6_point 3 (some .int) ∈ TB := tbT 382 (by decide +kernel) rfl
theorem mc_yX5_changePoint : Cond.code yX5_changePoint cX5_changePoint 5 (some .int) ∈ TB := tbT 386 (by decide +kernel) rfl
theorem mc_yX5_indexOfPoint : Cond.code yX5_indexOfPoint cX5_indexOfPoint 3 (some .int) ∈ TB := tbT 391 (by decide +kernel) rfl
theorem mc_yX6_off : Cond.code yX6_off cX6_off 1 (some .int) ∈ TB := tbT 395 (by decide +kernel) rfl
theorem mc_yX5_errorWith : Cond.code yX5_errorWith cX5_errorWith 5 (some .int) ∈ TB := tbT 399 (by decide +kernel) rfl
theorem mc_yX6_trimmed : Cond.code yX6_trimmed cX6_trimmed 3 (some .int) ∈ TB := tbT 405 (by decide +kernel) rfl
theorem mc_yX5_bestTrim : Cond.code yX5_bestTrim cX5_bestTrim 11 (some .int) ∈ TB := tbT 409 (by decide +kernel) rfl
theorem mc_yX5_prepareTrim : Cond.code yX5_prepareTrim cX5_prepareTrim 4 none ∈ TB := tbT 413 (by decide +kernel) rfl
theorem mc_yX5_rankOfTrim : Cond.code yX5_rankOfTrim cX5_rankOfTrim 8 (some .long) ∈ TB := tbT 418 (by decide +kernel) rfl
theorem mc_yJ9_min_7cf53 : Cond.code yJ9_min_7cf53 cJ9_min_7cf53 2 (some .int) ∈ TB := tbT 421 (by decide +kernel) rfl
theorem mc_yJ9_max_7cf53 : Cond.code yJ9_max_7cf53 cJ9_max_7cf53 2 (some .int) ∈ TB := tbT 424 (by decide +kernel) rfl
theorem mc_yX6_mark : Cond.code yX6_mark cX6_mark 2 (some .int) ∈ TB := tbT 428 (by decide +kernel) rfl
theorem mc_yX5_markOf : Cond.code yX5_markOf cX5_markOf 6 (some .int) ∈ TB := tbT 433 (by decide +kernel) rfl
theorem mc_yX6_set : Cond.code yX6_set cX6_set 1 (some .int) ∈ TB := tbT 438 (by decide +kernel) rfl
theorem mc_yX0_build : Cond.code yX0_build cX0_build 1 (some .int) ∈ TB := tbT 442 (by decide +kernel) rfl
theorem mc_yX6_offBy : Cond.code yX6_offBy cX6_offBy 4 (some .int) ∈ TB := tbT 472 (by decide +kernel) rfl
theorem mc_yX0_putOff : Cond.code yX0_putOff cX0_putOff 5 (some .int) ∈ TB := tbT 476 (by decide +kernel) rfl
theorem mc_yX0_find : Cond.code yX0_find cX0_find 2 (some (.object "RadioRoom$RadioSet")) ∈ TB := tbT 480 (by decide +kernel) rfl
theorem mc_yX0_isPart : Cond.code yX0_isPart cX0_isPart 1 (some .boolean) ∈ TB := tbT 484 (by decide +kernel) rfl
theorem mc_yX3_changeOffset : Cond.code yX3_changeOffset cX3_changeOffset 4 (some .int) ∈ TB := tbT 489 (by decide +kernel) rfl
theorem mc_yX3_settle : Cond.code yX3_settle cX3_settle 3 none ∈ TB := tbT 493 (by decide +kernel) rfl
theorem mc_yX6_ofSet : Cond.code yX6_ofSet cX6_ofSet 4 (some .int) ∈ TB := tbT 501 (by decide +kernel) rfl
theorem mc_yX0_ofPart : Cond.code yX0_ofPart cX0_ofPart 5 (some .int) ∈ TB := tbT 505 (by decide +kernel) rfl
theorem mc_yX3_partsNow : Cond.code yX3_partsNow cX3_partsNow 1 (some (.array .int)) ∈ TB := tbT 509 (by decide +kernel) rfl
theorem mc_yX3_turnedBy : Cond.code yX3_turnedBy cX3_turnedBy 2 (some .int) ∈ TB := tbT 513 (by decide +kernel) rfl
theorem mc_yX6_errorOf : Cond.code yX6_errorOf cX6_errorOf 2 (some .int) ∈ TB := tbT 517 (by decide +kernel) rfl
theorem mc_yX0_errorOfNumber : Cond.code yX0_errorOfNumber cX0_errorOfNumber 3 (some .int) ∈ TB := tbT 521 (by decide +kernel) rfl
theorem mc_yX3_builtMiddle : Cond.code yX3_builtMiddle cX3_builtMiddle 1 (some .int) ∈ TB := tbT 525 (by decide +kernel) rfl
theorem mc_yX6_sheet : Cond.code yX6_sheet cX6_sheet 3 (some .int) ∈ TB := tbT 530 (by decide +kernel) rfl
theorem mc_yX0_addLine : Cond.code yX0_addLine cX0_addLine 3 (some .int) ∈ TB := tbT 534 (by decide +kernel) rfl
theorem mc_yX6_round : Cond.code yX6_round cX6_round 2 (some .int) ∈ TB := tbT 538 (by decide +kernel) rfl
theorem mc_yX0_goRound : Cond.code yX0_goRound cX0_goRound 3 (some .int) ∈ TB := tbT 542 (by decide +kernel) rfl
theorem mc_yX0_turnByLines : Cond.code yX0_turnByLines cX0_turnByLines 5 (some .int) ∈ TB := tbT 546 (by decide +kernel) rfl
theorem mc_yX0_turnWhileLess : Cond.code yX0_turnWhileLess cX0_turnWhileLess 7 (some .int) ∈ TB := tbT 550 (by decide +kernel) rfl
theorem mc_yX3_turn : Cond.code yX3_turn cX3_turn 3 none ∈ TB := tbT 554 (by decide +kernel) rfl
theorem mc_yX6_align : Cond.code yX6_align cX6_align 2 (some .int) ∈ TB := tbT 558 (by decide +kernel) rfl
theorem mc_yX0_goRounds : Cond.code yX0_goRounds cX0_goRounds 4 (some .int) ∈ TB := tbT 562 (by decide +kernel) rfl
theorem mc_yX6_fault : Cond.code yX6_fault cX6_fault 2 (some .int) ∈ TB := tbT 566 (by decide +kernel) rfl
theorem mc_yX2_addFault : Cond.code yX2_addFault cX2_addFault 2 (some .int) ∈ TB := tbT 570 (by decide +kernel) rfl
theorem mc_yX6_test : Cond.code yX6_test cX6_test 2 (some .int) ∈ TB := tbT 575 (by decide +kernel) rfl
theorem mc_yX2_addTest : Cond.code yX2_addTest cX2_addTest 2 (some .int) ∈ TB := tbT 579 (by decide +kernel) rfl
theorem mc_yX6_reading : Cond.code yX6_reading cX6_reading 4 (some .int) ∈ TB := tbT 583 (by decide +kernel) rfl
theorem mc_yX2_changeReading : Cond.code yX2_changeReading cX2_changeReading 7 (some .int) ∈ TB := tbT 587 (by decide +kernel) rfl
theorem mc_yX2_isTest : Cond.code yX2_isTest cX2_isTest 2 (some .boolean) ∈ TB := tbT 591 (by decide +kernel) rfl
theorem mc_yX2_isReading : Cond.code yX2_isReading cX2_isReading 1 (some .boolean) ∈ TB := tbT 594 (by decide +kernel) rfl
theorem mc_yX6_read : Cond.code yX6_read cX6_read 3 (some .int) ∈ TB := tbT 598 (by decide +kernel) rfl
theorem mc_yX2_takeReading : Cond.code yX2_takeReading cX2_takeReading 4 (some .int) ∈ TB := tbT 602 (by decide +kernel) rfl
theorem mc_yJ6_bitCount_0f7a4 : Cond.code yJ6_bitCount_0f7a4 cJ6_bitCount_0f7a4 1 (some .int) ∈ TB := tbT 605 (by decide +kernel) rfl
theorem mc_yX6_again : Cond.code yX6_again cX6_again 1 (some .int) ∈ TB := tbT 612 (by decide +kernel) rfl
theorem mc_yX2_startAgain : Cond.code yX2_startAgain cX2_startAgain 2 (some .int) ∈ TB := tbT 616 (by decide +kernel) rfl
theorem mc_yX6_left : Cond.code yX6_left cX6_left 2 (some .int) ∈ TB := tbT 620 (by decide +kernel) rfl
theorem mc_yX2_leftBits : Cond.code yX2_leftBits cX2_leftBits 1 (some .int) ∈ TB := tbT 624 (by decide +kernel) rfl
theorem mc_yX2_nextBest : Cond.code yX2_nextBest cX2_nextBest 6 (some .int) ∈ TB := tbT 628 (by decide +kernel) rfl
theorem mc_yX2_partsSet : Cond.code yX2_partsSet cX2_partsSet 4 (some .boolean) ∈ TB := tbT 633 (by decide +kernel) rfl
theorem mc_yX2_greatestLikelihood : Cond.code yX2_greatestLikelihood cX2_greatestLikelihood 4 (some .int) ∈ TB := tbT 637 (by decide +kernel) rfl
theorem mc_yX2_likelihoodOf : Cond.code yX2_likelihoodOf cX2_likelihoodOf 4 (some .int) ∈ TB := tbT 641 (by decide +kernel) rfl
theorem mc_yX2_leastCost : Cond.code yX2_leastCost cX2_leastCost 4 (some .int) ∈ TB := tbT 646 (by decide +kernel) rfl
theorem mc_yX2_costOfParting : Cond.code yX2_costOfParting cX2_costOfParting 6 (some .int) ∈ TB := tbT 650 (by decide +kernel) rfl
theorem mc_yX2_dearestPart : Cond.code yX2_dearestPart cX2_dearestPart 5 (some .int) ∈ TB := tbT 654 (by decide +kernel) rfl
theorem mc_yX6_count : Cond.code yX6_count cX6_count 2 (some .int) ∈ TB := tbT 659 (by decide +kernel) rfl
theorem mc_yX1_stations : Cond.code yX1_stations cX1_stations 1 (some .int) ∈ TB := tbT 663 (by decide +kernel) rfl
theorem mc_yX1_spursOfAll : Cond.code yX1_spursOfAll cX1_spursOfAll 3 (some .int) ∈ TB := tbT 667 (by decide +kernel) rfl
theorem mc_yX5_points : Cond.code yX5_points cX5_points 1 (some .int) ∈ TB := tbT 672 (by decide +kernel) rfl
theorem mc_yX0_sets : Cond.code yX0_sets cX0_sets 1 (some .int) ∈ TB := tbT 676 (by decide +kernel) rfl
theorem mc_yX0_lines : Cond.code yX0_lines cX0_lines 1 (some .int) ∈ TB := tbT 680 (by decide +kernel) rfl
theorem mc_yX2_faults : Cond.code yX2_faults cX2_faults 1 (some .int) ∈ TB := tbT 684 (by decide +kernel) rfl
theorem mc_yX2_tests : Cond.code yX2_tests cX2_tests 1 (some .int) ∈ TB := tbT 688 (by decide +kernel) rfl
theorem mc_yX7_station : Cond.code yX7_station cX7_station 3 (some .int) ∈ TB := tbT 793 (by decide +kernel) rfl
theorem mc_yX7_within : Cond.code yX7_within cX7_within 3 (some .boolean) ∈ TB := tbT 796 (by decide +kernel) rfl
theorem mc_yX7_plan : Cond.code yX7_plan cX7_plan 5 (some .int) ∈ TB := tbT 800 (by decide +kernel) rfl
theorem mc_yX7_isMiddle : Cond.code yX7_isMiddle cX7_isMiddle 1 (some .boolean) ∈ TB := tbT 803 (by decide +kernel) rfl
theorem mc_yX7_oscillator : Cond.code yX7_oscillator cX7_oscillator 2 (some .int) ∈ TB := tbT 807 (by decide +kernel) rfl
theorem mc_yX7_isStation : Cond.code yX7_isStation cX7_isStation 2 (some .boolean) ∈ TB := tbT 811 (by decide +kernel) rfl
theorem mc_yX7_oscillatorOf : Cond.code yX7_oscillatorOf cX7_oscillatorOf 3 (some .int) ∈ TB := tbT 815 (by decide +kernel) rfl
theorem mc_yX7_spurs : Cond.code yX7_spurs cX7_spurs 2 (some .int) ∈ TB := tbT 820 (by decide +kernel) rfl
theorem mc_yX7_goSpurs : Cond.code yX7_goSpurs cX7_goSpurs 9 (some .int) ∈ TB := tbT 824 (by decide +kernel) rfl
theorem mc_yX7_falls : Cond.code yX7_falls cX7_falls 9 (some .boolean) ∈ TB := tbT 828 (by decide +kernel) rfl
theorem mc_yX7_size : Cond.code yX7_size cX7_size 1 (some .int) ∈ TB := tbT 831 (by decide +kernel) rfl
theorem mc_yX7_spur : Cond.code yX7_spur cX7_spur 4 (some .int) ∈ TB := tbT 835 (by decide +kernel) rfl
theorem mc_yX7_weightAtHand : Cond.code yX7_weightAtHand cX7_weightAtHand 1 (some .int) ∈ TB := tbT 839 (by decide +kernel) rfl
theorem mc_yX7_image : Cond.code yX7_image cX7_image 3 (some .int) ∈ TB := tbT 843 (by decide +kernel) rfl
theorem mc_yX7_worst : Cond.code yX7_worst cX7_worst 7 (some .int) ∈ TB := tbT 847 (by decide +kernel) rfl
theorem mc_yX7_birdies : Cond.code yX7_birdies cX7_birdies 1 (some .int) ∈ TB := tbT 851 (by decide +kernel) rfl
theorem mc_yX7_birdiesOf : Cond.code yX7_birdiesOf cX7_birdiesOf 5 (some .int) ∈ TB := tbT 855 (by decide +kernel) rfl
theorem mc_yX7_load : Cond.code yX7_load cX7_load 2 (some .int) ∈ TB := tbT 859 (by decide +kernel) rfl
theorem mc_yX7_loadOf : Cond.code yX7_loadOf cX7_loadOf 7 (some .int) ∈ TB := tbT 863 (by decide +kernel) rfl
theorem mc_yX7_best : Cond.code yX7_best cX7_best 8 (some .int) ∈ TB := tbT 867 (by decide +kernel) rfl
theorem mc_yX7_gang : Cond.code yX7_gang cX7_gang 3 (some .int) ∈ TB := tbT 871 (by decide +kernel) rfl
theorem mc_yX7_part : Cond.code yX7_part cX7_part 4 (some .int) ∈ TB := tbT 875 (by decide +kernel) rfl
theorem mc_yX7_isPart : Cond.code yX7_isPart cX7_isPart 2 (some .boolean) ∈ TB := tbT 878 (by decide +kernel) rfl
theorem mc_yX7_tuned : Cond.code yX7_tuned cX7_tuned 3 (some .int) ∈ TB := tbT 882 (by decide +kernel) rfl
theorem mc_yX7_isPlace : Cond.code yX7_isPlace cX7_isPlace 1 (some .boolean) ∈ TB := tbT 885 (by decide +kernel) rfl
theorem mc_yX7_signalAt : Cond.code yX7_signalAt cX7_signalAt 4 (some .int) ∈ TB := tbT 889 (by decide +kernel) rfl
theorem mc_yX7_gangAt : Cond.code yX7_gangAt cX7_gangAt 2 (some .int) ∈ TB := tbT 893 (by decide +kernel) rfl
theorem mc_yX7_tunedTo : Cond.code yX7_tunedTo cX7_tunedTo 2 (some .int) ∈ TB := tbT 896 (by decide +kernel) rfl
theorem mc_yX7_root : Cond.code yX7_root cX7_root 8 (some .int) ∈ TB := tbT 900 (by decide +kernel) rfl
theorem mc_yX7_oscillatorAt : Cond.code yX7_oscillatorAt cX7_oscillatorAt 7 (some .int) ∈ TB := tbT 906 (by decide +kernel) rfl
theorem mc_yX7_error : Cond.code yX7_error cX7_error 2 (some .int) ∈ TB := tbT 910 (by decide +kernel) rfl
theorem mc_yX7_errorAt : Cond.code yX7_errorAt cX7_errorAt 8 (some .int) ∈ TB := tbT 914 (by decide +kernel) rfl
theorem mc_yX7_errorBy : Cond.code yX7_errorBy cX7_errorBy 4 (some .int) ∈ TB := tbT 918 (by decide +kernel) rfl
theorem mc_yX7_point : Cond.code yX7_point cX7_point 5 (some .int) ∈ TB := tbT 922 (by decide +kernel) rfl
theorem mc_yX7_off : Cond.code yX7_off cX7_off 1 (some .int) ∈ TB := tbT 926 (by decide +kernel) rfl
theorem mc_yX7_offWith : Cond.code yX7_offWith cX7_offWith 9 (some .int) ∈ TB := tbT 930 (by decide +kernel) rfl
theorem mc_yX7_trimmed : Cond.code yX7_trimmed cX7_trimmed 12 (some .int) ∈ TB := tbT 934 (by decide +kernel) rfl
theorem mc_yX7_mark : Cond.code yX7_mark cX7_mark 4 (some .int) ∈ TB := tbT 938 (by decide +kernel) rfl
theorem mc_yX7_set : Cond.code yX7_set cX7_set 2 (some .int) ∈ TB := tbT 943 (by decide +kernel) rfl
theorem mc_yX7_offBy : Cond.code yX7_offBy cX7_offBy 5 (some .int) ∈ TB := tbT 947 (by decide +kernel) rfl
theorem mc_yX7_isSet : Cond.code yX7_isSet cX7_isSet 2 (some .boolean) ∈ TB := tbT 951 (by decide +kernel) rfl
theorem mc_yX7_ofSet : Cond.code yX7_ofSet cX7_ofSet 4 (some .int) ∈ TB := tbT 955 (by decide +kernel) rfl
theorem mc_yX7_valueOf : Cond.code yX7_valueOf cX7_valueOf 6 (some .int) ∈ TB := tbT 959 (by decide +kernel) rfl
theorem mc_yX7_errorOf : Cond.code yX7_errorOf cX7_errorOf 2 (some .int) ∈ TB := tbT 963 (by decide +kernel) rfl
theorem mc_yX7_errorNow : Cond.code yX7_errorNow cX7_errorNow 3 (some .int) ∈ TB := tbT 967 (by decide +kernel) rfl
theorem mc_yX7_sheet : Cond.code yX7_sheet cX7_sheet 3 (some .int) ∈ TB := tbT 971 (by decide +kernel) rfl
theorem mc_yX7_round : Cond.code yX7_round cX7_round 2 (some .int) ∈ TB := tbT 975 (by decide +kernel) rfl
theorem mc_yX7_oneRound : Cond.code yX7_oneRound cX7_oneRound 5 (some .int) ∈ TB := tbT 979 (by decide +kernel) rfl
theorem mc_yX7_turn : Cond.code yX7_turn cX7_turn 8 (some .int) ∈ TB := tbT 983 (by decide +kernel) rfl
theorem mc_yX7_align : Cond.code yX7_align cX7_align 4 (some .int) ∈ TB := tbT 987 (by decide +kernel) rfl
theorem mc_yX7_fault : Cond.code yX7_fault cX7_fault 2 (some .int) ∈ TB := tbT 991 (by decide +kernel) rfl
theorem mc_yX7_test : Cond.code yX7_test cX7_test 2 (some .int) ∈ TB := tbT 995 (by decide +kernel) rfl
theorem mc_yX7_reading : Cond.code yX7_reading cX7_reading 5 (some .int) ∈ TB := tbT 999 (by decide +kernel) rfl
theorem mc_yX7_isTest : Cond.code yX7_isTest cX7_isTest 2 (some .boolean) ∈ TB := tbT 1003 (by decide +kernel) rfl
theorem mc_yX7_read : Cond.code yX7_read cX7_read 4 (some .int) ∈ TB := tbT 1007 (by decide +kernel) rfl
theorem mc_yX7_leaves : Cond.code yX7_leaves cX7_leaves 6 (some .int) ∈ TB := tbT 1011 (by decide +kernel) rfl
theorem mc_yX7_bitsOf : Cond.code yX7_bitsOf cX7_bitsOf 3 (some .int) ∈ TB := tbT 1014 (by decide +kernel) rfl
theorem mc_yX7_again : Cond.code yX7_again cX7_again 2 (some .int) ∈ TB := tbT 1018 (by decide +kernel) rfl
theorem mc_yX7_left : Cond.code yX7_left cX7_left 3 (some .int) ∈ TB := tbT 1022 (by decide +kernel) rfl
theorem mc_yX7_nextBest : Cond.code yX7_nextBest cX7_nextBest 9 (some .int) ∈ TB := tbT 1026 (by decide +kernel) rfl
theorem mc_yX7_parts : Cond.code yX7_parts cX7_parts 6 (some .boolean) ∈ TB := tbT 1030 (by decide +kernel) rfl
theorem mc_yX7_least : Cond.code yX7_least cX7_least 10 (some .int) ∈ TB := tbT 1034 (by decide +kernel) rfl
theorem mc_yX7_count : Cond.code yX7_count cX7_count 4 (some .int) ∈ TB := tbT 1038 (by decide +kernel) rfl
theorem mi_RX0 : Cond.initialized RX0 ∈ TB := tbT 5 (by decide +kernel) rfl
theorem mi_RX1 : Cond.initialized RX1 ∈ TB := tbT 2 (by decide +kernel) rfl
theorem mi_RX2 : Cond.initialized RX2 ∈ TB := tbT 6 (by decide +kernel) rfl
theorem mi_RX3 : Cond.initialized RX3 ∈ TB := tbT 9 (by decide +kernel) rfl
theorem mi_RX4 : Cond.initialized RX4 ∈ TB := tbT 3 (by decide +kernel) rfl
theorem mi_RX5 : Cond.initialized RX5 ∈ TB := tbT 4 (by decide +kernel) rfl
theorem mi_RX6 : Cond.initialized RX6 ∈ TB := tbT 1 (by decide +kernel) rfl
theorem mi_RX7 : Cond.initialized RX7 ∈ TB := tbT 7 (by decide +kernel) rfl
theorem mi_RJ6 : Cond.initialized RJ6 ∈ TB := tbT 10 (by decide +kernel) rfl
theorem mi_RJ9 : Cond.initialized RJ9 ∈ TB := tbT 8 (by decide +kernel) rfl
theorem mi_RL : Cond.initialized RL ∈ TB := tbT 0 (by decide +kernel) rfl
theorem lc_RL_13 : lkV RL 13 RX6 yX6_station cX6_station 3 (some .int) 2 := ⟨mc_yX6_station, tbT 172 (by decide +kernel) rfl, tbT 173 (by decide +kernel) rfl, tbT 174 (by decide +kernel) rfl, mi_RX6, ⟨by decide +kernel, by decide +kernel, by decide +kernel⟩⟩
theorem lc_RX6_41 : lkV RX6 41 RX1 yX1_addStation cX1_addStation 3 (some .int) 2 := ⟨mc_yX1_addStation, tbT 176 (by decide +kernel) rfl, tbT 177 (by decide +kernel) rfl, tbT 178 (by decide +kernel) rfl, mi_RX1, ⟨by decide +kernel, by decide +kernel, by decide +kernel⟩⟩
theorem lc_RL_18 : lkV RL 18 RX6 yX6_plan cX6_plan 3 (some .int) 2 := ⟨mc_yX6_plan, tbT 183 (by decide +kernel) rfl, tbT 184 (by decide +kernel) rfl, tbT 185 (by decide +kernel) rfl, mi_RX6, ⟨by decide +kernel, by decide +kernel, by decide +kernel⟩⟩
theorem lc_RX6_45 : lkV RX6 45 RX1 yX1_change cX1_change 4 (some .int) 2 := ⟨mc_yX1_change, tbT 187 (by decide +kernel) rfl, tbT 188 (by decide +kernel) rfl, tbT 189 (by decide +kernel) rfl, mi_RX1, ⟨by decide +kernel, by decide +kernel, by decide +kernel⟩⟩
theorem lc_RL_22 : lkV RL 22 RX6 yX6_oscillator cX6_oscillator 2 (some .int) 1 := ⟨mc_yX6_oscillator, tbT 195 (by decide +kernel) rfl, tbT 196 (by decide +kernel) rfl, tbT 197 (by decide +kernel) rfl, mi_RX6, ⟨by decide +kernel, by decide +kernel, by decide +kernel⟩⟩
theorem lc_RX6_48 : lkV RX6 48 RX1 yX1_hasStation cX1_hasStation 2 (some .boolean) 1 := ⟨mc_yX1_hasStation, tbT 199 (by decide +kernel) rfl, tbT 200 (by decide +kernel) rfl, tbT 201 (by decide +kernel) rfl, mi_RX1, ⟨by decide +kernel, by decide +kernel, by decide +kernel⟩⟩
theorem lc_RX6_52 : lkV RX6 52 RX1 yX1_middle cX1_middle 1 (some .int) 0 := ⟨mc_yX1_middle, tbT 203 (by decide +kernel) rfl, tbT 204 (by decide +kernel) rfl, tbT 205 (by decide +kernel) rfl, mi_RX1, ⟨by decide +kernel, by decide +kernel, by decide +kernel⟩⟩
theorem lc_RX6_56 : lkV RX6 56 RX1 yX1_oscillatorFor cX1_oscillatorFor 3 (some .int) 2 := ⟨mc_yX1_oscillatorFor, tbT 207 (by decide +kernel) rfl, tbT 208 (by decide +kernel) rfl, tbT 209 (by decide +kernel) rfl, mi_RX1, ⟨by decide +kernel, by decide +kernel, by decide +kernel⟩⟩
theorem lc_RX1_42 : lkV RX1 42 RX1 yX1_isOver cX1_isOver 1 (some .boolean) 0 := ⟨mc_yX1_isOver, tbT 211 (by decide +kernel) rfl, tbT 212 (by decide +kernel) rfl, tbT 213 (by decide +kernel) rfl, mi_RX1, ⟨by decide +kernel, by decide +kernel, by decide +kernel⟩⟩
theorem lc_RL_27 : lkV RL 27 RX6 yX6_spurs cX6_spurs 2 (some .int) 1 := ⟨mc_yX6_spurs, tbT 216 (by decide +kernel) rfl, tbT 217 (by decide +kernel) rfl, tbT 218 (by decide +kernel) rfl, mi_RX6, ⟨by decide +kernel, by decide +kernel, by decide +kernel⟩⟩
theorem lc_RX6_60 : lkV RX6 60 RX1 yX1_spursOf cX1_spursOf 2 (some .int) 1 := ⟨mc_yX1_spursOf, tbT 220 (by decide +kernel) rfl, tbT 221 (by decide +kernel) rfl, tbT 222 (by decide +kernel) rfl, mi_RX1, ⟨by decide +kernel, by decide +kernel, by decide +kernel⟩⟩
theorem lc_RX1_46 : lkV RX1 46 RX1 yX1_middle cX1_middle 1 (some .int) 0 := ⟨mc_yX1_middle, tbT 224 (by decide +kernel) rfl, tbT 204 (by decide +kernel) rfl, tbT 205 (by decide +kernel) rfl, mi_RX1, ⟨by decide +kernel, by decide +kernel, by decide +kernel⟩⟩
theorem lc_RX1_50 : lkV RX1 50 RX1 yX1_gather cX1_gather 8 none 3 := ⟨mc_yX1_gather, tbT 225 (by decide +kernel) rfl, tbT 227 (by decide +kernel) rfl, tbS 0 (by decide +kernel) rfl, mi_RX1, ⟨by decide +kernel, by decide +kernel, by decide +kernel⟩⟩
theorem lc_RX1_89 : lkV RX1 89 RX4 yX4_begin cX4_begin 2 none 1 := ⟨mc_yX4_begin, tbT 229 (by decide +kernel) rfl, tbT 230 (by decide +kernel) rfl, tbT 231 (by decide +kernel) rfl, mi_RX4, ⟨by decide +kernel, by decide +kernel, by decide +kernel⟩⟩
theorem lc_RX1_67 : lkV RX1 67 RX1 yX1_oscillatorFor cX1_oscillatorFor 3 (some .int) 2 := ⟨mc_yX1_oscillatorFor, tbT 233 (by decide +kernel) rfl, tbT 208 (by decide +kernel) rfl, tbT 209 (by decide +kernel) rfl, mi_RX1, ⟨by decide +kernel, by decide +kernel, by decide +kernel⟩⟩
theorem lc_RX1_93 : lkV RX1 93 RX1 yX1_gatherSums cX1_gatherSums 10 none 5 := ⟨mc_yX1_gatherSums, tbT 234 (by decide +kernel) rfl, tbT 236 (by decide +kernel) rfl, tbS 1 (by decide +kernel) rfl, mi_RX1, ⟨by decide +kernel, by decide +kernel, by decide +kernel⟩⟩
theorem lc_RX1_71 : lkV RX1 71 RX1 yX1_fallsOn cX1_fallsOn 3 (some .boolean) 2 := ⟨mc_yX1_fallsOn, tbT 238 (by decide +kernel) rfl, tbT 240 (by decide +kernel) rfl, tbS 2 (by decide +kernel) rfl, mi_RX1, ⟨by decide +kernel, by decide +kernel, by decide +kernel⟩⟩
theorem lc_RX1_75 : Cond.methodLink RX1 75 Lib.Math.abs.name ∈ TB := tbT 242 (by decide +kernel) rfl
theorem lc_RX1_97 : lkV RX1 97 RX4 yX4_take cX4_take 6 none 5 := ⟨mc_yX4_take, tbT 245 (by decide +kernel) rfl, tbT 246 (by decide +kernel) rfl, tbT 247 (by decide +kernel) rfl, mi_RX4, ⟨by decide +kernel, by decide +kernel, by decide +kernel⟩⟩
theorem lc_RX1_54 : lkV RX1 54 RX4 yX4_number cX4_number 1 (some .int) 0 := ⟨mc_yX4_number, tbT 249 (by decide +kernel) rfl, tbT 250 (by decide +kernel) rfl, tbT 251 (by decide +kernel) rfl, mi_RX4, ⟨by decide +kernel, by decide +kernel, by decide +kernel⟩⟩
theorem lc_RL_31 : lkV RL 31 RX6 yX6_spur cX6_spur 4 (some .int) 3 := ⟨mc_yX6_spur, tbT 253 (by decide +kernel) rfl, tbT 254 (by decide +kernel) rfl, tbT 255 (by decide +kernel) rfl, mi_RX6, ⟨by decide +kernel, by decide +kernel, by decide +kernel⟩⟩
theorem lc_RX6_64 : lkV RX6 64 RX1 yX1_ofSpur cX1_ofSpur 4 (some .int) 3 := ⟨mc_yX1_ofSpur, tbT 257 (by decide +kernel) rfl, tbT 258 (by decide +kernel) rfl, tbT 259 (by decide +kernel) rfl, mi_RX1, ⟨by decide +kernel, by decide +kernel, by decide +kernel⟩⟩
theorem lc_RX1_61 : lkV RX1 61 RX4 yX4_factOfWanted cX4_factOfWanted 2 (some .int) 1 := ⟨mc_yX4_factOfWanted, tbT 261 (by decide +kernel) rfl, tbT 262 (by decide +kernel) rfl, tbT 263 (by decide +kernel) rfl, mi_RX4, ⟨by decide +kernel, by decide +kernel, by decide +kernel⟩⟩
theorem lc_RL_36 : lkV RL 36 RX6 yX6_image cX6_image 3 (some .int) 2 := ⟨mc_yX6_image, tbT 266 (by decide +kernel) rfl, tbT 267 (by decide +kernel) rfl, tbT 268 (by decide +kernel) rfl, mi_RX6, ⟨by decide +kernel, by decide +kernel, by decide +kernel⟩⟩
theorem lc_RX6_68 : lkV RX6 68 RX1 yX1_isImage cX1_isImage 4 (some .boolean) 2 := ⟨mc_yX1_isImage, tbT 270 (by decide +kernel) rfl, tbT 271 (by decide +kernel) rfl, tbT 272 (by decide +kernel) rfl, mi_RX1, ⟨by decide +kernel, by decide +kernel, by decide +kernel⟩⟩
theorem lc_RL_40 : lkV RL 40 RX6 yX6_worst cX6_worst 2 (some .int) 1 := ⟨mc_yX6_worst, tbT 274 (by decide +kernel) rfl, tbT 275 (by decide +kernel) rfl, tbT 276 (by decide +kernel) rfl, mi_RX6, ⟨by decide +kernel, by decide +kernel, by decide +kernel⟩⟩
theorem lc_RX6_72 : lkV RX6 72 RX1 yX1_worstOf cX1_worstOf 2 (some .int) 1 := ⟨mc_yX1_worstOf, tbT 278 (by decide +kernel) rfl, tbT 279 (by decide +kernel) rfl, tbT 280 (by decide +kernel) rfl, mi_RX1, ⟨by decide +kernel, by decide +kernel, by decide +kernel⟩⟩
theorem lc_RX1_64 : lkV RX1 64 RX4 yX4_heaviest cX4_heaviest 1 (some .int) 0 := ⟨mc_yX4_heaviest, tbT 282 (by decide +kernel) rfl, tbT 283 (by decide +kernel) rfl, tbT 284 (by decide +kernel) rfl, mi_RX4, ⟨by decide +kernel, by decide +kernel, by decide +kernel⟩⟩
theorem lc_RL_44 : lkV RL 44 RX6 yX6_birdies cX6_birdies 1 (some .int) 0 := ⟨mc_yX6_birdies, tbT 286 (by decide +kernel) rfl, tbT 287 (by decide +kernel) rfl, tbT 288 (by decide +kernel) rfl, mi_RX6, ⟨by decide +kernel, by decide +kernel, by decide +kernel⟩⟩
theorem lc_RX6_75 : lkV RX6 75 RX1 yX1_birdiesFor cX1_birdiesFor 5 (some .int) 1 := ⟨mc_yX1_birdiesFor, tbT 290 (by decide +kernel) rfl, tbT 291 (by decide +kernel) rfl, tbT 292 (by decide +kernel) rfl, mi_RX1, ⟨by decide +kernel, by decide +kernel, by decide +kernel⟩⟩
theorem lc_RL_49 : lkV RL 49 RX6 yX6_load cX6_load 2 (some .int) 1 := ⟨mc_yX6_load, tbT 294 (by decide +kernel) rfl, tbT 295 (by decide +kernel) rfl, tbT 296 (by decide +kernel) rfl, mi_RX6, ⟨by decide +kernel, by decide +kernel, by decide +kernel⟩⟩
theorem lc_RX6_78 : lkS RX6 78 yX6_within cX6_within 3 (some .boolean) 3 := ⟨mc_yX6_within, tbT 298 (by decide +kernel) rfl, tbT 181 (by decide +kernel) rfl, mi_RX6, ⟨by decide +kernel, by decide +kernel, by decide +kernel⟩⟩
theorem lc_RX6_82 : lkV RX6 82 RX1 yX1_loadFor cX1_loadFor 4 (some .int) 1 := ⟨mc_yX1_loadFor, tbT 299 (by decide +kernel) rfl, tbT 300 (by decide +kernel) rfl, tbT 301 (by decide +kernel) rfl, mi_RX1, ⟨by decide +kernel, by decide +kernel, by decide +kernel⟩⟩
theorem lc_RX1_80 : lkV RX1 80 RX1 yX1_birdiesFor cX1_birdiesFor 5 (some .int) 1 := ⟨mc_yX1_birdiesFor, tbT 303 (by decide +kernel) rfl, tbT 291 (by decide +kernel) rfl, tbT 292 (by decide +kernel) rfl, mi_RX1, ⟨by decide +kernel, by decide +kernel, by decide +kernel⟩⟩
theorem lc_RX1_83 : lkV RX1 83 RX4 yX4_weights cX4_weights 1 (some .int) 0 := ⟨mc_yX4_weights, tbT 304 (by decide +kernel) rfl, tbT 305 (by decide +kernel) rfl, tbT 306 (by decide +kernel) rfl, mi_RX4, ⟨by decide +kernel, by decide +kernel, by decide +kernel⟩⟩
theorem lc_RL_53 : lkV RL 53 RX6 yX6_best cX6_best 4 (some .int) 3 := ⟨mc_yX6_best, tbT 308 (by decide +kernel) rfl, tbT 309 (by decide +kernel) rfl, tbT 310 (by decide +kernel) rfl, mi_RX6, ⟨by decide +kernel, by decide +kernel, by decide +kernel⟩⟩
theorem lc_RX6_85 : lkV RX6 85 RX1 yX1_bestMiddle cX1_bestMiddle 8 (some .int) 3 := ⟨mc_yX1_bestMiddle, tbT 312 (by decide +kernel) rfl, tbT 313 (by decide +kernel) rfl, tbT 314 (by decide +kernel) rfl, mi_RX1, ⟨by decide +kernel, by decide +kernel, by decide +kernel⟩⟩
theorem lc_RX1_86 : lkV RX1 86 RX1 yX1_loadFor cX1_loadFor 4 (some .int) 1 := ⟨mc_yX1_loadFor, tbT 316 (by decide +kernel) rfl, tbT 300 (by decide +kernel) rfl, tbT 301 (by decide +kernel) rfl, mi_RX1, ⟨by decide +kernel, by decide +kernel, by decide +kernel⟩⟩
theorem lc_RL_57 : lkV RL 57 RX6 yX6_gang cX6_gang 3 (some .int) 2 := ⟨mc_yX6_gang, tbT 317 (by decide +kernel) rfl, tbT 318 (by decide +kernel) rfl, tbT 319 (by decide +kernel) rfl, mi_RX6, ⟨by decide +kernel, by decide +kernel, by decide +kernel⟩⟩
theorem lc_RX6_88 : lkV RX6 88 RX5 yX5_changeGang cX5_changeGang 3 (some .int) 2 := ⟨mc_yX5_changeGang, tbT 321 (by decide +kernel) rfl, tbT 322 (by decide +kernel) rfl, tbT 323 (by decide +kernel) rfl, mi_RX5, ⟨by decide +kernel, by decide +kernel, by decide +kernel⟩⟩
theorem lc_RL_61 : lkV RL 61 RX6 yX6_part cX6_part 3 (some .int) 2 := ⟨mc_yX6_part, tbT 326 (by decide +kernel) rfl, tbT 327 (by decide +kernel) rfl, tbT 328 (by decide +kernel) rfl, mi_RX6, ⟨by decide +kernel, by decide +kernel, by decide +kernel⟩⟩
theorem lc_RX6_91 : lkV RX6 91 RX5 yX5_changePart cX5_changePart 4 (some .int) 2 := ⟨mc_yX5_changePart, tbT 330 (by decide +kernel) rfl, tbT 331 (by decide +kernel) rfl, tbT 332 (by decide +kernel) rfl, mi_RX5, ⟨by decide +kernel, by decide +kernel, by decide +kernel⟩⟩
theorem lc_RL_65 : lkV RL 65 RX6 yX6_tuned cX6_tuned 3 (some .int) 2 := ⟨mc_yX6_tuned, tbT 338 (by decide +kernel) rfl, tbT 339 (by decide +kernel) rfl, tbT 340 (by decide +kernel) rfl, mi_RX6, ⟨by decide +kernel, by decide +kernel, by decide +kernel⟩⟩
theorem lc_RX6_94 : lkS RX6 94 yX6_isPlace cX6_isPlace 1 (some .boolean) 1 := ⟨mc_yX6_isPlace, tbT 342 (by decide +kernel) rfl, tbT 343 (by decide +kernel) rfl, mi_RX6, ⟨by decide +kernel, by decide +kernel, by decide +kernel⟩⟩
theorem lc_RX6_97 : lkV RX6 97 RX5 yX5_tunedAt cX5_tunedAt 3 (some .int) 2 := ⟨mc_yX5_tunedAt, tbT 345 (by decide +kernel) rfl, tbT 346 (by decide +kernel) rfl, tbT 347 (by decide +kernel) rfl, mi_RX5, ⟨by decide +kernel, by decide +kernel, by decide +kernel⟩⟩
theorem lc_RX5_60 : lkV RX5 60 RX5 yX5_signalTuned cX5_signalTuned 2 (some .int) 1 := ⟨mc_yX5_signalTuned, tbT 349 (by decide +kernel) rfl, tbT 351 (by decide +kernel) rfl, tbS 3 (by decide +kernel) rfl, mi_RX5, ⟨by decide +kernel, by decide +kernel, by decide +kernel⟩⟩
theorem lc_RX5_64 : lkV RX5 64 RX5 yX5_capacityAt cX5_capacityAt 2 (some .int) 1 := ⟨mc_yX5_capacityAt, tbT 353 (by decide +kernel) rfl, tbT 355 (by decide +kernel) rfl, tbS 4 (by decide +kernel) rfl, mi_RX5, ⟨by decide +kernel, by decide +kernel, by decide +kernel⟩⟩
theorem lc_RX5_71 : lkS RX5 71 yX5_tunedTo cX5_tunedTo 12 (some .int) 2 := ⟨mc_yX5_tunedTo, tbT 357 (by decide +kernel) rfl, tbT 358 (by decide +kernel) rfl, mi_RX5, ⟨by decide +kernel, by decide +kernel, by decide +kernel⟩⟩
theorem lc_RX5_67 : lkS RX5 67 yX5_padded cX5_padded 4 (some .int) 2 := ⟨mc_yX5_padded, tbT 362 (by decide +kernel) rfl, tbT 363 (by decide +kernel) rfl, mi_RX5, ⟨by decide +kernel, by decide +kernel, by decide +kernel⟩⟩
theorem lc_RL_69 : lkV RL 69 RX6 yX6_error cX6_error 2 (some .int) 1 := ⟨mc_yX6_error, tbT 365 (by decide +kernel) rfl, tbT 366 (by decide +kernel) rfl, tbT 367 (by decide +kernel) rfl, mi_RX6, ⟨by decide +kernel, by decide +kernel, by decide +kernel⟩⟩
theorem lc_RX6_100 : lkV RX6 100 RX5 yX5_ownParts cX5_ownParts 1 (some (.array .int)) 0 := ⟨mc_yX5_ownParts, tbT 369 (by decide +kernel) rfl, tbT 370 (by decide +kernel) rfl, tbT 371 (by decide +kernel) rfl, mi_RX5, ⟨by decide +kernel, by decide +kernel, by decide +kernel⟩⟩
theorem lc_RX5_44 : lkV RX5 44 RX1 yX1_middle cX1_middle 1 (some .int) 0 := ⟨mc_yX1_middle, tbT 373 (by decide +kernel) rfl, tbT 204 (by decide +kernel) rfl, tbT 205 (by decide +kernel) rfl, mi_RX1, ⟨by decide +kernel, by decide +kernel, by decide +kernel⟩⟩
theorem lc_RX6_104 : lkV RX6 104 RX5 yX5_errorAt cX5_errorAt 7 (some .int) 2 := ⟨mc_yX5_errorAt, tbT 374 (by decide +kernel) rfl, tbT 375 (by decide +kernel) rfl, tbT 376 (by decide +kernel) rfl, mi_RX5, ⟨by decide +kernel, by decide +kernel, by decide +kernel⟩⟩
theorem lc_RX5_74 : lkV RX5 74 RX1 yX1_isOver cX1_isOver 1 (some .boolean) 0 := ⟨mc_yX1_isOver, tbT 378 (by decide +kernel) rfl, tbT 212 (by decide +kernel) rfl, tbT 213 (by decide +kernel) rfl, mi_RX1, ⟨by decide +kernel, by decide +kernel, by decide +kernel⟩⟩
theorem lc_RL_73 : lkV RL 73 RX6 yX6_point cX6_point 3 (some .int) 2 := ⟨mc_yX6_point, tbT 379 (by decide +kernel) rfl, tbT 380 (by decide +kernel) rfl, tbT 381 (by decide +kernel) rfl, mi_RX6, ⟨by decide +kernel, by decide +kernel, by decide +kernel⟩⟩
theorem lc_RX6_108 : lkV RX6 108 RX5 yX5_changePoint cX5_changePoint 5 (some .int) 2 := ⟨mc_yX5_changePoint, tbT 383 (by decide +kernel) rfl, tbT 384 (by decide +kernel) rfl, tbT 385 (by decide +kernel) rfl, mi_RX5, ⟨by decide +kernel, by decide +kernel, by decide +kernel⟩⟩
theorem lc_RX5_91 : lkV RX5 91 RX5 yX5_indexOfPoint cX5_indexOfPoint 3 (some .int) 1 := ⟨mc_yX5_indexOfPoint, tbT 388 (by decide +kernel) rfl, tbT 390 (by decide +kernel) rfl, tbS 5 (by decide +kernel) rfl, mi_RX5, ⟨by decide +kernel, by decide +kernel, by decide +kernel⟩⟩
theorem lc_RL_77 : lkV RL 77 RX6 yX6_off cX6_off 1 (some .int) 0 := ⟨mc_yX6_off, tbT 392 (by decide +kernel) rfl, tbT 393 (by decide +kernel) rfl, tbT 394 (by decide +kernel) rfl, mi_RX6, ⟨by decide +kernel, by decide +kernel, by decide +kernel⟩⟩
theorem lc_RX6_111 : lkV RX6 111 RX5 yX5_errorWith cX5_errorWith 5 (some .int) 2 := ⟨mc_yX5_errorWith, tbT 396 (by decide +kernel) rfl, tbT 397 (by decide +kernel) rfl, tbT 398 (by decide +kernel) rfl, mi_RX5, ⟨by decide +kernel, by decide +kernel, by decide +kernel⟩⟩
theorem lc_RX5_78 : Cond.methodLink RX5 78 Lib.Math.abs.name ∈ TB := tbT 400 (by decide +kernel) rfl
theorem lc_RX5_83 : lkV RX5 83 RX5 yX5_errorAt cX5_errorAt 7 (some .int) 2 := ⟨mc_yX5_errorAt, tbT 401 (by decide +kernel) rfl, tbT 375 (by decide +kernel) rfl, tbT 376 (by decide +kernel) rfl, mi_RX5, ⟨by decide +kernel, by decide +kernel, by decide +kernel⟩⟩
theorem lc_RL_81 : lkV RL 81 RX6 yX6_trimmed cX6_trimmed 3 (some .int) 2 := ⟨mc_yX6_trimmed, tbT 402 (by decide +kernel) rfl, tbT 403 (by decide +kernel) rfl, tbT 404 (by decide +kernel) rfl, mi_RX6, ⟨by decide +kernel, by decide +kernel, by decide +kernel⟩⟩
theorem lc_RX6_114 : lkV RX6 114 RX5 yX5_bestTrim cX5_bestTrim 11 (some .int) 2 := ⟨mc_yX5_bestTrim, tbT 406 (by decide +kernel) rfl, tbT 407 (by decide +kernel) rfl, tbT 408 (by decide +kernel) rfl, mi_RX5, ⟨by decide +kernel, by decide +kernel, by decide +kernel⟩⟩
theorem lc_RX5_94 : lkV RX5 94 RX5 yX5_prepareTrim cX5_prepareTrim 4 none 0 := ⟨mc_yX5_prepareTrim, tbT 410 (by decide +kernel) rfl, tbT 412 (by decide +kernel) rfl, tbS 6 (by decide +kernel) rfl, mi_RX5, ⟨by decide +kernel, by decide +kernel, by decide +kernel⟩⟩
theorem lc_RX5_101 : lkV RX5 101 RX5 yX5_rankOfTrim cX5_rankOfTrim 8 (some .long) 2 := ⟨mc_yX5_rankOfTrim, tbT 415 (by decide +kernel) rfl, tbT 417 (by decide +kernel) rfl, tbS 7 (by decide +kernel) rfl, mi_RX5, ⟨by decide +kernel, by decide +kernel, by decide +kernel⟩⟩
theorem lc_RX5_108 : Cond.methodLink RX5 108 Lib.Math.min.name ∈ TB := tbT 419 (by decide +kernel) rfl
theorem lc_RX5_111 : Cond.methodLink RX5 111 Lib.Math.max.name ∈ TB := tbT 422 (by decide +kernel) rfl
theorem lc_RL_85 : lkV RL 85 RX6 yX6_mark cX6_mark 2 (some .int) 1 := ⟨mc_yX6_mark, tbT 425 (by decide +kernel) rfl, tbT 426 (by decide +kernel) rfl, tbT 427 (by decide +kernel) rfl, mi_RX6, ⟨by decide +kernel, by decide +kernel, by decide +kernel⟩⟩
theorem lc_RX6_118 : lkV RX6 118 RX5 yX5_markOf cX5_markOf 6 (some .int) 1 := ⟨mc_yX5_markOf, tbT 430 (by decide +kernel) rfl, tbT 431 (by decide +kernel) rfl, tbT 432 (by decide +kernel) rfl, mi_RX5, ⟨by decide +kernel, by decide +kernel, by decide +kernel⟩⟩
theorem lc_RL_89 : lkV RL 89 RX6 yX6_set cX6_set 1 (some .int) 0 := ⟨mc_yX6_set, tbT 435 (by decide +kernel) rfl, tbT 436 (by decide +kernel) rfl, tbT 437 (by decide +kernel) rfl, mi_RX6, ⟨by decide +kernel, by decide +kernel, by decide +kernel⟩⟩
theorem lc_RX6_121 : lkV RX6 121 RX0 yX0_build cX0_build 1 (some .int) 0 := ⟨mc_yX0_build, tbT 439 (by decide +kernel) rfl, tbT 440 (by decide +kernel) rfl, tbT 441 (by decide +kernel) rfl, mi_RX0, ⟨by decide +kernel, by decide +kernel, by decide +kernel⟩⟩
theorem lc_RX0_35 : lkV RX0 35 RX5 yX5_ownParts cX5_ownParts 1 (some (.array .int)) 0 := ⟨mc_yX5_ownParts, tbT 444 (by decide +kernel) rfl, tbT 370 (by decide +kernel) rfl, tbT 371 (by decide +kernel) rfl, mi_RX5, ⟨by decide +kernel, by decide +kernel, by decide +kernel⟩⟩
theorem lc_RL_93 : lkV RL 93 RX6 yX6_offBy cX6_offBy 4 (some .int) 3 := ⟨mc_yX6_offBy, tbT 469 (by decide +kernel) rfl, tbT 470 (by decide +kernel) rfl, tbT 471 (by decide +kernel) rfl, mi_RX6, ⟨by decide +kernel, by decide +kernel, by decide +kernel⟩⟩
theorem lc_RX6_124 : lkV RX6 124 RX0 yX0_putOff cX0_putOff 5 (some .int) 3 := ⟨mc_yX0_putOff, tbT 473 (by decide +kernel) rfl, tbT 474 (by decide +kernel) rfl, tbT 475 (by decide +kernel) rfl, mi_RX0, ⟨by decide +kernel, by decide +kernel, by decide +kernel⟩⟩
theorem lc_RX0_44 : lkV RX0 44 RX0 yX0_find cX0_find 2 (some (.object "RadioRoom$RadioSet")) 1 := ⟨mc_yX0_find, tbT 477 (by decide +kernel) rfl, tbT 479 (by decide +kernel) rfl, tbS 8 (by decide +kernel) rfl, mi_RX0, ⟨by decide +kernel, by decide +kernel, by decide +kernel⟩⟩
theorem lc_RX0_48 : lkS RX0 48 yX0_isPart cX0_isPart 1 (some .boolean) 1 := ⟨mc_yX0_isPart, tbT 482 (by decide +kernel) rfl, tbT 483 (by decide +kernel) rfl, mi_RX0, ⟨by decide +kernel, by decide +kernel, by decide +kernel⟩⟩
theorem lc_RX0_57 : lkV RX0 57 RX3 yX3_changeOffset cX3_changeOffset 4 (some .int) 2 := ⟨mc_yX3_changeOffset, tbT 486 (by decide +kernel) rfl, tbT 487 (by decide +kernel) rfl, tbT 488 (by decide +kernel) rfl, mi_RX3, ⟨by decide +kernel, by decide +kernel, by decide +kernel⟩⟩
theorem lc_RX3_29 : lkV RX3 29 RX3 yX3_settle cX3_settle 3 none 1 := ⟨mc_yX3_settle, tbT 490 (by decide +kernel) rfl, tbT 492 (by decide +kernel) rfl, tbS 9 (by decide +kernel) rfl, mi_RX3, ⟨by decide +kernel, by decide +kernel, by decide +kernel⟩⟩
theorem lc_RX3_39 : Cond.methodLink RX3 39 Lib.Math.min.name ∈ TB := tbT 496 (by decide +kernel) rfl
theorem lc_RX3_45 : Cond.methodLink RX3 45 Lib.Math.max.name ∈ TB := tbT 497 (by decide +kernel) rfl
theorem lc_RL_97 : lkV RL 97 RX6 yX6_ofSet cX6_ofSet 4 (some .int) 3 := ⟨mc_yX6_ofSet, tbT 498 (by decide +kernel) rfl, tbT 499 (by decide +kernel) rfl, tbT 500 (by decide +kernel) rfl, mi_RX6, ⟨by decide +kernel, by decide +kernel, by decide +kernel⟩⟩
theorem lc_RX6_127 : lkV RX6 127 RX0 yX0_ofPart cX0_ofPart 5 (some .int) 3 := ⟨mc_yX0_ofPart, tbT 502 (by decide +kernel) rfl, tbT 503 (by decide +kernel) rfl, tbT 504 (by decide +kernel) rfl, mi_RX0, ⟨by decide +kernel, by decide +kernel, by decide +kernel⟩⟩
theorem lc_RX0_61 : lkV RX0 61 RX3 yX3_partsNow cX3_partsNow 1 (some (.array .int)) 0 := ⟨mc_yX3_partsNow, tbT 506 (by decide +kernel) rfl, tbT 507 (by decide +kernel) rfl, tbT 508 (by decide +kernel) rfl, mi_RX3, ⟨by decide +kernel, by decide +kernel, by decide +kernel⟩⟩
theorem lc_RX0_64 : lkV RX0 64 RX3 yX3_turnedBy cX3_turnedBy 2 (some .int) 1 := ⟨mc_yX3_turnedBy, tbT 510 (by decide +kernel) rfl, tbT 511 (by decide +kernel) rfl, tbT 512 (by decide +kernel) rfl, mi_RX3, ⟨by decide +kernel, by decide +kernel, by decide +kernel⟩⟩
theorem lc_RL_101 : lkV RL 101 RX6 yX6_errorOf cX6_errorOf 2 (some .int) 1 := ⟨mc_yX6_errorOf, tbT 514 (by decide +kernel) rfl, tbT 515 (by decide +kernel) rfl, tbT 516 (by decide +kernel) rfl, mi_RX6, ⟨by decide +kernel, by decide +kernel, by decide +kernel⟩⟩
theorem lc_RX6_130 : lkV RX6 130 RX0 yX0_errorOfNumber cX0_errorOfNumber 3 (some .int) 1 := ⟨mc_yX0_errorOfNumber, tbT 518 (by decide +kernel) rfl, tbT 519 (by decide +kernel) rfl, tbT 520 (by decide +kernel) rfl, mi_RX0, ⟨by decide +kernel, by decide +kernel, by decide +kernel⟩⟩
theorem lc_RX0_68 : lkV RX0 68 RX3 yX3_builtMiddle cX3_builtMiddle 1 (some .int) 0 := ⟨mc_yX3_builtMiddle, tbT 522 (by decide +kernel) rfl, tbT 523 (by decide +kernel) rfl, tbT 524 (by decide +kernel) rfl, mi_RX3, ⟨by decide +kernel, by decide +kernel, by decide +kernel⟩⟩
theorem lc_RX0_72 : lkV RX0 72 RX5 yX5_errorWith cX5_errorWith 5 (some .int) 2 := ⟨mc_yX5_errorWith, tbT 526 (by decide +kernel) rfl, tbT 397 (by decide +kernel) rfl, tbT 398 (by decide +kernel) rfl, mi_RX5, ⟨by decide +kernel, by decide +kernel, by decide +kernel⟩⟩
theorem lc_RL_105 : lkV RL 105 RX6 yX6_sheet cX6_sheet 3 (some .int) 2 := ⟨mc_yX6_sheet, tbT 527 (by decide +kernel) rfl, tbT 528 (by decide +kernel) rfl, tbT 529 (by decide +kernel) rfl, mi_RX6, ⟨by decide +kernel, by decide +kernel, by decide +kernel⟩⟩
theorem lc_RX6_133 : lkV RX6 133 RX0 yX0_addLine cX0_addLine 3 (some .int) 2 := ⟨mc_yX0_addLine, tbT 531 (by decide +kernel) rfl, tbT 532 (by decide +kernel) rfl, tbT 533 (by decide +kernel) rfl, mi_RX0, ⟨by decide +kernel, by decide +kernel, by decide +kernel⟩⟩
theorem lc_RL_109 : lkV RL 109 RX6 yX6_round cX6_round 2 (some .int) 1 := ⟨mc_yX6_round, tbT 535 (by decide +kernel) rfl, tbT 536 (by decide +kernel) rfl, tbT 537 (by decide +kernel) rfl, mi_RX6, ⟨by decide +kernel, by decide +kernel, by decide +kernel⟩⟩
theorem lc_RX6_136 : lkV RX6 136 RX0 yX0_goRound cX0_goRound 3 (some .int) 1 := ⟨mc_yX0_goRound, tbT 539 (by decide +kernel) rfl, tbT 540 (by decide +kernel) rfl, tbT 541 (by decide +kernel) rfl, mi_RX0, ⟨by decide +kernel, by decide +kernel, by decide +kernel⟩⟩
theorem lc_RX0_76 : lkV RX0 76 RX0 yX0_turnByLines cX0_turnByLines 5 (some .int) 1 := ⟨mc_yX0_turnByLines, tbT 543 (by decide +kernel) rfl, tbT 545 (by decide +kernel) rfl, tbS 10 (by decide +kernel) rfl, mi_RX0, ⟨by decide +kernel, by decide +kernel, by decide +kernel⟩⟩
theorem lc_RX0_80 : lkV RX0 80 RX0 yX0_turnWhileLess cX0_turnWhileLess 7 (some .int) 3 := ⟨mc_yX0_turnWhileLess, tbT 547 (by decide +kernel) rfl, tbT 549 (by decide +kernel) rfl, tbS 11 (by decide +kernel) rfl, mi_RX0, ⟨by decide +kernel, by decide +kernel, by decide +kernel⟩⟩
theorem lc_RX0_84 : lkV RX0 84 RX3 yX3_turn cX3_turn 3 none 2 := ⟨mc_yX3_turn, tbT 551 (by decide +kernel) rfl, tbT 552 (by decide +kernel) rfl, tbT 553 (by decide +kernel) rfl, mi_RX3, ⟨by decide +kernel, by decide +kernel, by decide +kernel⟩⟩
theorem lc_RL_113 : lkV RL 113 RX6 yX6_align cX6_align 2 (some .int) 1 := ⟨mc_yX6_align, tbT 555 (by decide +kernel) rfl, tbT 556 (by decide +kernel) rfl, tbT 557 (by decide +kernel) rfl, mi_RX6, ⟨by decide +kernel, by decide +kernel, by decide +kernel⟩⟩
theorem lc_RX6_139 : lkV RX6 139 RX0 yX0_goRounds cX0_goRounds 4 (some .int) 1 := ⟨mc_yX0_goRounds, tbT 559 (by decide +kernel) rfl, tbT 560 (by decide +kernel) rfl, tbT 561 (by decide +kernel) rfl, mi_RX0, ⟨by decide +kernel, by decide +kernel, by decide +kernel⟩⟩
theorem lc_RL_117 : lkV RL 117 RX6 yX6_fault cX6_fault 2 (some .int) 1 := ⟨mc_yX6_fault, tbT 563 (by decide +kernel) rfl, tbT 564 (by decide +kernel) rfl, tbT 565 (by decide +kernel) rfl, mi_RX6, ⟨by decide +kernel, by decide +kernel, by decide +kernel⟩⟩
theorem lc_RX6_142 : lkV RX6 142 RX2 yX2_addFault cX2_addFault 2 (some .int) 1 := ⟨mc_yX2_addFault, tbT 567 (by decide +kernel) rfl, tbT 568 (by decide +kernel) rfl, tbT 569 (by decide +kernel) rfl, mi_RX2, ⟨by decide +kernel, by decide +kernel, by decide +kernel⟩⟩
theorem lc_RL_121 : lkV RL 121 RX6 yX6_test cX6_test 2 (some .int) 1 := ⟨mc_yX6_test, tbT 572 (by decide +kernel) rfl, tbT 573 (by decide +kernel) rfl, tbT 574 (by decide +kernel) rfl, mi_RX6, ⟨by decide +kernel, by decide +kernel, by decide +kernel⟩⟩
theorem lc_RX6_145 : lkV RX6 145 RX2 yX2_addTest cX2_addTest 2 (some .int) 1 := ⟨mc_yX2_addTest, tbT 576 (by decide +kernel) rfl, tbT 577 (by decide +kernel) rfl, tbT 578 (by decide +kernel) rfl, mi_RX2, ⟨by decide +kernel, by decide +kernel, by decide +kernel⟩⟩
theorem lc_RL_125 : lkV RL 125 RX6 yX6_reading cX6_reading 4 (some .int) 3 := ⟨mc_yX6_reading, tbT 580 (by decide +kernel) rfl, tbT 581 (by decide +kernel) rfl, tbT 582 (by decide +kernel) rfl, mi_RX6, ⟨by decide +kernel, by decide +kernel, by decide +kernel⟩⟩
theorem lc_RX6_148 : lkV RX6 148 RX2 yX2_changeReading cX2_changeReading 7 (some .int) 3 := ⟨mc_yX2_changeReading, tbT 584 (by decide +kernel) rfl, tbT 585 (by decide +kernel) rfl, tbT 586 (by decide +kernel) rfl, mi_RX2, ⟨by decide +kernel, by decide +kernel, by decide +kernel⟩⟩
theorem lc_RX2_38 : lkV RX2 38 RX2 yX2_isTest cX2_isTest 2 (some .boolean) 1 := ⟨mc_yX2_isTest, tbT 588 (by decide +kernel) rfl, tbT 590 (by decide +kernel) rfl, tbS 12 (by decide +kernel) rfl, mi_RX2, ⟨by decide +kernel, by decide +kernel, by decide +kernel⟩⟩
theorem lc_RX2_42 : lkS RX2 42 yX2_isReading cX2_isReading 1 (some .boolean) 1 := ⟨mc_yX2_isReading, tbT 592 (by decide +kernel) rfl, tbT 593 (by decide +kernel) rfl, mi_RX2, ⟨by decide +kernel, by decide +kernel, by decide +kernel⟩⟩
theorem lc_RL_129 : lkV RL 129 RX6 yX6_read cX6_read 3 (some .int) 2 := ⟨mc_yX6_read, tbT 595 (by decide +kernel) rfl, tbT 596 (by decide +kernel) rfl, tbT 597 (by decide +kernel) rfl, mi_RX6, ⟨by decide +kernel, by decide +kernel, by decide +kernel⟩⟩
theorem lc_RX6_151 : lkV RX6 151 RX2 yX2_takeReading cX2_takeReading 4 (some .int) 2 := ⟨mc_yX2_takeReading, tbT 599 (by decide +kernel) rfl, tbT 600 (by decide +kernel) rfl, tbT 601 (by decide +kernel) rfl, mi_RX2, ⟨by decide +kernel, by decide +kernel, by decide +kernel⟩⟩
theorem lc_RX2_45 : lkS RX2 45 yJ6_bitCount_0f7a4 cJ6_bitCount_0f7a4 1 (some .int) 1 := ⟨mc_yJ6_bitCount_0f7a4, tbT 603 (by decide +kernel) rfl, tbT 604 (by decide +kernel) rfl, mi_RJ6, ⟨by decide +kernel, by decide +kernel, by decide +kernel⟩⟩
theorem lc_RL_133 : lkV RL 133 RX6 yX6_again cX6_again 1 (some .int) 0 := ⟨mc_yX6_again, tbT 609 (by decide +kernel) rfl, tbT 610 (by decide +kernel) rfl, tbT 611 (by decide +kernel) rfl, mi_RX6, ⟨by decide +kernel, by decide +kernel, by decide +kernel⟩⟩
theorem lc_RX6_154 : lkV RX6 154 RX2 yX2_startAgain cX2_startAgain 2 (some .int) 0 := ⟨mc_yX2_startAgain, tbT 613 (by decide +kernel) rfl, tbT 614 (by decide +kernel) rfl, tbT 615 (by decide +kernel) rfl, mi_RX2, ⟨by decide +kernel, by decide +kernel, by decide +kernel⟩⟩
theorem lc_RL_137 : lkV RL 137 RX6 yX6_left cX6_left 2 (some .int) 1 := ⟨mc_yX6_left, tbT 617 (by decide +kernel) rfl, tbT 618 (by decide +kernel) rfl, tbT 619 (by decide +kernel) rfl, mi_RX6, ⟨by decide +kernel, by decide +kernel, by decide +kernel⟩⟩
theorem lc_RX6_157 : lkV RX6 157 RX2 yX2_leftBits cX2_leftBits 1 (some .int) 0 := ⟨mc_yX2_leftBits, tbT 621 (by decide +kernel) rfl, tbT 622 (by decide +kernel) rfl, tbT 623 (by decide +kernel) rfl, mi_RX2, ⟨by decide +kernel, by decide +kernel, by decide +kernel⟩⟩
theorem lc_RX6_160 : lkV RX6 160 RX2 yX2_nextBest cX2_nextBest 6 (some .int) 0 := ⟨mc_yX2_nextBest, tbT 625 (by decide +kernel) rfl, tbT 626 (by decide +kernel) rfl, tbT 627 (by decide +kernel) rfl, mi_RX2, ⟨by decide +kernel, by decide +kernel, by decide +kernel⟩⟩
theorem lc_RX2_52 : lkV RX2 52 RX2 yX2_partsSet cX2_partsSet 4 (some .boolean) 2 := ⟨mc_yX2_partsSet, tbT 630 (by decide +kernel) rfl, tbT 632 (by decide +kernel) rfl, tbS 13 (by decide +kernel) rfl, mi_RX2, ⟨by decide +kernel, by decide +kernel, by decide +kernel⟩⟩
theorem lc_RX2_56 : lkV RX2 56 RX2 yX2_greatestLikelihood cX2_greatestLikelihood 4 (some .int) 1 := ⟨mc_yX2_greatestLikelihood, tbT 634 (by decide +kernel) rfl, tbT 636 (by decide +kernel) rfl, tbS 14 (by decide +kernel) rfl, mi_RX2, ⟨by decide +kernel, by decide +kernel, by decide +kernel⟩⟩
theorem lc_RX2_63 : lkV RX2 63 RX2 yX2_likelihoodOf cX2_likelihoodOf 4 (some .int) 1 := ⟨mc_yX2_likelihoodOf, tbT 638 (by decide +kernel) rfl, tbT 640 (by decide +kernel) rfl, tbS 15 (by decide +kernel) rfl, mi_RX2, ⟨by decide +kernel, by decide +kernel, by decide +kernel⟩⟩
theorem lc_RX2_66 : Cond.methodLink RX2 66 Lib.Math.max.name ∈ TB := tbT 642 (by decide +kernel) rfl
theorem lc_RX6_163 : lkV RX6 163 RX2 yX2_leastCost cX2_leastCost 4 (some .int) 1 := ⟨mc_yX2_leastCost, tbT 643 (by decide +kernel) rfl, tbT 644 (by decide +kernel) rfl, tbT 645 (by decide +kernel) rfl, mi_RX2, ⟨by decide +kernel, by decide +kernel, by decide +kernel⟩⟩
theorem lc_RX2_59 : lkV RX2 59 RX2 yX2_costOfParting cX2_costOfParting 6 (some .int) 2 := ⟨mc_yX2_costOfParting, tbT 647 (by decide +kernel) rfl, tbT 649 (by decide +kernel) rfl, tbS 16 (by decide +kernel) rfl, mi_RX2, ⟨by decide +kernel, by decide +kernel, by decide +kernel⟩⟩
theorem lc_RX2_72 : lkV RX2 72 RX2 yX2_dearestPart cX2_dearestPart 5 (some .int) 2 := ⟨mc_yX2_dearestPart, tbT 651 (by decide +kernel) rfl, tbT 653 (by decide +kernel) rfl, tbS 17 (by decide +kernel) rfl, mi_RX2, ⟨by decide +kernel, by decide +kernel, by decide +kernel⟩⟩
theorem lc_RX2_75 : Cond.methodLink RX2 75 Lib.Math.min.name ∈ TB := tbT 655 (by decide +kernel) rfl
theorem lc_RL_141 : lkV RL 141 RX6 yX6_count cX6_count 2 (some .int) 1 := ⟨mc_yX6_count, tbT 656 (by decide +kernel) rfl, tbT 657 (by decide +kernel) rfl, tbT 658 (by decide +kernel) rfl, mi_RX6, ⟨by decide +kernel, by decide +kernel, by decide +kernel⟩⟩
theorem lc_RX6_167 : lkV RX6 167 RX1 yX1_stations cX1_stations 1 (some .int) 0 := ⟨mc_yX1_stations, tbT 660 (by decide +kernel) rfl, tbT 661 (by decide +kernel) rfl, tbT 662 (by decide +kernel) rfl, mi_RX1, ⟨by decide +kernel, by decide +kernel, by decide +kernel⟩⟩
theorem lc_RX6_170 : lkV RX6 170 RX1 yX1_spursOfAll cX1_spursOfAll 3 (some .int) 0 := ⟨mc_yX1_spursOfAll, tbT 664 (by decide +kernel) rfl, tbT 665 (by decide +kernel) rfl, tbT 666 (by decide +kernel) rfl, mi_RX1, ⟨by decide +kernel, by decide +kernel, by decide +kernel⟩⟩
theorem lc_RX1_57 : lkV RX1 57 RX1 yX1_spursOf cX1_spursOf 2 (some .int) 1 := ⟨mc_yX1_spursOf, tbT 668 (by decide +kernel) rfl, tbT 221 (by decide +kernel) rfl, tbT 222 (by decide +kernel) rfl, mi_RX1, ⟨by decide +kernel, by decide +kernel, by decide +kernel⟩⟩
theorem lc_RX6_173 : lkV RX6 173 RX5 yX5_points cX5_points 1 (some .int) 0 := ⟨mc_yX5_points, tbT 669 (by decide +kernel) rfl, tbT 670 (by decide +kernel) rfl, tbT 671 (by decide +kernel) rfl, mi_RX5, ⟨by decide +kernel, by decide +kernel, by decide +kernel⟩⟩
theorem lc_RX6_176 : lkV RX6 176 RX0 yX0_sets cX0_sets 1 (some .int) 0 := ⟨mc_yX0_sets, tbT 673 (by decide +kernel) rfl, tbT 674 (by decide +kernel) rfl, tbT 675 (by decide +kernel) rfl, mi_RX0, ⟨by decide +kernel, by decide +kernel, by decide +kernel⟩⟩
theorem lc_RX6_179 : lkV RX6 179 RX0 yX0_lines cX0_lines 1 (some .int) 0 := ⟨mc_yX0_lines, tbT 677 (by decide +kernel) rfl, tbT 678 (by decide +kernel) rfl, tbT 679 (by decide +kernel) rfl, mi_RX0, ⟨by decide +kernel, by decide +kernel, by decide +kernel⟩⟩
theorem lc_RX6_182 : lkV RX6 182 RX2 yX2_faults cX2_faults 1 (some .int) 0 := ⟨mc_yX2_faults, tbT 681 (by decide +kernel) rfl, tbT 682 (by decide +kernel) rfl, tbT 683 (by decide +kernel) rfl, mi_RX2, ⟨by decide +kernel, by decide +kernel, by decide +kernel⟩⟩
theorem lc_RX6_185 : lkV RX6 185 RX2 yX2_tests cX2_tests 1 (some .int) 0 := ⟨mc_yX2_tests, tbT 685 (by decide +kernel) rfl, tbT 686 (by decide +kernel) rfl, tbT 687 (by decide +kernel) rfl, mi_RX2, ⟨by decide +kernel, by decide +kernel, by decide +kernel⟩⟩
theorem lc_RL_17 : lkV RL 17 RX7 yX7_station cX7_station 3 (some .int) 2 := ⟨mc_yX7_station, tbT 790 (by decide +kernel) rfl, tbT 791 (by decide +kernel) rfl, tbT 792 (by decide +kernel) rfl, mi_RX7, ⟨by decide +kernel, by decide +kernel, by decide +kernel⟩⟩
theorem lc_RX7_75 : lkS RX7 75 yX7_within cX7_within 3 (some .boolean) 3 := ⟨mc_yX7_within, tbT 794 (by decide +kernel) rfl, tbT 795 (by decide +kernel) rfl, mi_RX7, ⟨by decide +kernel, by decide +kernel, by decide +kernel⟩⟩
theorem lc_RL_21 : lkV RL 21 RX7 yX7_plan cX7_plan 5 (some .int) 2 := ⟨mc_yX7_plan, tbT 797 (by decide +kernel) rfl, tbT 798 (by decide +kernel) rfl, tbT 799 (by decide +kernel) rfl, mi_RX7, ⟨by decide +kernel, by decide +kernel, by decide +kernel⟩⟩
theorem lc_RX7_79 : lkS RX7 79 yX7_isMiddle cX7_isMiddle 1 (some .boolean) 1 := ⟨mc_yX7_isMiddle, tbT 801 (by decide +kernel) rfl, tbT 802 (by decide +kernel) rfl, mi_RX7, ⟨by decide +kernel, by decide +kernel, by decide +kernel⟩⟩
theorem lc_RL_26 : lkV RL 26 RX7 yX7_oscillator cX7_oscillator 2 (some .int) 1 := ⟨mc_yX7_oscillator, tbT 804 (by decide +kernel) rfl, tbT 805 (by decide +kernel) rfl, tbT 806 (by decide +kernel) rfl, mi_RX7, ⟨by decide +kernel, by decide +kernel, by decide +kernel⟩⟩
theorem lc_RX7_83 : lkV RX7 83 RX7 yX7_isStation cX7_isStation 2 (some .boolean) 1 := ⟨mc_yX7_isStation, tbT 808 (by decide +kernel) rfl, tbT 810 (by decide +kernel) rfl, tbS 18 (by decide +kernel) rfl, mi_RX7, ⟨by decide +kernel, by decide +kernel, by decide +kernel⟩⟩
theorem lc_RX7_86 : lkV RX7 86 RX7 yX7_oscillatorOf cX7_oscillatorOf 3 (some .int) 2 := ⟨mc_yX7_oscillatorOf, tbT 812 (by decide +kernel) rfl, tbT 814 (by decide +kernel) rfl, tbS 19 (by decide +kernel) rfl, mi_RX7, ⟨by decide +kernel, by decide +kernel, by decide +kernel⟩⟩
theorem lc_RL_30 : lkV RL 30 RX7 yX7_spurs cX7_spurs 2 (some .int) 1 := ⟨mc_yX7_spurs, tbT 817 (by decide +kernel) rfl, tbT 818 (by decide +kernel) rfl, tbT 819 (by decide +kernel) rfl, mi_RX7, ⟨by decide +kernel, by decide +kernel, by decide +kernel⟩⟩
theorem lc_RX7_111 : lkV RX7 111 RX7 yX7_goSpurs cX7_goSpurs 9 (some .int) 3 := ⟨mc_yX7_goSpurs, tbT 821 (by decide +kernel) rfl, tbT 823 (by decide +kernel) rfl, tbS 20 (by decide +kernel) rfl, mi_RX7, ⟨by decide +kernel, by decide +kernel, by decide +kernel⟩⟩
theorem lc_RX7_95 : lkV RX7 95 RX7 yX7_falls cX7_falls 9 (some .boolean) 6 := ⟨mc_yX7_falls, tbT 825 (by decide +kernel) rfl, tbT 827 (by decide +kernel) rfl, tbS 21 (by decide +kernel) rfl, mi_RX7, ⟨by decide +kernel, by decide +kernel, by decide +kernel⟩⟩
theorem lc_RX7_91 : lkS RX7 91 yX7_size cX7_size 1 (some .int) 1 := ⟨mc_yX7_size, tbT 829 (by decide +kernel) rfl, tbT 830 (by decide +kernel) rfl, mi_RX7, ⟨by decide +kernel, by decide +kernel, by decide +kernel⟩⟩
theorem lc_RL_35 : lkV RL 35 RX7 yX7_spur cX7_spur 4 (some .int) 3 := ⟨mc_yX7_spur, tbT 832 (by decide +kernel) rfl, tbT 833 (by decide +kernel) rfl, tbT 834 (by decide +kernel) rfl, mi_RX7, ⟨by decide +kernel, by decide +kernel, by decide +kernel⟩⟩
theorem lc_RX7_115 : lkV RX7 115 RX7 yX7_weightAtHand cX7_weightAtHand 1 (some .int) 0 := ⟨mc_yX7_weightAtHand, tbT 836 (by decide +kernel) rfl, tbT 838 (by decide +kernel) rfl, tbS 22 (by decide +kernel) rfl, mi_RX7, ⟨by decide +kernel, by decide +kernel, by decide +kernel⟩⟩
theorem lc_RL_39 : lkV RL 39 RX7 yX7_image cX7_image 3 (some .int) 2 := ⟨mc_yX7_image, tbT 840 (by decide +kernel) rfl, tbT 841 (by decide +kernel) rfl, tbT 842 (by decide +kernel) rfl, mi_RX7, ⟨by decide +kernel, by decide +kernel, by decide +kernel⟩⟩
theorem lc_RL_43 : lkV RL 43 RX7 yX7_worst cX7_worst 7 (some .int) 1 := ⟨mc_yX7_worst, tbT 844 (by decide +kernel) rfl, tbT 845 (by decide +kernel) rfl, tbT 846 (by decide +kernel) rfl, mi_RX7, ⟨by decide +kernel, by decide +kernel, by decide +kernel⟩⟩
theorem lc_RL_48 : lkV RL 48 RX7 yX7_birdies cX7_birdies 1 (some .int) 0 := ⟨mc_yX7_birdies, tbT 848 (by decide +kernel) rfl, tbT 849 (by decide +kernel) rfl, tbT 850 (by decide +kernel) rfl, mi_RX7, ⟨by decide +kernel, by decide +kernel, by decide +kernel⟩⟩
theorem lc_RX7_119 : lkV RX7 119 RX7 yX7_birdiesOf cX7_birdiesOf 5 (some .int) 1 := ⟨mc_yX7_birdiesOf, tbT 852 (by decide +kernel) rfl, tbT 854 (by decide +kernel) rfl, tbS 23 (by decide +kernel) rfl, mi_RX7, ⟨by decide +kernel, by decide +kernel, by decide +kernel⟩⟩
theorem lc_RL_52 : lkV RL 52 RX7 yX7_load cX7_load 2 (some .int) 1 := ⟨mc_yX7_load, tbT 856 (by decide +kernel) rfl, tbT 857 (by decide +kernel) rfl, tbT 858 (by decide +kernel) rfl, mi_RX7, ⟨by decide +kernel, by decide +kernel, by decide +kernel⟩⟩
theorem lc_RX7_122 : lkV RX7 122 RX7 yX7_loadOf cX7_loadOf 7 (some .int) 1 := ⟨mc_yX7_loadOf, tbT 860 (by decide +kernel) rfl, tbT 862 (by decide +kernel) rfl, tbS 24 (by decide +kernel) rfl, mi_RX7, ⟨by decide +kernel, by decide +kernel, by decide +kernel⟩⟩
theorem lc_RL_56 : lkV RL 56 RX7 yX7_best cX7_best 8 (some .int) 3 := ⟨mc_yX7_best, tbT 864 (by decide +kernel) rfl, tbT 865 (by decide +kernel) rfl, tbT 866 (by decide +kernel) rfl, mi_RX7, ⟨by decide +kernel, by decide +kernel, by decide +kernel⟩⟩
theorem lc_RL_60 : lkV RL 60 RX7 yX7_gang cX7_gang 3 (some .int) 2 := ⟨mc_yX7_gang, tbT 868 (by decide +kernel) rfl, tbT 869 (by decide +kernel) rfl, tbT 870 (by decide +kernel) rfl, mi_RX7, ⟨by decide +kernel, by decide +kernel, by decide +kernel⟩⟩
theorem lc_RL_64 : lkV RL 64 RX7 yX7_part cX7_part 4 (some .int) 2 := ⟨mc_yX7_part, tbT 872 (by decide +kernel) rfl, tbT 873 (by decide +kernel) rfl, tbT 874 (by decide +kernel) rfl, mi_RX7, ⟨by decide +kernel, by decide +kernel, by decide +kernel⟩⟩
theorem lc_RX7_125 : lkS RX7 125 yX7_isPart cX7_isPart 2 (some .boolean) 2 := ⟨mc_yX7_isPart, tbT 876 (by decide +kernel) rfl, tbT 877 (by decide +kernel) rfl, mi_RX7, ⟨by decide +kernel, by decide +kernel, by decide +kernel⟩⟩
theorem lc_RL_68 : lkV RL 68 RX7 yX7_tuned cX7_tuned 3 (some .int) 2 := ⟨mc_yX7_tuned, tbT 879 (by decide +kernel) rfl, tbT 880 (by decide +kernel) rfl, tbT 881 (by decide +kernel) rfl, mi_RX7, ⟨by decide +kernel, by decide +kernel, by decide +kernel⟩⟩
theorem lc_RX7_155 : lkS RX7 155 yX7_isPlace cX7_isPlace 1 (some .boolean) 1 := ⟨mc_yX7_isPlace, tbT 883 (by decide +kernel) rfl, tbT 884 (by decide +kernel) rfl, mi_RX7, ⟨by decide +kernel, by decide +kernel, by decide +kernel⟩⟩
theorem lc_RX7_145 : lkV RX7 145 RX7 yX7_signalAt cX7_signalAt 4 (some .int) 3 := ⟨mc_yX7_signalAt, tbT 886 (by decide +kernel) rfl, tbT 888 (by decide +kernel) rfl, tbS 25 (by decide +kernel) rfl, mi_RX7, ⟨by decide +kernel, by decide +kernel, by decide +kernel⟩⟩
theorem lc_RX7_139 : lkV RX7 139 RX7 yX7_gangAt cX7_gangAt 2 (some .int) 1 := ⟨mc_yX7_gangAt, tbT 890 (by decide +kernel) rfl, tbT 892 (by decide +kernel) rfl, tbS 26 (by decide +kernel) rfl, mi_RX7, ⟨by decide +kernel, by decide +kernel, by decide +kernel⟩⟩
theorem lc_RX7_142 : lkS RX7 142 yX7_tunedTo cX7_tunedTo 2 (some .int) 2 := ⟨mc_yX7_tunedTo, tbT 894 (by decide +kernel) rfl, tbT 895 (by decide +kernel) rfl, mi_RX7, ⟨by decide +kernel, by decide +kernel, by decide +kernel⟩⟩
theorem lc_RX7_135 : lkS RX7 135 yX7_root cX7_root 8 (some .int) 1 := ⟨mc_yX7_root, tbT 898 (by decide +kernel) rfl, tbT 899 (by decide +kernel) rfl, mi_RX7, ⟨by decide +kernel, by decide +kernel, by decide +kernel⟩⟩
theorem lc_RX7_148 : lkV RX7 148 RX7 yX7_oscillatorAt cX7_oscillatorAt 7 (some .int) 4 := ⟨mc_yX7_oscillatorAt, tbT 903 (by decide +kernel) rfl, tbT 905 (by decide +kernel) rfl, tbS 27 (by decide +kernel) rfl, mi_RX7, ⟨by decide +kernel, by decide +kernel, by decide +kernel⟩⟩
theorem lc_RL_72 : lkV RL 72 RX7 yX7_error cX7_error 2 (some .int) 1 := ⟨mc_yX7_error, tbT 907 (by decide +kernel) rfl, tbT 908 (by decide +kernel) rfl, tbT 909 (by decide +kernel) rfl, mi_RX7, ⟨by decide +kernel, by decide +kernel, by decide +kernel⟩⟩
theorem lc_RX7_158 : lkV RX7 158 RX7 yX7_errorAt cX7_errorAt 8 (some .int) 7 := ⟨mc_yX7_errorAt, tbT 911 (by decide +kernel) rfl, tbT 913 (by decide +kernel) rfl, tbS 28 (by decide +kernel) rfl, mi_RX7, ⟨by decide +kernel, by decide +kernel, by decide +kernel⟩⟩
theorem lc_RX7_152 : lkV RX7 152 RX7 yX7_errorBy cX7_errorBy 4 (some .int) 3 := ⟨mc_yX7_errorBy, tbT 915 (by decide +kernel) rfl, tbT 917 (by decide +kernel) rfl, tbS 29 (by decide +kernel) rfl, mi_RX7, ⟨by decide +kernel, by decide +kernel, by decide +kernel⟩⟩
theorem lc_RL_76 : lkV RL 76 RX7 yX7_point cX7_point 5 (some .int) 2 := ⟨mc_yX7_point, tbT 919 (by decide +kernel) rfl, tbT 920 (by decide +kernel) rfl, tbT 921 (by decide +kernel) rfl, mi_RX7, ⟨by decide +kernel, by decide +kernel, by decide +kernel⟩⟩
theorem lc_RL_80 : lkV RL 80 RX7 yX7_off cX7_off 1 (some .int) 0 := ⟨mc_yX7_off, tbT 923 (by decide +kernel) rfl, tbT 924 (by decide +kernel) rfl, tbT 925 (by decide +kernel) rfl, mi_RX7, ⟨by decide +kernel, by decide +kernel, by decide +kernel⟩⟩
theorem lc_RX7_165 : lkV RX7 165 RX7 yX7_offWith cX7_offWith 9 (some .int) 6 := ⟨mc_yX7_offWith, tbT 927 (by decide +kernel) rfl, tbT 929 (by decide +kernel) rfl, tbS 30 (by decide +kernel) rfl, mi_RX7, ⟨by decide +kernel, by decide +kernel, by decide +kernel⟩⟩
theorem lc_RL_84 : lkV RL 84 RX7 yX7_trimmed cX7_trimmed 12 (some .int) 2 := ⟨mc_yX7_trimmed, tbT 931 (by decide +kernel) rfl, tbT 932 (by decide +kernel) rfl, tbT 933 (by decide +kernel) rfl, mi_RX7, ⟨by decide +kernel, by decide +kernel, by decide +kernel⟩⟩
theorem lc_RL_88 : lkV RL 88 RX7 yX7_mark cX7_mark 4 (some .int) 1 := ⟨mc_yX7_mark, tbT 935 (by decide +kernel) rfl, tbT 936 (by decide +kernel) rfl, tbT 937 (by decide +kernel) rfl, mi_RX7, ⟨by decide +kernel, by decide +kernel, by decide +kernel⟩⟩
theorem lc_RL_92 : lkV RL 92 RX7 yX7_set cX7_set 2 (some .int) 0 := ⟨mc_yX7_set, tbT 940 (by decide +kernel) rfl, tbT 941 (by decide +kernel) rfl, tbT 942 (by decide +kernel) rfl, mi_RX7, ⟨by decide +kernel, by decide +kernel, by decide +kernel⟩⟩
theorem lc_RL_96 : lkV RL 96 RX7 yX7_offBy cX7_offBy 5 (some .int) 3 := ⟨mc_yX7_offBy, tbT 944 (by decide +kernel) rfl, tbT 945 (by decide +kernel) rfl, tbT 946 (by decide +kernel) rfl, mi_RX7, ⟨by decide +kernel, by decide +kernel, by decide +kernel⟩⟩
theorem lc_RX7_173 : lkV RX7 173 RX7 yX7_isSet cX7_isSet 2 (some .boolean) 1 := ⟨mc_yX7_isSet, tbT 948 (by decide +kernel) rfl, tbT 950 (by decide +kernel) rfl, tbS 31 (by decide +kernel) rfl, mi_RX7, ⟨by decide +kernel, by decide +kernel, by decide +kernel⟩⟩
theorem lc_RL_100 : lkV RL 100 RX7 yX7_ofSet cX7_ofSet 4 (some .int) 3 := ⟨mc_yX7_ofSet, tbT 952 (by decide +kernel) rfl, tbT 953 (by decide +kernel) rfl, tbT 954 (by decide +kernel) rfl, mi_RX7, ⟨by decide +kernel, by decide +kernel, by decide +kernel⟩⟩
theorem lc_RX7_176 : lkV RX7 176 RX7 yX7_valueOf cX7_valueOf 6 (some .int) 2 := ⟨mc_yX7_valueOf, tbT 956 (by decide +kernel) rfl, tbT 958 (by decide +kernel) rfl, tbS 32 (by decide +kernel) rfl, mi_RX7, ⟨by decide +kernel, by decide +kernel, by decide +kernel⟩⟩
theorem lc_RL_104 : lkV RL 104 RX7 yX7_errorOf cX7_errorOf 2 (some .int) 1 := ⟨mc_yX7_errorOf, tbT 960 (by decide +kernel) rfl, tbT 961 (by decide +kernel) rfl, tbT 962 (by decide +kernel) rfl, mi_RX7, ⟨by decide +kernel, by decide +kernel, by decide +kernel⟩⟩
theorem lc_RX7_179 : lkV RX7 179 RX7 yX7_errorNow cX7_errorNow 3 (some .int) 1 := ⟨mc_yX7_errorNow, tbT 964 (by decide +kernel) rfl, tbT 966 (by decide +kernel) rfl, tbS 33 (by decide +kernel) rfl, mi_RX7, ⟨by decide +kernel, by decide +kernel, by decide +kernel⟩⟩
theorem lc_RL_108 : lkV RL 108 RX7 yX7_sheet cX7_sheet 3 (some .int) 2 := ⟨mc_yX7_sheet, tbT 968 (by decide +kernel) rfl, tbT 969 (by decide +kernel) rfl, tbT 970 (by decide +kernel) rfl, mi_RX7, ⟨by decide +kernel, by decide +kernel, by decide +kernel⟩⟩
theorem lc_RL_112 : lkV RL 112 RX7 yX7_round cX7_round 2 (some .int) 1 := ⟨mc_yX7_round, tbT 972 (by decide +kernel) rfl, tbT 973 (by decide +kernel) rfl, tbT 974 (by decide +kernel) rfl, mi_RX7, ⟨by decide +kernel, by decide +kernel, by decide +kernel⟩⟩
theorem lc_RX7_188 : lkV RX7 188 RX7 yX7_oneRound cX7_oneRound 5 (some .int) 1 := ⟨mc_yX7_oneRound, tbT 976 (by decide +kernel) rfl, tbT 978 (by decide +kernel) rfl, tbS 34 (by decide +kernel) rfl, mi_RX7, ⟨by decide +kernel, by decide +kernel, by decide +kernel⟩⟩
theorem lc_RX7_185 : lkV RX7 185 RX7 yX7_turn cX7_turn 8 (some .int) 3 := ⟨mc_yX7_turn, tbT 980 (by decide +kernel) rfl, tbT 982 (by decide +kernel) rfl, tbS 35 (by decide +kernel) rfl, mi_RX7, ⟨by decide +kernel, by decide +kernel, by decide +kernel⟩⟩
theorem lc_RL_116 : lkV RL 116 RX7 yX7_align cX7_align 4 (some .int) 1 := ⟨mc_yX7_align, tbT 984 (by decide +kernel) rfl, tbT 985 (by decide +kernel) rfl, tbT 986 (by decide +kernel) rfl, mi_RX7, ⟨by decide +kernel, by decide +kernel, by decide +kernel⟩⟩
theorem lc_RL_120 : lkV RL 120 RX7 yX7_fault cX7_fault 2 (some .int) 1 := ⟨mc_yX7_fault, tbT 988 (by decide +kernel) rfl, tbT 989 (by decide +kernel) rfl, tbT 990 (by decide +kernel) rfl, mi_RX7, ⟨by decide +kernel, by decide +kernel, by decide +kernel⟩⟩
theorem lc_RL_124 : lkV RL 124 RX7 yX7_test cX7_test 2 (some .int) 1 := ⟨mc_yX7_test, tbT 992 (by decide +kernel) rfl, tbT 993 (by decide +kernel) rfl, tbT 994 (by decide +kernel) rfl, mi_RX7, ⟨by decide +kernel, by decide +kernel, by decide +kernel⟩⟩
theorem lc_RL_128 : lkV RL 128 RX7 yX7_reading cX7_reading 5 (some .int) 3 := ⟨mc_yX7_reading, tbT 996 (by decide +kernel) rfl, tbT 997 (by decide +kernel) rfl, tbT 998 (by decide +kernel) rfl, mi_RX7, ⟨by decide +kernel, by decide +kernel, by decide +kernel⟩⟩
theorem lc_RX7_200 : lkV RX7 200 RX7 yX7_isTest cX7_isTest 2 (some .boolean) 1 := ⟨mc_yX7_isTest, tbT 1000 (by decide +kernel) rfl, tbT 1002 (by decide +kernel) rfl, tbS 36 (by decide +kernel) rfl, mi_RX7, ⟨by decide +kernel, by decide +kernel, by decide +kernel⟩⟩
theorem lc_RL_132 : lkV RL 132 RX7 yX7_read cX7_read 4 (some .int) 2 := ⟨mc_yX7_read, tbT 1004 (by decide +kernel) rfl, tbT 1005 (by decide +kernel) rfl, tbT 1006 (by decide +kernel) rfl, mi_RX7, ⟨by decide +kernel, by decide +kernel, by decide +kernel⟩⟩
theorem lc_RX7_203 : lkV RX7 203 RX7 yX7_leaves cX7_leaves 6 (some .int) 3 := ⟨mc_yX7_leaves, tbT 1008 (by decide +kernel) rfl, tbT 1010 (by decide +kernel) rfl, tbS 37 (by decide +kernel) rfl, mi_RX7, ⟨by decide +kernel, by decide +kernel, by decide +kernel⟩⟩
theorem lc_RX7_206 : lkS RX7 206 yX7_bitsOf cX7_bitsOf 3 (some .int) 1 := ⟨mc_yX7_bitsOf, tbT 1012 (by decide +kernel) rfl, tbT 1013 (by decide +kernel) rfl, mi_RX7, ⟨by decide +kernel, by decide +kernel, by decide +kernel⟩⟩
theorem lc_RL_136 : lkV RL 136 RX7 yX7_again cX7_again 2 (some .int) 0 := ⟨mc_yX7_again, tbT 1015 (by decide +kernel) rfl, tbT 1016 (by decide +kernel) rfl, tbT 1017 (by decide +kernel) rfl, mi_RX7, ⟨by decide +kernel, by decide +kernel, by decide +kernel⟩⟩
theorem lc_RL_140 : lkV RL 140 RX7 yX7_left cX7_left 3 (some .int) 1 := ⟨mc_yX7_left, tbT 1019 (by decide +kernel) rfl, tbT 1020 (by decide +kernel) rfl, tbT 1021 (by decide +kernel) rfl, mi_RX7, ⟨by decide +kernel, by decide +kernel, by decide +kernel⟩⟩
theorem lc_RX7_216 : lkV RX7 216 RX7 yX7_nextBest cX7_nextBest 9 (some .int) 0 := ⟨mc_yX7_nextBest, tbT 1023 (by decide +kernel) rfl, tbT 1025 (by decide +kernel) rfl, tbS 38 (by decide +kernel) rfl, mi_RX7, ⟨by decide +kernel, by decide +kernel, by decide +kernel⟩⟩
theorem lc_RX7_209 : lkV RX7 209 RX7 yX7_parts cX7_parts 6 (some .boolean) 2 := ⟨mc_yX7_parts, tbT 1027 (by decide +kernel) rfl, tbT 1029 (by decide +kernel) rfl, tbS 39 (by decide +kernel) rfl, mi_RX7, ⟨by decide +kernel, by decide +kernel, by decide +kernel⟩⟩
theorem lc_RX7_212 : lkV RX7 212 RX7 yX7_least cX7_least 10 (some .int) 2 := ⟨mc_yX7_least, tbT 1031 (by decide +kernel) rfl, tbT 1033 (by decide +kernel) rfl, tbS 40 (by decide +kernel) rfl, mi_RX7, ⟨by decide +kernel, by decide +kernel, by decide +kernel⟩⟩
theorem lc_RL_144 : lkV RL 144 RX7 yX7_count cX7_count 4 (some .int) 1 := ⟨mc_yX7_count, tbT 1035 (by decide +kernel) rfl, tbT 1036 (by decide +kernel) rfl, tbT 1037 (by decide +kernel) rfl, mi_RX7, ⟨by decide +kernel, by decide +kernel, by decide +kernel⟩⟩
theorem lc_RX1_32 : lkN yX6_within cX6_within 3 (some .boolean) 3 := ⟨mc_yX6_within, tbT 181 (by decide +kernel) rfl, mi_RX6, ⟨by decide +kernel, by decide +kernel, by decide +kernel⟩⟩
theorem lc_RX4_31 : lkN yX6_within cX6_within 3 (some .boolean) 3 := ⟨mc_yX6_within, tbT 181 (by decide +kernel) rfl, mi_RX6, ⟨by decide +kernel, by decide +kernel, by decide +kernel⟩⟩
theorem lc_RX5_50 : lkN yX6_within cX6_within 3 (some .boolean) 3 := ⟨mc_yX6_within, tbT 181 (by decide +kernel) rfl, mi_RX6, ⟨by decide +kernel, by decide +kernel, by decide +kernel⟩⟩
theorem lc_RX5_87 : lkN yX6_isPlace cX6_isPlace 1 (some .boolean) 1 := ⟨mc_yX6_isPlace, tbT 343 (by decide +kernel) rfl, mi_RX6, ⟨by decide +kernel, by decide +kernel, by decide +kernel⟩⟩
theorem lc_RX0_52 : lkN yX6_within cX6_within 3 (some .boolean) 3 := ⟨mc_yX6_within, tbT 181 (by decide +kernel) rfl, mi_RX6, ⟨by decide +kernel, by decide +kernel, by decide +kernel⟩⟩
theorem lc_RX2_34 : lkN yX6_within cX6_within 3 (some .boolean) 3 := ⟨mc_yX6_within, tbT 181 (by decide +kernel) rfl, mi_RX6, ⟨by decide +kernel, by decide +kernel, by decide +kernel⟩⟩
theorem mm_abs : Cond.static Lib.Math.abs.name ∈ TB ∧ Cond.initialized "java/lang/Math" ∈ TB ∧ Cond.code Lib.Math.abs.name Lib.Math.abs.code 1 (some .int) ∈ TB := ⟨tbT 243 (by decide +kernel) rfl, tbT 8 (by decide +kernel) rfl, tbT 244 (by decide +kernel) rfl⟩
theorem mm_max : Cond.static Lib.Math.max.name ∈ TB ∧ Cond.initialized "java/lang/Math" ∈ TB ∧ Cond.code Lib.Math.max.name Lib.Math.max.code 2 (some .int) ∈ TB := ⟨tbT 423 (by decide +kernel) rfl, tbT 8 (by decide +kernel) rfl, tbT 424 (by decide +kernel) rfl⟩
theorem mm_min : Cond.static Lib.Math.min.name ∈ TB ∧ Cond.initialized "java/lang/Math" ∈ TB ∧ Cond.code Lib.Math.min.name Lib.Math.min.code 2 (some .int) ∈ TB := ⟨tbT 420 (by decide +kernel) rfl, tbT 8 (by decide +kernel) rfl, tbT 421 (by decide +kernel) rfl⟩
theorem kc_RX6_59 : Cond.constant RX6 59 (-2000000000) ∈ TB := tbT 215 (by decide +kernel) rfl
theorem kc_RX5_114 : Cond.constantLong RX5 114 (25330296000) ∈ TB := tbT 360 (by decide +kernel) rfl
theorem kc_RX5_116 : Cond.constantLong RX5 116 (131072) ∈ TB := tbT 361 (by decide +kernel) rfl
theorem kc_RX5_99 : Cond.constantLong RX5 99 (9223372036854775807) ∈ TB := tbT 414 (by decide +kernel) rfl
theorem kc_RX6_117 : Cond.constant RX6 117 (99999) ∈ TB := tbT 429 (by decide +kernel) rfl
theorem kc_RX5_107 : Cond.constant RX5 107 (2147483647) ∈ TB := tbT 434 (by decide +kernel) rfl
theorem kc_RX0_56 : Cond.constant RX0 56 (-2000000000) ∈ TB := tbT 485 (by decide +kernel) rfl
theorem kc_RJ6_265 : Cond.constant RJ6 265 (1431655765) ∈ TB := tbT 606 (by decide +kernel) rfl
theorem kc_RJ6_266 : Cond.constant RJ6 266 (858993459) ∈ TB := tbT 607 (by decide +kernel) rfl
theorem kc_RJ6_267 : Cond.constant RJ6 267 (252645135) ∈ TB := tbT 608 (by decide +kernel) rfl
theorem kc_RX2_51 : Cond.constant RX2 51 (2147483647) ∈ TB := tbT 629 (by decide +kernel) rfl
theorem kc_RX7_90 : Cond.constant RX7 90 (-2000000000) ∈ TB := tbT 816 (by decide +kernel) rfl
theorem kc_RX7_133 : Cond.constantLong RX7 133 (25330296000) ∈ TB := tbT 897 (by decide +kernel) rfl
theorem kc_RX7_129 : Cond.constantLong RX7 129 (200000) ∈ TB := tbT 901 (by decide +kernel) rfl
theorem kc_RX7_131 : Cond.constantLong RX7 131 (2) ∈ TB := tbT 902 (by decide +kernel) rfl
theorem kc_RX7_169 : Cond.constant RX7 169 (99999) ∈ TB := tbT 939 (by decide +kernel) rfl
section
variable {G : GP} {p : Program} {l : Launch} {e : Env} {R : Room} {s : State} {m : MethodId} {args : Array Value} {below : List Frame} {meth : Method} {c : Code} {H : Heap} {locs : List Loc} {cells slots : Nat} {Q : State → Prop} {cc : ByteArray} {nL : Nat} {ret : Option FieldType} {k : Cond} {own : String} {A : Nat → Prop} {pc : Nat} {ls : Array Slot} {rest : List Value} {q : Nat → Nat} {σ : St}

theorem vin {i : Int32} {n : Nat} (h : decide (i < 0 ∨ n ≤ i.toNatClampNeg) = false) : vp_in i n := of_decide_eq_false h
abbrev jabs (x : Int32) : Int32 := if 0 ≤ x then x else 0 - x
abbrev jmax (x y : Int32) : Int32 := if x < y then y else x
abbrev jmin (x y : Int32) : Int32 := if y < x then y else x
theorem rabs {idx : Nat} {x : Int32} {d : Nat} (C : Cx G p s m args meth c cc nL ret k own A) (lk : Cond.methodLink own idx Lib.Math.abs.name ∈ TB) (hl : ls.size = nL) (hcat : (rest.map fun v => v.category).sum + 13 ≤ (rmD (d + 1)).locals) (hdg : decode cc pc = .ok (.invokestatic idx, 3)) (kk : W p l e (rmD (d + 1)) s m args below meth c H locs 0 0 Q (F0 m (pc + 3) ls (.int (jabs x) :: rest))) : W p l e (rmD (d + 1)) s m args below meth c H locs 0 0 Q (F0 m pc ls (.int x :: rest)) :=
  va_mabs C.1 C.2.1 (C.2.2.1.trans hl.symm) C.2.2.2.1 (C.2.2.2.2.1 _ (List.mem_cons_of_mem _ lk)) (C.2.2.2.2.1 _ (List.mem_cons_of_mem _ mm_abs.1)) (C.2.2.2.2.1 _ (List.mem_cons_of_mem _ mm_abs.2.1)) (C.2.2.2.2.1 _ (List.mem_cons_of_mem _ mm_abs.2.2)) (Nat.succ_le_succ (Nat.zero_le _)) hcat (Nat.zero_le _) (Nat.zero_le _) hdg kk
theorem rmax {idx : Nat} {x y : Int32} {d : Nat} (C : Cx G p s m args meth c cc nL ret k own A) (lk : Cond.methodLink own idx Lib.Math.max.name ∈ TB) (hl : ls.size = nL) (hcat : (rest.map fun v => v.category).sum + 13 ≤ (rmD (d + 1)).locals) (hdg : decode cc pc = .ok (.invokestatic idx, 3)) (kk : W p l e (rmD (d + 1)) s m args below meth c H locs 0 0 Q (F0 m (pc + 3) ls (.int (jmax x y) :: rest))) : W p l e (rmD (d + 1)) s m args below meth c H locs 0 0 Q (F0 m pc ls (.int y :: .int x :: rest)) :=
  va_mmax C.1 C.2.1 (C.2.2.1.trans hl.symm) C.2.2.2.1 (C.2.2.2.2.1 _ (List.mem_cons_of_mem _ lk)) (C.2.2.2.2.1 _ (List.mem_cons_of_mem _ mm_max.1)) (C.2.2.2.2.1 _ (List.mem_cons_of_mem _ mm_max.2.1)) (C.2.2.2.2.1 _ (List.mem_cons_of_mem _ mm_max.2.2)) (Nat.succ_le_succ (Nat.zero_le _)) hcat (Nat.zero_le _) (Nat.zero_le _) hdg kk
theorem rmin {idx : Nat} {x y : Int32} {d : Nat} (C : Cx G p s m args meth c cc nL ret k own A) (lk : Cond.methodLink own idx Lib.Math.min.name ∈ TB) (hl : ls.size = nL) (hcat : (rest.map fun v => v.category).sum + 13 ≤ (rmD (d + 1)).locals) (hdg : decode cc pc = .ok (.invokestatic idx, 3)) (kk : W p l e (rmD (d + 1)) s m args below meth c H locs 0 0 Q (F0 m (pc + 3) ls (.int (jmin x y) :: rest))) : W p l e (rmD (d + 1)) s m args below meth c H locs 0 0 Q (F0 m pc ls (.int y :: .int x :: rest)) :=
  va_mmin C.1 C.2.1 (C.2.2.1.trans hl.symm) C.2.2.2.1 (C.2.2.2.2.1 _ (List.mem_cons_of_mem _ lk)) (C.2.2.2.2.1 _ (List.mem_cons_of_mem _ mm_min.1)) (C.2.2.2.2.1 _ (List.mem_cons_of_mem _ mm_min.2.1)) (C.2.2.2.2.1 _ (List.mem_cons_of_mem _ mm_min.2.2)) (Nat.succ_le_succ (Nat.zero_le _)) hcat (Nat.zero_le _) (Nat.zero_le _) hdg kk
theorem sw_out {x : Int32} (hi : Nat) (hh : hi + 1 < 2 ^ 31) (h : ∀ k : Nat, k ≤ hi → ¬ x = nI k) : x.toInt < 0 ∨ (hi : Int) < x.toInt := by
  rcases pk_ix x (n := hi + 1) hh with h1 | h1 | ⟨j, hj, h1⟩
  · exact Or.inl (by have := Int32.lt_iff_toInt_lt.mp h1; simpa using this)
  · have h2 := Int32.le_iff_toInt_le.mp h1
    rw [nI_toInt hh] at h2
    exact Or.inr (by omega)
  · exact absurd h1 (h j (by omega))
end
end
