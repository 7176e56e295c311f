-- ===== PART A: goes FIRST, ahead of the names: the tables' words, and 'selects' of the private methods out of them =====
/-- a private method of a class that the tables say can be made, by its rows of tables_1 -/
def lw_okq (q : MethodName × Nat) : Prop := (q.1.cls ≠ "java/lang/invoke/MethodHandle" ∧ q.1.cls ≠ "java/lang/invoke/VarHandle") ∧ Cond.instantiable q.1.cls q.2 ∈ tables_1 ∧ Cond.privateMethod q.1 ∈ tables_1 ∧ Cond.instanceMethod q.1 ∈ tables_1
theorem lw_p0 : lw_okq (⟨"RelayHut", "putBytes", "(I)V"⟩, 14) := ⟨⟨by decide +kernel, by decide +kernel⟩, List.mem_of_getElem? (i := 25) (by decide +kernel), List.mem_of_getElem? (i := 621) (by decide +kernel), List.mem_of_getElem? (i := 622) (by decide +kernel)⟩
theorem lw_p1 : lw_okq (⟨"RelayHut$Reading", "forgetText", "()V"⟩, 20) := ⟨⟨by decide +kernel, by decide +kernel⟩, List.mem_of_getElem? (i := 208) (by decide +kernel), List.mem_of_getElem? (i := 637) (by decide +kernel), List.mem_of_getElem? (i := 638) (by decide +kernel)⟩
theorem lw_p2 : lw_okq (⟨"RelayHut$Tokens", "takeWord", "()V"⟩, 7) := ⟨⟨by decide +kernel, by decide +kernel⟩, List.mem_of_getElem? (i := 214) (by decide +kernel), List.mem_of_getElem? (i := 656) (by decide +kernel), List.mem_of_getElem? (i := 657) (by decide +kernel)⟩
theorem lw_p3 : lw_okq (⟨"RelayHut$Tokens", "kindOfWord", "()I"⟩, 7) := ⟨⟨by decide +kernel, by decide +kernel⟩, List.mem_of_getElem? (i := 214) (by decide +kernel), List.mem_of_getElem? (i := 660) (by decide +kernel), List.mem_of_getElem? (i := 661) (by decide +kernel)⟩
theorem lw_p4 : lw_okq (⟨"RelayHut$Tokens", "takeNumber", "()V"⟩, 7) := ⟨⟨by decide +kernel, by decide +kernel⟩, List.mem_of_getElem? (i := 214) (by decide +kernel), List.mem_of_getElem? (i := 667) (by decide +kernel), List.mem_of_getElem? (i := 668) (by decide +kernel)⟩
theorem lw_p5 : lw_okq (⟨"RelayHut$Reading", "judgeNames", "()I"⟩, 20) := ⟨⟨by decide +kernel, by decide +kernel⟩, List.mem_of_getElem? (i := 208) (by decide +kernel), List.mem_of_getElem? (i := 728) (by decide +kernel), List.mem_of_getElem? (i := 729) (by decide +kernel)⟩
theorem lw_p6 : lw_okq (⟨"RelayHut$Reading", "faultOfToken", "(II)I"⟩, 20) := ⟨⟨by decide +kernel, by decide +kernel⟩, List.mem_of_getElem? (i := 208) (by decide +kernel), List.mem_of_getElem? (i := 732) (by decide +kernel), List.mem_of_getElem? (i := 733) (by decide +kernel)⟩
theorem lw_p7 : lw_okq (⟨"RelayHut$Reading", "isTold", "(JI)Z"⟩, 20) := ⟨⟨by decide +kernel, by decide +kernel⟩, List.mem_of_getElem? (i := 208) (by decide +kernel), List.mem_of_getElem? (i := 740) (by decide +kernel), List.mem_of_getElem? (i := 741) (by decide +kernel)⟩
theorem lw_p8 : lw_okq (⟨"RelayHut$Reading", "greenOf", "(JI)I"⟩, 20) := ⟨⟨by decide +kernel, by decide +kernel⟩, List.mem_of_getElem? (i := 208) (by decide +kernel), List.mem_of_getElem? (i := 744) (by decide +kernel), List.mem_of_getElem? (i := 745) (by decide +kernel)⟩
theorem lw_p9 : lw_okq (⟨"RelayHut$Reading", "variableOf", "(J)I"⟩, 20) := ⟨⟨by decide +kernel, by decide +kernel⟩, List.mem_of_getElem? (i := 208) (by decide +kernel), List.mem_of_getElem? (i := 748) (by decide +kernel), List.mem_of_getElem? (i := 749) (by decide +kernel)⟩
theorem lw_p10 : lw_okq (⟨"RelayHut$Reading", "stateBehind", "(I)I"⟩, 20) := ⟨⟨by decide +kernel, by decide +kernel⟩, List.mem_of_getElem? (i := 208) (by decide +kernel), List.mem_of_getElem? (i := 752) (by decide +kernel), List.mem_of_getElem? (i := 753) (by decide +kernel)⟩
theorem lw_p11 : lw_okq (⟨"RelayHut$Reading", "stateBehindUnit", "(I)I"⟩, 20) := ⟨⟨by decide +kernel, by decide +kernel⟩, List.mem_of_getElem? (i := 208) (by decide +kernel), List.mem_of_getElem? (i := 759) (by decide +kernel), List.mem_of_getElem? (i := 760) (by decide +kernel)⟩
theorem lw_p12 : lw_okq (⟨"RelayHut$Reading", "isOutOfRoom", "(I)Z"⟩, 20) := ⟨⟨by decide +kernel, by decide +kernel⟩, List.mem_of_getElem? (i := 208) (by decide +kernel), List.mem_of_getElem? (i := 763) (by decide +kernel), List.mem_of_getElem? (i := 764) (by decide +kernel)⟩
theorem lw_p13 : lw_okq (⟨"RelayHut$Reading", "isContact", "(I)Z"⟩, 20) := ⟨⟨by decide +kernel, by decide +kernel⟩, List.mem_of_getElem? (i := 208) (by decide +kernel), List.mem_of_getElem? (i := 767) (by decide +kernel), List.mem_of_getElem? (i := 768) (by decide +kernel)⟩
theorem lw_p14 : lw_okq (⟨"RelayHut$Reading", "keepToken", "(I)V"⟩, 20) := ⟨⟨by decide +kernel, by decide +kernel⟩, List.mem_of_getElem? (i := 208) (by decide +kernel), List.mem_of_getElem? (i := 774) (by decide +kernel), List.mem_of_getElem? (i := 775) (by decide +kernel)⟩
theorem lw_p15 : lw_okq (⟨"RelayHut$Reading", "keepName", "()V"⟩, 20) := ⟨⟨by decide +kernel, by decide +kernel⟩, List.mem_of_getElem? (i := 208) (by decide +kernel), List.mem_of_getElem? (i := 778) (by decide +kernel), List.mem_of_getElem? (i := 779) (by decide +kernel)⟩
def lw_privs_1 : List (MethodName × Nat) := [(⟨"RelayHut", "putBytes", "(I)V"⟩, 14), (⟨"RelayHut$Reading", "forgetText", "()V"⟩, 20), (⟨"RelayHut$Tokens", "takeWord", "()V"⟩, 7), (⟨"RelayHut$Tokens", "kindOfWord", "()I"⟩, 7), (⟨"RelayHut$Tokens", "takeNumber", "()V"⟩, 7), (⟨"RelayHut$Reading", "judgeNames", "()I"⟩, 20), (⟨"RelayHut$Reading", "faultOfToken", "(II)I"⟩, 20), (⟨"RelayHut$Reading", "isTold", "(JI)Z"⟩, 20), (⟨"RelayHut$Reading", "greenOf", "(JI)I"⟩, 20), (⟨"RelayHut$Reading", "variableOf", "(J)I"⟩, 20), (⟨"RelayHut$Reading", "stateBehind", "(I)I"⟩, 20), (⟨"RelayHut$Reading", "stateBehindUnit", "(I)I"⟩, 20), (⟨"RelayHut$Reading", "isOutOfRoom", "(I)Z"⟩, 20), (⟨"RelayHut$Reading", "isContact", "(I)Z"⟩, 20), (⟨"RelayHut$Reading", "keepToken", "(I)V"⟩, 20), (⟨"RelayHut$Reading", "keepName", "()V"⟩, 20)]
theorem lw_r1 : ∀ q ∈ lw_privs_1, lw_okq q := List.forall_mem_cons.mpr ⟨lw_p0, List.forall_mem_cons.mpr ⟨lw_p1, List.forall_mem_cons.mpr ⟨lw_p2, List.forall_mem_cons.mpr ⟨lw_p3, List.forall_mem_cons.mpr ⟨lw_p4, List.forall_mem_cons.mpr ⟨lw_p5, List.forall_mem_cons.mpr ⟨lw_p6, List.forall_mem_cons.mpr ⟨lw_p7, List.forall_mem_cons.mpr ⟨lw_p8, List.forall_mem_cons.mpr ⟨lw_p9, List.forall_mem_cons.mpr ⟨lw_p10, List.forall_mem_cons.mpr ⟨lw_p11, List.forall_mem_cons.mpr ⟨lw_p12, List.forall_mem_cons.mpr ⟨lw_p13, List.forall_mem_cons.mpr ⟨lw_p14, List.forall_mem_cons.mpr ⟨lw_p15, fun _ h => absurd h List.not_mem_nil⟩⟩⟩⟩⟩⟩⟩⟩⟩⟩⟩⟩⟩⟩⟩⟩
theorem lw_p16 : lw_okq (⟨"RelayHut$Reading", "keepTold", "(I)V"⟩, 20) := ⟨⟨by decide +kernel, by decide +kernel⟩, List.mem_of_getElem? (i := 208) (by decide +kernel), List.mem_of_getElem? (i := 782) (by decide +kernel), List.mem_of_getElem? (i := 783) (by decide +kernel)⟩
theorem lw_p17 : lw_okq (⟨"RelayHut$Reading", "drawCircuits", "(LRelayHut$Drawing;)V"⟩, 20) := ⟨⟨by decide +kernel, by decide +kernel⟩, List.mem_of_getElem? (i := 208) (by decide +kernel), List.mem_of_getElem? (i := 800) (by decide +kernel), List.mem_of_getElem? (i := 801) (by decide +kernel)⟩
theorem lw_p18 : lw_okq (⟨"RelayHut$Reading", "circuitEnd", "(I)I"⟩, 20) := ⟨⟨by decide +kernel, by decide +kernel⟩, List.mem_of_getElem? (i := 208) (by decide +kernel), List.mem_of_getElem? (i := 808) (by decide +kernel), List.mem_of_getElem? (i := 809) (by decide +kernel)⟩
theorem lw_p19 : lw_okq (⟨"RelayHut$Wiring", "putContact", "(IIZZI)V"⟩, 12) := ⟨⟨by decide +kernel, by decide +kernel⟩, List.mem_of_getElem? (i := 39) (by decide +kernel), List.mem_of_getElem? (i := 831) (by decide +kernel), List.mem_of_getElem? (i := 832) (by decide +kernel)⟩
theorem lw_p20 : lw_okq (⟨"RelayHut$Drawing", "addFlaw", "(I)V"⟩, 18) := ⟨⟨by decide +kernel, by decide +kernel⟩, List.mem_of_getElem? (i := 33) (by decide +kernel), List.mem_of_getElem? (i := 840) (by decide +kernel), List.mem_of_getElem? (i := 841) (by decide +kernel)⟩
theorem lw_p21 : lw_okq (⟨"RelayHut$Reading", "drawNevers", "(LRelayHut$Drawing;)V"⟩, 20) := ⟨⟨by decide +kernel, by decide +kernel⟩, List.mem_of_getElem? (i := 208) (by decide +kernel), List.mem_of_getElem? (i := 864) (by decide +kernel), List.mem_of_getElem? (i := 865) (by decide +kernel)⟩
theorem lw_p22 : lw_okq (⟨"RelayHut", "takeToHand", "(I)V"⟩, 14) := ⟨⟨by decide +kernel, by decide +kernel⟩, List.mem_of_getElem? (i := 25) (by decide +kernel), List.mem_of_getElem? (i := 880) (by decide +kernel), List.mem_of_getElem? (i := 881) (by decide +kernel)⟩
theorem lw_p23 : lw_okq (⟨"RelayHut", "current", "()LRelayHut$Drawing;"⟩, 14) := ⟨⟨by decide +kernel, by decide +kernel⟩, List.mem_of_getElem? (i := 25) (by decide +kernel), List.mem_of_getElem? (i := 884) (by decide +kernel), List.mem_of_getElem? (i := 885) (by decide +kernel)⟩
theorem lw_p24 : lw_okq (⟨"RelayHut", "drawingOf", "(I)LRelayHut$Drawing;"⟩, 14) := ⟨⟨by decide +kernel, by decide +kernel⟩, List.mem_of_getElem? (i := 25) (by decide +kernel), List.mem_of_getElem? (i := 888) (by decide +kernel), List.mem_of_getElem? (i := 889) (by decide +kernel)⟩
theorem lw_p25 : lw_okq (⟨"RelayHut", "isDrawing", "(I)Z"⟩, 14) := ⟨⟨by decide +kernel, by decide +kernel⟩, List.mem_of_getElem? (i := 25) (by decide +kernel), List.mem_of_getElem? (i := 892) (by decide +kernel), List.mem_of_getElem? (i := 893) (by decide +kernel)⟩
theorem lw_p26 : lw_okq (⟨"RelayHut", "takeHut", "(II)Z"⟩, 14) := ⟨⟨by decide +kernel, by decide +kernel⟩, List.mem_of_getElem? (i := 25) (by decide +kernel), List.mem_of_getElem? (i := 927) (by decide +kernel), List.mem_of_getElem? (i := 928) (by decide +kernel)⟩
theorem lw_p27 : lw_okq (⟨"RelayHut$Hut", "harm", "(I)V"⟩, 16) := ⟨⟨by decide +kernel, by decide +kernel⟩, List.mem_of_getElem? (i := 369) (by decide +kernel), List.mem_of_getElem? (i := 947) (by decide +kernel), List.mem_of_getElem? (i := 948) (by decide +kernel)⟩
theorem lw_p28 : lw_okq (⟨"RelayHut", "isState", "(II)Z"⟩, 14) := ⟨⟨by decide +kernel, by decide +kernel⟩, List.mem_of_getElem? (i := 25) (by decide +kernel), List.mem_of_getElem? (i := 951) (by decide +kernel), List.mem_of_getElem? (i := 952) (by decide +kernel)⟩
theorem lw_p29 : lw_okq (⟨"RelayHut$Hut", "movable", "(II)I"⟩, 16) := ⟨⟨by decide +kernel, by decide +kernel⟩, List.mem_of_getElem? (i := 369) (by decide +kernel), List.mem_of_getElem? (i := 973) (by decide +kernel), List.mem_of_getElem? (i := 974) (by decide +kernel)⟩
theorem lw_p30 : lw_okq (⟨"RelayHut$Hut", "enter", "(III)V"⟩, 16) := ⟨⟨by decide +kernel, by decide +kernel⟩, List.mem_of_getElem? (i := 369) (by decide +kernel), List.mem_of_getElem? (i := 981) (by decide +kernel), List.mem_of_getElem? (i := 982) (by decide +kernel)⟩
theorem lw_p31 : lw_okq (⟨"RelayHut$Hut", "join", "(II)V"⟩, 16) := ⟨⟨by decide +kernel, by decide +kernel⟩, List.mem_of_getElem? (i := 369) (by decide +kernel), List.mem_of_getElem? (i := 985) (by decide +kernel), List.mem_of_getElem? (i := 986) (by decide +kernel)⟩
def lw_privs_2 : List (MethodName × Nat) := [(⟨"RelayHut$Reading", "keepTold", "(I)V"⟩, 20), (⟨"RelayHut$Reading", "drawCircuits", "(LRelayHut$Drawing;)V"⟩, 20), (⟨"RelayHut$Reading", "circuitEnd", "(I)I"⟩, 20), (⟨"RelayHut$Wiring", "putContact", "(IIZZI)V"⟩, 12), (⟨"RelayHut$Drawing", "addFlaw", "(I)V"⟩, 18), (⟨"RelayHut$Reading", "drawNevers", "(LRelayHut$Drawing;)V"⟩, 20), (⟨"RelayHut", "takeToHand", "(I)V"⟩, 14), (⟨"RelayHut", "current", "()LRelayHut$Drawing;"⟩, 14), (⟨"RelayHut", "drawingOf", "(I)LRelayHut$Drawing;"⟩, 14), (⟨"RelayHut", "isDrawing", "(I)Z"⟩, 14), (⟨"RelayHut", "takeHut", "(II)Z"⟩, 14), (⟨"RelayHut$Hut", "harm", "(I)V"⟩, 16), (⟨"RelayHut", "isState", "(II)Z"⟩, 14), (⟨"RelayHut$Hut", "movable", "(II)I"⟩, 16), (⟨"RelayHut$Hut", "enter", "(III)V"⟩, 16), (⟨"RelayHut$Hut", "join", "(II)V"⟩, 16)]
theorem lw_r2 : ∀ q ∈ lw_privs_2, lw_okq q := List.forall_mem_cons.mpr ⟨lw_p16, List.forall_mem_cons.mpr ⟨lw_p17, List.forall_mem_cons.mpr ⟨lw_p18, List.forall_mem_cons.mpr ⟨lw_p19, List.forall_mem_cons.mpr ⟨lw_p20, List.forall_mem_cons.mpr ⟨lw_p21, List.forall_mem_cons.mpr ⟨lw_p22, List.forall_mem_cons.mpr ⟨lw_p23, List.forall_mem_cons.mpr ⟨lw_p24, List.forall_mem_cons.mpr ⟨lw_p25, List.forall_mem_cons.mpr ⟨lw_p26, List.forall_mem_cons.mpr ⟨lw_p27, List.forall_mem_cons.mpr ⟨lw_p28, List.forall_mem_cons.mpr ⟨lw_p29, List.forall_mem_cons.mpr ⟨lw_p30, List.forall_mem_cons.mpr ⟨lw_p31, fun _ h => absurd h List.not_mem_nil⟩⟩⟩⟩⟩⟩⟩⟩⟩⟩⟩⟩⟩⟩⟩⟩
theorem lw_p32 : lw_okq (⟨"RelayHut$Survey", "isAtStop", "(ZZ)Z"⟩, 9) := ⟨⟨by decide +kernel, by decide +kernel⟩, List.mem_of_getElem? (i := 428) (by decide +kernel), List.mem_of_getElem? (i := 1009) (by decide +kernel), List.mem_of_getElem? (i := 1010) (by decide +kernel)⟩
theorem lw_p33 : lw_okq (⟨"RelayHut$Survey", "startFrom", "(I)V"⟩, 9) := ⟨⟨by decide +kernel, by decide +kernel⟩, List.mem_of_getElem? (i := 428) (by decide +kernel), List.mem_of_getElem? (i := 1014) (by decide +kernel), List.mem_of_getElem? (i := 1015) (by decide +kernel)⟩
theorem lw_p34 : lw_okq (⟨"RelayHut$Survey", "reach", "(III)V"⟩, 9) := ⟨⟨by decide +kernel, by decide +kernel⟩, List.mem_of_getElem? (i := 428) (by decide +kernel), List.mem_of_getElem? (i := 1021) (by decide +kernel), List.mem_of_getElem? (i := 1022) (by decide +kernel)⟩
theorem lw_p35 : lw_okq (⟨"RelayHut$Survey", "areBadTogether", "(LRelayHut$Drawing;II)Z"⟩, 9) := ⟨⟨by decide +kernel, by decide +kernel⟩, List.mem_of_getElem? (i := 428) (by decide +kernel), List.mem_of_getElem? (i := 1092) (by decide +kernel), List.mem_of_getElem? (i := 1093) (by decide +kernel)⟩
theorem lw_p36 : lw_okq (⟨"RelayHut$Trials", "prepareBoth", "(LRelayHut$Drawing;I)V"⟩, 5) := ⟨⟨by decide +kernel, by decide +kernel⟩, List.mem_of_getElem? (i := 462) (by decide +kernel), List.mem_of_getElem? (i := 1123) (by decide +kernel), List.mem_of_getElem? (i := 1124) (by decide +kernel)⟩
theorem lw_p37 : lw_okq (⟨"RelayHut$Trials", "beginSearch", "()I"⟩, 5) := ⟨⟨by decide +kernel, by decide +kernel⟩, List.mem_of_getElem? (i := 462) (by decide +kernel), List.mem_of_getElem? (i := 1128) (by decide +kernel), List.mem_of_getElem? (i := 1129) (by decide +kernel)⟩
theorem lw_p38 : lw_okq (⟨"RelayHut$Trials", "look", "(III)I"⟩, 5) := ⟨⟨by decide +kernel, by decide +kernel⟩, List.mem_of_getElem? (i := 462) (by decide +kernel), List.mem_of_getElem? (i := 1134) (by decide +kernel), List.mem_of_getElem? (i := 1135) (by decide +kernel)⟩
theorem lw_p39 : lw_okq (⟨"RelayHut$Trials", "reachPlace", "(IIIJ)V"⟩, 5) := ⟨⟨by decide +kernel, by decide +kernel⟩, List.mem_of_getElem? (i := 462) (by decide +kernel), List.mem_of_getElem? (i := 1140) (by decide +kernel), List.mem_of_getElem? (i := 1141) (by decide +kernel)⟩
theorem lw_p40 : lw_okq (⟨"RelayHut$Trials", "actFrom", "(II)I"⟩, 5) := ⟨⟨by decide +kernel, by decide +kernel⟩, List.mem_of_getElem? (i := 462) (by decide +kernel), List.mem_of_getElem? (i := 1158) (by decide +kernel), List.mem_of_getElem? (i := 1159) (by decide +kernel)⟩
theorem lw_p41 : lw_okq (⟨"RelayHut$Trials", "testTo", "(III)J"⟩, 5) := ⟨⟨by decide +kernel, by decide +kernel⟩, List.mem_of_getElem? (i := 462) (by decide +kernel), List.mem_of_getElem? (i := 1163) (by decide +kernel), List.mem_of_getElem? (i := 1164) (by decide +kernel)⟩
theorem lw_p42 : lw_okq (⟨"RelayHut$Trials", "isSeeing", "(J)Z"⟩, 5) := ⟨⟨by decide +kernel, by decide +kernel⟩, List.mem_of_getElem? (i := 462) (by decide +kernel), List.mem_of_getElem? (i := 1202) (by decide +kernel), List.mem_of_getElem? (i := 1203) (by decide +kernel)⟩
theorem lw_p43 : lw_okq (⟨"RelayHut$Drawing", "hasSameCircuit", "(LRelayHut$Drawing;I)Z"⟩, 18) := ⟨⟨by decide +kernel, by decide +kernel⟩, List.mem_of_getElem? (i := 33) (by decide +kernel), List.mem_of_getElem? (i := 1224) (by decide +kernel), List.mem_of_getElem? (i := 1225) (by decide +kernel)⟩
theorem lw_p44 : lw_okq (⟨"RelayHut$Planner", "listSets", "(I)V"⟩, 9) := ⟨⟨by decide +kernel, by decide +kernel⟩, List.mem_of_getElem? (i := 484) (by decide +kernel), List.mem_of_getElem? (i := 1252) (by decide +kernel), List.mem_of_getElem? (i := 1253) (by decide +kernel)⟩
theorem lw_p45 : lw_okq (⟨"RelayHut$Planner", "stagesFrom", "(I)I"⟩, 9) := ⟨⟨by decide +kernel, by decide +kernel⟩, List.mem_of_getElem? (i := 484) (by decide +kernel), List.mem_of_getElem? (i := 1260) (by decide +kernel), List.mem_of_getElem? (i := 1261) (by decide +kernel)⟩
theorem lw_p46 : lw_okq (⟨"RelayHut$Planner", "isStage", "(II)Z"⟩, 9) := ⟨⟨by decide +kernel, by decide +kernel⟩, List.mem_of_getElem? (i := 484) (by decide +kernel), List.mem_of_getElem? (i := 1264) (by decide +kernel), List.mem_of_getElem? (i := 1265) (by decide +kernel)⟩
theorem lw_p47 : lw_okq (⟨"RelayHut$Logbook", "addEntry", "(IIII)I"⟩, 7) := ⟨⟨by decide +kernel, by decide +kernel⟩, List.mem_of_getElem? (i := 518) (by decide +kernel), List.mem_of_getElem? (i := 1293) (by decide +kernel), List.mem_of_getElem? (i := 1294) (by decide +kernel)⟩
def lw_privs_3 : List (MethodName × Nat) := [(⟨"RelayHut$Survey", "isAtStop", "(ZZ)Z"⟩, 9), (⟨"RelayHut$Survey", "startFrom", "(I)V"⟩, 9), (⟨"RelayHut$Survey", "reach", "(III)V"⟩, 9), (⟨"RelayHut$Survey", "areBadTogether", "(LRelayHut$Drawing;II)Z"⟩, 9), (⟨"RelayHut$Trials", "prepareBoth", "(LRelayHut$Drawing;I)V"⟩, 5), (⟨"RelayHut$Trials", "beginSearch", "()I"⟩, 5), (⟨"RelayHut$Trials", "look", "(III)I"⟩, 5), (⟨"RelayHut$Trials", "reachPlace", "(IIIJ)V"⟩, 5), (⟨"RelayHut$Trials", "actFrom", "(II)I"⟩, 5), (⟨"RelayHut$Trials", "testTo", "(III)J"⟩, 5), (⟨"RelayHut$Trials", "isSeeing", "(J)Z"⟩, 5), (⟨"RelayHut$Drawing", "hasSameCircuit", "(LRelayHut$Drawing;I)Z"⟩, 18), (⟨"RelayHut$Planner", "listSets", "(I)V"⟩, 9), (⟨"RelayHut$Planner", "stagesFrom", "(I)I"⟩, 9), (⟨"RelayHut$Planner", "isStage", "(II)Z"⟩, 9), (⟨"RelayHut$Logbook", "addEntry", "(IIII)I"⟩, 7)]
theorem lw_r3 : ∀ q ∈ lw_privs_3, lw_okq q := List.forall_mem_cons.mpr ⟨lw_p32, List.forall_mem_cons.mpr ⟨lw_p33, List.forall_mem_cons.mpr ⟨lw_p34, List.forall_mem_cons.mpr ⟨lw_p35, List.forall_mem_cons.mpr ⟨lw_p36, List.forall_mem_cons.mpr ⟨lw_p37, List.forall_mem_cons.mpr ⟨lw_p38, List.forall_mem_cons.mpr ⟨lw_p39, List.forall_mem_cons.mpr ⟨lw_p40, List.forall_mem_cons.mpr ⟨lw_p41, List.forall_mem_cons.mpr ⟨lw_p42, List.forall_mem_cons.mpr ⟨lw_p43, List.forall_mem_cons.mpr ⟨lw_p44, List.forall_mem_cons.mpr ⟨lw_p45, List.forall_mem_cons.mpr ⟨lw_p46, List.forall_mem_cons.mpr ⟨lw_p47, fun _ h => absurd h List.not_mem_nil⟩⟩⟩⟩⟩⟩⟩⟩⟩⟩⟩⟩⟩⟩⟩⟩
theorem lw_p48 : lw_okq (⟨"RelayHut$Logbook", "isVoid", "(II)Z"⟩, 7) := ⟨⟨by decide +kernel, by decide +kernel⟩, List.mem_of_getElem? (i := 518) (by decide +kernel), List.mem_of_getElem? (i := 1318) (by decide +kernel), List.mem_of_getElem? (i := 1319) (by decide +kernel)⟩
theorem lw_p49 : lw_okq (⟨"RelayHut$Logbook", "outcome", "(II)I"⟩, 7) := ⟨⟨by decide +kernel, by decide +kernel⟩, List.mem_of_getElem? (i := 518) (by decide +kernel), List.mem_of_getElem? (i := 1322) (by decide +kernel), List.mem_of_getElem? (i := 1323) (by decide +kernel)⟩
theorem lw_p50 : lw_okq (⟨"RelayHut$Logbook", "addToGroups", "(LRelayHut$Drawing;)V"⟩, 7) := ⟨⟨by decide +kernel, by decide +kernel⟩, List.mem_of_getElem? (i := 518) (by decide +kernel), List.mem_of_getElem? (i := 1348) (by decide +kernel), List.mem_of_getElem? (i := 1349) (by decide +kernel)⟩
theorem lw_p51 : lw_okq (⟨"RelayHut$Logbook", "greatestGroup", "(I)I"⟩, 7) := ⟨⟨by decide +kernel, by decide +kernel⟩, List.mem_of_getElem? (i := 518) (by decide +kernel), List.mem_of_getElem? (i := 1362) (by decide +kernel), List.mem_of_getElem? (i := 1363) (by decide +kernel)⟩
theorem lw_p52 : lw_okq (⟨"RelayHut$Handwork", "circuitsNow", "()I"⟩, 7) := ⟨⟨by decide +kernel, by decide +kernel⟩, List.mem_of_getElem? (i := 546) (by decide +kernel), List.mem_of_getElem? (i := 1399) (by decide +kernel), List.mem_of_getElem? (i := 1400) (by decide +kernel)⟩
theorem lw_p53 : lw_okq (⟨"RelayHut$Handwork", "isClash", "(I)Z"⟩, 7) := ⟨⟨by decide +kernel, by decide +kernel⟩, List.mem_of_getElem? (i := 546) (by decide +kernel), List.mem_of_getElem? (i := 1408) (by decide +kernel), List.mem_of_getElem? (i := 1409) (by decide +kernel)⟩
theorem lw_p54 : lw_okq (⟨"RelayHutModel", "put", "(I)V"⟩, 99) := ⟨⟨by decide +kernel, by decide +kernel⟩, List.mem_of_getElem? (i := 1447) (by decide +kernel), List.mem_of_getElem? (i := 1763) (by decide +kernel), List.mem_of_getElem? (i := 1764) (by decide +kernel)⟩
theorem lw_p55 : lw_okq (⟨"RelayHutModel", "cut", "()V"⟩, 99) := ⟨⟨by decide +kernel, by decide +kernel⟩, List.mem_of_getElem? (i := 1447) (by decide +kernel), List.mem_of_getElem? (i := 1775) (by decide +kernel), List.mem_of_getElem? (i := 1776) (by decide +kernel)⟩
theorem lw_p56 : lw_okq (⟨"RelayHutModel", "byteAt", "(I)I"⟩, 99) := ⟨⟨by decide +kernel, by decide +kernel⟩, List.mem_of_getElem? (i := 1447) (by decide +kernel), List.mem_of_getElem? (i := 1779) (by decide +kernel), List.mem_of_getElem? (i := 1780) (by decide +kernel)⟩
theorem lw_p57 : lw_okq (⟨"RelayHutModel", "token", "(IIIJ)V"⟩, 99) := ⟨⟨by decide +kernel, by decide +kernel⟩, List.mem_of_getElem? (i := 1447) (by decide +kernel), List.mem_of_getElem? (i := 1783) (by decide +kernel), List.mem_of_getElem? (i := 1784) (by decide +kernel)⟩
theorem lw_p58 : lw_okq (⟨"RelayHutModel", "is", "(I)Z"⟩, 99) := ⟨⟨by decide +kernel, by decide +kernel⟩, List.mem_of_getElem? (i := 1447) (by decide +kernel), List.mem_of_getElem? (i := 1796) (by decide +kernel), List.mem_of_getElem? (i := 1797) (by decide +kernel)⟩
theorem lw_p59 : lw_okq (⟨"RelayHutModel", "tell", "()V"⟩, 99) := ⟨⟨by decide +kernel, by decide +kernel⟩, List.mem_of_getElem? (i := 1447) (by decide +kernel), List.mem_of_getElem? (i := 1800) (by decide +kernel), List.mem_of_getElem? (i := 1801) (by decide +kernel)⟩
theorem lw_p60 : lw_okq (⟨"RelayHutModel", "fail", "(I)V"⟩, 99) := ⟨⟨by decide +kernel, by decide +kernel⟩, List.mem_of_getElem? (i := 1447) (by decide +kernel), List.mem_of_getElem? (i := 1804) (by decide +kernel), List.mem_of_getElem? (i := 1805) (by decide +kernel)⟩
theorem lw_p61 : lw_okq (⟨"RelayHutModel", "tellInput", "()V"⟩, 99) := ⟨⟨by decide +kernel, by decide +kernel⟩, List.mem_of_getElem? (i := 1447) (by decide +kernel), List.mem_of_getElem? (i := 1808) (by decide +kernel), List.mem_of_getElem? (i := 1809) (by decide +kernel)⟩
theorem lw_p62 : lw_okq (⟨"RelayHutModel", "goesOn", "()V"⟩, 99) := ⟨⟨by decide +kernel, by decide +kernel⟩, List.mem_of_getElem? (i := 1447) (by decide +kernel), List.mem_of_getElem? (i := 1812) (by decide +kernel), List.mem_of_getElem? (i := 1813) (by decide +kernel)⟩
theorem lw_p63 : lw_okq (⟨"RelayHutModel", "named", "()J"⟩, 99) := ⟨⟨by decide +kernel, by decide +kernel⟩, List.mem_of_getElem? (i := 1447) (by decide +kernel), List.mem_of_getElem? (i := 1816) (by decide +kernel), List.mem_of_getElem? (i := 1817) (by decide +kernel)⟩
def lw_privs_4 : List (MethodName × Nat) := [(⟨"RelayHut$Logbook", "isVoid", "(II)Z"⟩, 7), (⟨"RelayHut$Logbook", "outcome", "(II)I"⟩, 7), (⟨"RelayHut$Logbook", "addToGroups", "(LRelayHut$Drawing;)V"⟩, 7), (⟨"RelayHut$Logbook", "greatestGroup", "(I)I"⟩, 7), (⟨"RelayHut$Handwork", "circuitsNow", "()I"⟩, 7), (⟨"RelayHut$Handwork", "isClash", "(I)Z"⟩, 7), (⟨"RelayHutModel", "put", "(I)V"⟩, 99), (⟨"RelayHutModel", "cut", "()V"⟩, 99), (⟨"RelayHutModel", "byteAt", "(I)I"⟩, 99), (⟨"RelayHutModel", "token", "(IIIJ)V"⟩, 99), (⟨"RelayHutModel", "is", "(I)Z"⟩, 99), (⟨"RelayHutModel", "tell", "()V"⟩, 99), (⟨"RelayHutModel", "fail", "(I)V"⟩, 99), (⟨"RelayHutModel", "tellInput", "()V"⟩, 99), (⟨"RelayHutModel", "goesOn", "()V"⟩, 99), (⟨"RelayHutModel", "named", "()J"⟩, 99)]
theorem lw_r4 : ∀ q ∈ lw_privs_4, lw_okq q := List.forall_mem_cons.mpr ⟨lw_p48, List.forall_mem_cons.mpr ⟨lw_p49, List.forall_mem_cons.mpr ⟨lw_p50, List.forall_mem_cons.mpr ⟨lw_p51, List.forall_mem_cons.mpr ⟨lw_p52, List.forall_mem_cons.mpr ⟨lw_p53, List.forall_mem_cons.mpr ⟨lw_p54, List.forall_mem_cons.mpr ⟨lw_p55, List.forall_mem_cons.mpr ⟨lw_p56, List.forall_mem_cons.mpr ⟨lw_p57, List.forall_mem_cons.mpr ⟨lw_p58, List.forall_mem_cons.mpr ⟨lw_p59, List.forall_mem_cons.mpr ⟨lw_p60, List.forall_mem_cons.mpr ⟨lw_p61, List.forall_mem_cons.mpr ⟨lw_p62, List.forall_mem_cons.mpr ⟨lw_p63, fun _ h => absurd h List.not_mem_nil⟩⟩⟩⟩⟩⟩⟩⟩⟩⟩⟩⟩⟩⟩⟩⟩
theorem lw_p64 : lw_okq (⟨"RelayHutModel", "must", "(I)V"⟩, 99) := ⟨⟨by decide +kernel, by decide +kernel⟩, List.mem_of_getElem? (i := 1447) (by decide +kernel), List.mem_of_getElem? (i := 1820) (by decide +kernel), List.mem_of_getElem? (i := 1821) (by decide +kernel)⟩
theorem lw_p65 : lw_okq (⟨"RelayHutModel", "inputNamed", "(J)I"⟩, 99) := ⟨⟨by decide +kernel, by decide +kernel⟩, List.mem_of_getElem? (i := 1447) (by decide +kernel), List.mem_of_getElem? (i := 1824) (by decide +kernel), List.mem_of_getElem? (i := 1825) (by decide +kernel)⟩
theorem lw_p66 : lw_okq (⟨"RelayHutModel", "relayNamed", "(J)I"⟩, 99) := ⟨⟨by decide +kernel, by decide +kernel⟩, List.mem_of_getElem? (i := 1447) (by decide +kernel), List.mem_of_getElem? (i := 1828) (by decide +kernel), List.mem_of_getElem? (i := 1829) (by decide +kernel)⟩
theorem lw_p67 : lw_okq (⟨"RelayHutModel", "lampNamed", "(J)I"⟩, 99) := ⟨⟨by decide +kernel, by decide +kernel⟩, List.mem_of_getElem? (i := 1447) (by decide +kernel), List.mem_of_getElem? (i := 1832) (by decide +kernel), List.mem_of_getElem? (i := 1833) (by decide +kernel)⟩
theorem lw_p68 : lw_okq (⟨"RelayHutModel", "wrong", "(II)V"⟩, 99) := ⟨⟨by decide +kernel, by decide +kernel⟩, List.mem_of_getElem? (i := 1447) (by decide +kernel), List.mem_of_getElem? (i := 1836) (by decide +kernel), List.mem_of_getElem? (i := 1837) (by decide +kernel)⟩
theorem lw_p69 : lw_okq (⟨"RelayHutModel", "tellRelay", "()V"⟩, 99) := ⟨⟨by decide +kernel, by decide +kernel⟩, List.mem_of_getElem? (i := 1447) (by decide +kernel), List.mem_of_getElem? (i := 1840) (by decide +kernel), List.mem_of_getElem? (i := 1841) (by decide +kernel)⟩
theorem lw_p70 : lw_okq (⟨"RelayHutModel", "circuit", "(II)V"⟩, 99) := ⟨⟨by decide +kernel, by decide +kernel⟩, List.mem_of_getElem? (i := 1447) (by decide +kernel), List.mem_of_getElem? (i := 1844) (by decide +kernel), List.mem_of_getElem? (i := 1845) (by decide +kernel)⟩
theorem lw_p71 : lw_okq (⟨"RelayHutModel", "unit", "(I)V"⟩, 99) := ⟨⟨by decide +kernel, by decide +kernel⟩, List.mem_of_getElem? (i := 1447) (by decide +kernel), List.mem_of_getElem? (i := 1848) (by decide +kernel), List.mem_of_getElem? (i := 1849) (by decide +kernel)⟩
theorem lw_p72 : lw_okq (⟨"RelayHutModel", "emit", "(I)V"⟩, 99) := ⟨⟨by decide +kernel, by decide +kernel⟩, List.mem_of_getElem? (i := 1447) (by decide +kernel), List.mem_of_getElem? (i := 1852) (by decide +kernel), List.mem_of_getElem? (i := 1853) (by decide +kernel)⟩
theorem lw_p73 : lw_okq (⟨"RelayHutModel", "goes", "()Z"⟩, 99) := ⟨⟨by decide +kernel, by decide +kernel⟩, List.mem_of_getElem? (i := 1447) (by decide +kernel), List.mem_of_getElem? (i := 1856) (by decide +kernel), List.mem_of_getElem? (i := 1857) (by decide +kernel)⟩
theorem lw_p74 : lw_okq (⟨"RelayHutModel", "waitsOn", "(I)Z"⟩, 99) := ⟨⟨by decide +kernel, by decide +kernel⟩, List.mem_of_getElem? (i := 1447) (by decide +kernel), List.mem_of_getElem? (i := 1860) (by decide +kernel), List.mem_of_getElem? (i := 1861) (by decide +kernel)⟩
theorem lw_p75 : lw_okq (⟨"RelayHutModel", "tellLamp", "()V"⟩, 99) := ⟨⟨by decide +kernel, by decide +kernel⟩, List.mem_of_getElem? (i := 1447) (by decide +kernel), List.mem_of_getElem? (i := 1864) (by decide +kernel), List.mem_of_getElem? (i := 1865) (by decide +kernel)⟩
theorem lw_p76 : lw_okq (⟨"RelayHutModel", "tellNever", "()V"⟩, 99) := ⟨⟨by decide +kernel, by decide +kernel⟩, List.mem_of_getElem? (i := 1447) (by decide +kernel), List.mem_of_getElem? (i := 1868) (by decide +kernel), List.mem_of_getElem? (i := 1869) (by decide +kernel)⟩
theorem lw_p77 : lw_okq (⟨"RelayHutModel", "knows", "()V"⟩, 99) := ⟨⟨by decide +kernel, by decide +kernel⟩, List.mem_of_getElem? (i := 1447) (by decide +kernel), List.mem_of_getElem? (i := 1872) (by decide +kernel), List.mem_of_getElem? (i := 1873) (by decide +kernel)⟩
theorem lw_p78 : lw_okq (⟨"RelayHutModel", "thingNamed", "(I)I"⟩, 99) := ⟨⟨by decide +kernel, by decide +kernel⟩, List.mem_of_getElem? (i := 1447) (by decide +kernel), List.mem_of_getElem? (i := 1876) (by decide +kernel), List.mem_of_getElem? (i := 1877) (by decide +kernel)⟩
theorem lw_p79 : lw_okq (⟨"RelayHutModel", "comes", "(I)V"⟩, 99) := ⟨⟨by decide +kernel, by decide +kernel⟩, List.mem_of_getElem? (i := 1447) (by decide +kernel), List.mem_of_getElem? (i := 1880) (by decide +kernel), List.mem_of_getElem? (i := 1881) (by decide +kernel)⟩
def lw_privs_5 : List (MethodName × Nat) := [(⟨"RelayHutModel", "must", "(I)V"⟩, 99), (⟨"RelayHutModel", "inputNamed", "(J)I"⟩, 99), (⟨"RelayHutModel", "relayNamed", "(J)I"⟩, 99), (⟨"RelayHutModel", "lampNamed", "(J)I"⟩, 99), (⟨"RelayHutModel", "wrong", "(II)V"⟩, 99), (⟨"RelayHutModel", "tellRelay", "()V"⟩, 99), (⟨"RelayHutModel", "circuit", "(II)V"⟩, 99), (⟨"RelayHutModel", "unit", "(I)V"⟩, 99), (⟨"RelayHutModel", "emit", "(I)V"⟩, 99), (⟨"RelayHutModel", "goes", "()Z"⟩, 99), (⟨"RelayHutModel", "waitsOn", "(I)Z"⟩, 99), (⟨"RelayHutModel", "tellLamp", "()V"⟩, 99), (⟨"RelayHutModel", "tellNever", "()V"⟩, 99), (⟨"RelayHutModel", "knows", "()V"⟩, 99), (⟨"RelayHutModel", "thingNamed", "(I)I"⟩, 99), (⟨"RelayHutModel", "comes", "(I)V"⟩, 99)]
theorem lw_r5 : ∀ q ∈ lw_privs_5, lw_okq q := List.forall_mem_cons.mpr ⟨lw_p64, List.forall_mem_cons.mpr ⟨lw_p65, List.forall_mem_cons.mpr ⟨lw_p66, List.forall_mem_cons.mpr ⟨lw_p67, List.forall_mem_cons.mpr ⟨lw_p68, List.forall_mem_cons.mpr ⟨lw_p69, List.forall_mem_cons.mpr ⟨lw_p70, List.forall_mem_cons.mpr ⟨lw_p71, List.forall_mem_cons.mpr ⟨lw_p72, List.forall_mem_cons.mpr ⟨lw_p73, List.forall_mem_cons.mpr ⟨lw_p74, List.forall_mem_cons.mpr ⟨lw_p75, List.forall_mem_cons.mpr ⟨lw_p76, List.forall_mem_cons.mpr ⟨lw_p77, List.forall_mem_cons.mpr ⟨lw_p78, List.forall_mem_cons.mpr ⟨lw_p79, fun _ h => absurd h List.not_mem_nil⟩⟩⟩⟩⟩⟩⟩⟩⟩⟩⟩⟩⟩⟩⟩⟩
theorem lw_p80 : lw_okq (⟨"RelayHutModel", "isDrawing", "(I)Z"⟩, 99) := ⟨⟨by decide +kernel, by decide +kernel⟩, List.mem_of_getElem? (i := 1447) (by decide +kernel), List.mem_of_getElem? (i := 1892) (by decide +kernel), List.mem_of_getElem? (i := 1893) (by decide +kernel)⟩
theorem lw_p81 : lw_okq (⟨"RelayHutModel", "isFlaw", "(I)Z"⟩, 99) := ⟨⟨by decide +kernel, by decide +kernel⟩, List.mem_of_getElem? (i := 1447) (by decide +kernel), List.mem_of_getElem? (i := 1907) (by decide +kernel), List.mem_of_getElem? (i := 1908) (by decide +kernel)⟩
theorem lw_p82 : lw_okq (⟨"RelayHutModel", "isCrossable", "(I)Z"⟩, 99) := ⟨⟨by decide +kernel, by decide +kernel⟩, List.mem_of_getElem? (i := 1447) (by decide +kernel), List.mem_of_getElem? (i := 1911) (by decide +kernel), List.mem_of_getElem? (i := 1912) (by decide +kernel)⟩
theorem lw_p83 : lw_okq (⟨"RelayHutModel", "isHut", "(II)Z"⟩, 99) := ⟨⟨by decide +kernel, by decide +kernel⟩, List.mem_of_getElem? (i := 1447) (by decide +kernel), List.mem_of_getElem? (i := 1919) (by decide +kernel), List.mem_of_getElem? (i := 1920) (by decide +kernel)⟩
theorem lw_p84 : lw_okq (⟨"RelayHutModel", "all", "(I)I"⟩, 99) := ⟨⟨by decide +kernel, by decide +kernel⟩, List.mem_of_getElem? (i := 1447) (by decide +kernel), List.mem_of_getElem? (i := 1923) (by decide +kernel), List.mem_of_getElem? (i := 1924) (by decide +kernel)⟩
theorem lw_p85 : lw_okq (⟨"RelayHutModel", "builds", "(III)V"⟩, 99) := ⟨⟨by decide +kernel, by decide +kernel⟩, List.mem_of_getElem? (i := 1447) (by decide +kernel), List.mem_of_getElem? (i := 1927) (by decide +kernel), List.mem_of_getElem? (i := 1928) (by decide +kernel)⟩
theorem lw_p86 : lw_okq (⟨"RelayHutModel", "sound", "()V"⟩, 99) := ⟨⟨by decide +kernel, by decide +kernel⟩, List.mem_of_getElem? (i := 1447) (by decide +kernel), List.mem_of_getElem? (i := 1931) (by decide +kernel), List.mem_of_getElem? (i := 1932) (by decide +kernel)⟩
theorem lw_p87 : lw_okq (⟨"RelayHutModel", "spoils", "(I)V"⟩, 99) := ⟨⟨by decide +kernel, by decide +kernel⟩, List.mem_of_getElem? (i := 1447) (by decide +kernel), List.mem_of_getElem? (i := 1935) (by decide +kernel), List.mem_of_getElem? (i := 1936) (by decide +kernel)⟩
theorem lw_p88 : lw_okq (⟨"RelayHutModel", "lays", "(IIII)V"⟩, 99) := ⟨⟨by decide +kernel, by decide +kernel⟩, List.mem_of_getElem? (i := 1447) (by decide +kernel), List.mem_of_getElem? (i := 1939) (by decide +kernel), List.mem_of_getElem? (i := 1940) (by decide +kernel)⟩
theorem lw_p89 : lw_okq (⟨"RelayHutModel", "shutBits", "(IIIII)I"⟩, 99) := ⟨⟨by decide +kernel, by decide +kernel⟩, List.mem_of_getElem? (i := 1447) (by decide +kernel), List.mem_of_getElem? (i := 1943) (by decide +kernel), List.mem_of_getElem? (i := 1944) (by decide +kernel)⟩
theorem lw_p90 : lw_okq (⟨"RelayHutModel", "closes", "(III)V"⟩, 99) := ⟨⟨by decide +kernel, by decide +kernel⟩, List.mem_of_getElem? (i := 1447) (by decide +kernel), List.mem_of_getElem? (i := 1947) (by decide +kernel), List.mem_of_getElem? (i := 1948) (by decide +kernel)⟩
theorem lw_p91 : lw_okq (⟨"RelayHutModel", "isThing", "(IZIII)Z"⟩, 99) := ⟨⟨by decide +kernel, by decide +kernel⟩, List.mem_of_getElem? (i := 1447) (by decide +kernel), List.mem_of_getElem? (i := 1951) (by decide +kernel), List.mem_of_getElem? (i := 1952) (by decide +kernel)⟩
theorem lw_p92 : lw_okq (⟨"RelayHutModel", "isCircuit", "(II)Z"⟩, 99) := ⟨⟨by decide +kernel, by decide +kernel⟩, List.mem_of_getElem? (i := 1447) (by decide +kernel), List.mem_of_getElem? (i := 1955) (by decide +kernel), List.mem_of_getElem? (i := 1956) (by decide +kernel)⟩
theorem lw_p93 : lw_okq (⟨"RelayHutModel", "isShut", "(I)Z"⟩, 99) := ⟨⟨by decide +kernel, by decide +kernel⟩, List.mem_of_getElem? (i := 1447) (by decide +kernel), List.mem_of_getElem? (i := 1959) (by decide +kernel), List.mem_of_getElem? (i := 1960) (by decide +kernel)⟩
theorem lw_p94 : lw_okq (⟨"RelayHutModel", "worksOut", "(III)V"⟩, 99) := ⟨⟨by decide +kernel, by decide +kernel⟩, List.mem_of_getElem? (i := 1447) (by decide +kernel), List.mem_of_getElem? (i := 1963) (by decide +kernel), List.mem_of_getElem? (i := 1964) (by decide +kernel)⟩
theorem lw_p95 : lw_okq (⟨"RelayHutModel", "allowed", "(IIII)I"⟩, 99) := ⟨⟨by decide +kernel, by decide +kernel⟩, List.mem_of_getElem? (i := 1447) (by decide +kernel), List.mem_of_getElem? (i := 1967) (by decide +kernel), List.mem_of_getElem? (i := 1968) (by decide +kernel)⟩
def lw_privs_6 : List (MethodName × Nat) := [(⟨"RelayHutModel", "isDrawing", "(I)Z"⟩, 99), (⟨"RelayHutModel", "isFlaw", "(I)Z"⟩, 99), (⟨"RelayHutModel", "isCrossable", "(I)Z"⟩, 99), (⟨"RelayHutModel", "isHut", "(II)Z"⟩, 99), (⟨"RelayHutModel", "all", "(I)I"⟩, 99), (⟨"RelayHutModel", "builds", "(III)V"⟩, 99), (⟨"RelayHutModel", "sound", "()V"⟩, 99), (⟨"RelayHutModel", "spoils", "(I)V"⟩, 99), (⟨"RelayHutModel", "lays", "(IIII)V"⟩, 99), (⟨"RelayHutModel", "shutBits", "(IIIII)I"⟩, 99), (⟨"RelayHutModel", "closes", "(III)V"⟩, 99), (⟨"RelayHutModel", "isThing", "(IZIII)Z"⟩, 99), (⟨"RelayHutModel", "isCircuit", "(II)Z"⟩, 99), (⟨"RelayHutModel", "isShut", "(I)Z"⟩, 99), (⟨"RelayHutModel", "worksOut", "(III)V"⟩, 99), (⟨"RelayHutModel", "allowed", "(IIII)I"⟩, 99)]
theorem lw_r6 : ∀ q ∈ lw_privs_6, lw_okq q := List.forall_mem_cons.mpr ⟨lw_p80, List.forall_mem_cons.mpr ⟨lw_p81, List.forall_mem_cons.mpr ⟨lw_p82, List.forall_mem_cons.mpr ⟨lw_p83, List.forall_mem_cons.mpr ⟨lw_p84, List.forall_mem_cons.mpr ⟨lw_p85, List.forall_mem_cons.mpr ⟨lw_p86, List.forall_mem_cons.mpr ⟨lw_p87, List.forall_mem_cons.mpr ⟨lw_p88, List.forall_mem_cons.mpr ⟨lw_p89, List.forall_mem_cons.mpr ⟨lw_p90, List.forall_mem_cons.mpr ⟨lw_p91, List.forall_mem_cons.mpr ⟨lw_p92, List.forall_mem_cons.mpr ⟨lw_p93, List.forall_mem_cons.mpr ⟨lw_p94, List.forall_mem_cons.mpr ⟨lw_p95, fun _ h => absurd h List.not_mem_nil⟩⟩⟩⟩⟩⟩⟩⟩⟩⟩⟩⟩⟩⟩⟩⟩
theorem lw_p96 : lw_okq (⟨"RelayHutModel", "placed", "(II)I"⟩, 99) := ⟨⟨by decide +kernel, by decide +kernel⟩, List.mem_of_getElem? (i := 1447) (by decide +kernel), List.mem_of_getElem? (i := 1971) (by decide +kernel), List.mem_of_getElem? (i := 1972) (by decide +kernel)⟩
theorem lw_p97 : lw_okq (⟨"RelayHutModel", "behind", "(III)I"⟩, 99) := ⟨⟨by decide +kernel, by decide +kernel⟩, List.mem_of_getElem? (i := 1447) (by decide +kernel), List.mem_of_getElem? (i := 1975) (by decide +kernel), List.mem_of_getElem? (i := 1976) (by decide +kernel)⟩
theorem lw_p98 : lw_okq (⟨"RelayHutModel", "lampsAt", "(III)I"⟩, 99) := ⟨⟨by decide +kernel, by decide +kernel⟩, List.mem_of_getElem? (i := 1447) (by decide +kernel), List.mem_of_getElem? (i := 1983) (by decide +kernel), List.mem_of_getElem? (i := 1984) (by decide +kernel)⟩
theorem lw_p99 : lw_okq (⟨"RelayHutModel", "startOf", "(I)I"⟩, 99) := ⟨⟨by decide +kernel, by decide +kernel⟩, List.mem_of_getElem? (i := 1447) (by decide +kernel), List.mem_of_getElem? (i := 1991) (by decide +kernel), List.mem_of_getElem? (i := 1992) (by decide +kernel)⟩
theorem lw_p100 : lw_okq (⟨"RelayHutModel", "goesThrough", "(II)V"⟩, 99) := ⟨⟨by decide +kernel, by decide +kernel⟩, List.mem_of_getElem? (i := 1447) (by decide +kernel), List.mem_of_getElem? (i := 1999) (by decide +kernel), List.mem_of_getElem? (i := 2000) (by decide +kernel)⟩
theorem lw_p101 : lw_okq (⟨"RelayHutModel", "reaches", "(III)V"⟩, 99) := ⟨⟨by decide +kernel, by decide +kernel⟩, List.mem_of_getElem? (i := 1447) (by decide +kernel), List.mem_of_getElem? (i := 2003) (by decide +kernel), List.mem_of_getElem? (i := 2004) (by decide +kernel)⟩
theorem lw_p102 : lw_okq (⟨"RelayHutModel", "arrives", "(III)V"⟩, 99) := ⟨⟨by decide +kernel, by decide +kernel⟩, List.mem_of_getElem? (i := 1447) (by decide +kernel), List.mem_of_getElem? (i := 2007) (by decide +kernel), List.mem_of_getElem? (i := 2008) (by decide +kernel)⟩
theorem lw_p103 : lw_okq (⟨"RelayHutModel", "isWrong", "(IIII)Z"⟩, 99) := ⟨⟨by decide +kernel, by decide +kernel⟩, List.mem_of_getElem? (i := 1447) (by decide +kernel), List.mem_of_getElem? (i := 2011) (by decide +kernel), List.mem_of_getElem? (i := 2012) (by decide +kernel)⟩
theorem lw_p104 : lw_okq (⟨"RelayHutModel", "greens", "(I)I"⟩, 99) := ⟨⟨by decide +kernel, by decide +kernel⟩, List.mem_of_getElem? (i := 1447) (by decide +kernel), List.mem_of_getElem? (i := 2015) (by decide +kernel), List.mem_of_getElem? (i := 2016) (by decide +kernel)⟩
theorem lw_p105 : lw_okq (⟨"RelayHutModel", "neverNow", "(III)I"⟩, 99) := ⟨⟨by decide +kernel, by decide +kernel⟩, List.mem_of_getElem? (i := 1447) (by decide +kernel), List.mem_of_getElem? (i := 2019) (by decide +kernel), List.mem_of_getElem? (i := 2020) (by decide +kernel)⟩
theorem lw_p106 : lw_okq (⟨"RelayHutModel", "holds", "(IIII)Z"⟩, 99) := ⟨⟨by decide +kernel, by decide +kernel⟩, List.mem_of_getElem? (i := 1447) (by decide +kernel), List.mem_of_getElem? (i := 2023) (by decide +kernel), List.mem_of_getElem? (i := 2024) (by decide +kernel)⟩
theorem lw_p107 : lw_okq (⟨"RelayHutModel", "actsTo", "(I)I"⟩, 99) := ⟨⟨by decide +kernel, by decide +kernel⟩, List.mem_of_getElem? (i := 1447) (by decide +kernel), List.mem_of_getElem? (i := 2035) (by decide +kernel), List.mem_of_getElem? (i := 2036) (by decide +kernel)⟩
theorem lw_p108 : lw_okq (⟨"RelayHutModel", "isBad", "(II)Z"⟩, 99) := ⟨⟨by decide +kernel, by decide +kernel⟩, List.mem_of_getElem? (i := 1447) (by decide +kernel), List.mem_of_getElem? (i := 2048) (by decide +kernel), List.mem_of_getElem? (i := 2049) (by decide +kernel)⟩
theorem lw_p109 : lw_okq (⟨"RelayHutModel", "pairsOf", "(II)V"⟩, 99) := ⟨⟨by decide +kernel, by decide +kernel⟩, List.mem_of_getElem? (i := 1447) (by decide +kernel), List.mem_of_getElem? (i := 2056) (by decide +kernel), List.mem_of_getElem? (i := 2057) (by decide +kernel)⟩
theorem lw_p110 : lw_okq (⟨"RelayHutModel", "findsTest", "(I)V"⟩, 99) := ⟨⟨by decide +kernel, by decide +kernel⟩, List.mem_of_getElem? (i := 1447) (by decide +kernel), List.mem_of_getElem? (i := 2068) (by decide +kernel), List.mem_of_getElem? (i := 2069) (by decide +kernel)⟩
theorem lw_p111 : lw_okq (⟨"RelayHutModel", "leastTest", "()V"⟩, 99) := ⟨⟨by decide +kernel, by decide +kernel⟩, List.mem_of_getElem? (i := 1447) (by decide +kernel), List.mem_of_getElem? (i := 2072) (by decide +kernel), List.mem_of_getElem? (i := 2073) (by decide +kernel)⟩
def lw_privs_7 : List (MethodName × Nat) := [(⟨"RelayHutModel", "placed", "(II)I"⟩, 99), (⟨"RelayHutModel", "behind", "(III)I"⟩, 99), (⟨"RelayHutModel", "lampsAt", "(III)I"⟩, 99), (⟨"RelayHutModel", "startOf", "(I)I"⟩, 99), (⟨"RelayHutModel", "goesThrough", "(II)V"⟩, 99), (⟨"RelayHutModel", "reaches", "(III)V"⟩, 99), (⟨"RelayHutModel", "arrives", "(III)V"⟩, 99), (⟨"RelayHutModel", "isWrong", "(IIII)Z"⟩, 99), (⟨"RelayHutModel", "greens", "(I)I"⟩, 99), (⟨"RelayHutModel", "neverNow", "(III)I"⟩, 99), (⟨"RelayHutModel", "holds", "(IIII)Z"⟩, 99), (⟨"RelayHutModel", "actsTo", "(I)I"⟩, 99), (⟨"RelayHutModel", "isBad", "(II)Z"⟩, 99), (⟨"RelayHutModel", "pairsOf", "(II)V"⟩, 99), (⟨"RelayHutModel", "findsTest", "(I)V"⟩, 99), (⟨"RelayHutModel", "leastTest", "()V"⟩, 99)]
theorem lw_r7 : ∀ q ∈ lw_privs_7, lw_okq q := List.forall_mem_cons.mpr ⟨lw_p96, List.forall_mem_cons.mpr ⟨lw_p97, List.forall_mem_cons.mpr ⟨lw_p98, List.forall_mem_cons.mpr ⟨lw_p99, List.forall_mem_cons.mpr ⟨lw_p100, List.forall_mem_cons.mpr ⟨lw_p101, List.forall_mem_cons.mpr ⟨lw_p102, List.forall_mem_cons.mpr ⟨lw_p103, List.forall_mem_cons.mpr ⟨lw_p104, List.forall_mem_cons.mpr ⟨lw_p105, List.forall_mem_cons.mpr ⟨lw_p106, List.forall_mem_cons.mpr ⟨lw_p107, List.forall_mem_cons.mpr ⟨lw_p108, List.forall_mem_cons.mpr ⟨lw_p109, List.forall_mem_cons.mpr ⟨lw_p110, List.forall_mem_cons.mpr ⟨lw_p111, fun _ h => absurd h List.not_mem_nil⟩⟩⟩⟩⟩⟩⟩⟩⟩⟩⟩⟩⟩⟩⟩⟩
theorem lw_p112 : lw_okq (⟨"RelayHutModel", "seen", "(III)I"⟩, 99) := ⟨⟨by decide +kernel, by decide +kernel⟩, List.mem_of_getElem? (i := 1447) (by decide +kernel), List.mem_of_getElem? (i := 2076) (by decide +kernel), List.mem_of_getElem? (i := 2077) (by decide +kernel)⟩
theorem lw_p113 : lw_okq (⟨"RelayHutModel", "joins", "(II)V"⟩, 99) := ⟨⟨by decide +kernel, by decide +kernel⟩, List.mem_of_getElem? (i := 1447) (by decide +kernel), List.mem_of_getElem? (i := 2080) (by decide +kernel), List.mem_of_getElem? (i := 2081) (by decide +kernel)⟩
theorem lw_p114 : lw_okq (⟨"RelayHutModel", "deep", "(I)I"⟩, 99) := ⟨⟨by decide +kernel, by decide +kernel⟩, List.mem_of_getElem? (i := 1447) (by decide +kernel), List.mem_of_getElem? (i := 2084) (by decide +kernel), List.mem_of_getElem? (i := 2085) (by decide +kernel)⟩
theorem lw_p115 : lw_okq (⟨"RelayHutModel", "makesSuite", "()V"⟩, 99) := ⟨⟨by decide +kernel, by decide +kernel⟩, List.mem_of_getElem? (i := 1447) (by decide +kernel), List.mem_of_getElem? (i := 2099) (by decide +kernel), List.mem_of_getElem? (i := 2100) (by decide +kernel)⟩
theorem lw_p116 : lw_okq (⟨"RelayHutModel", "sees", "(I)Z"⟩, 99) := ⟨⟨by decide +kernel, by decide +kernel⟩, List.mem_of_getElem? (i := 1447) (by decide +kernel), List.mem_of_getElem? (i := 2103) (by decide +kernel), List.mem_of_getElem? (i := 2104) (by decide +kernel)⟩
theorem lw_p117 : lw_okq (⟨"RelayHutModel", "isSame", "(II)Z"⟩, 99) := ⟨⟨by decide +kernel, by decide +kernel⟩, List.mem_of_getElem? (i := 1447) (by decide +kernel), List.mem_of_getElem? (i := 2123) (by decide +kernel), List.mem_of_getElem? (i := 2124) (by decide +kernel)⟩
theorem lw_p118 : lw_okq (⟨"RelayHutModel", "unlikeOnes", "(II)I"⟩, 99) := ⟨⟨by decide +kernel, by decide +kernel⟩, List.mem_of_getElem? (i := 1447) (by decide +kernel), List.mem_of_getElem? (i := 2127) (by decide +kernel), List.mem_of_getElem? (i := 2128) (by decide +kernel)⟩
theorem lw_p119 : lw_okq (⟨"RelayHutModel", "isAlike", "(II)Z"⟩, 99) := ⟨⟨by decide +kernel, by decide +kernel⟩, List.mem_of_getElem? (i := 1447) (by decide +kernel), List.mem_of_getElem? (i := 2131) (by decide +kernel), List.mem_of_getElem? (i := 2132) (by decide +kernel)⟩
theorem lw_p120 : lw_okq (⟨"RelayHutModel", "isSafe", "(III)Z"⟩, 99) := ⟨⟨by decide +kernel, by decide +kernel⟩, List.mem_of_getElem? (i := 1447) (by decide +kernel), List.mem_of_getElem? (i := 2139) (by decide +kernel), List.mem_of_getElem? (i := 2140) (by decide +kernel)⟩
theorem lw_p121 : lw_okq (⟨"RelayHutModel", "plans", "(III)I"⟩, 99) := ⟨⟨by decide +kernel, by decide +kernel⟩, List.mem_of_getElem? (i := 1447) (by decide +kernel), List.mem_of_getElem? (i := 2147) (by decide +kernel), List.mem_of_getElem? (i := 2148) (by decide +kernel)⟩
theorem lw_p122 : lw_okq (⟨"RelayHutModel", "isKnown", "(I)Z"⟩, 99) := ⟨⟨by decide +kernel, by decide +kernel⟩, List.mem_of_getElem? (i := 1447) (by decide +kernel), List.mem_of_getElem? (i := 2171) (by decide +kernel), List.mem_of_getElem? (i := 2172) (by decide +kernel)⟩
theorem lw_p123 : lw_okq (⟨"RelayHutModel", "fitsLogs", "(I)Z"⟩, 99) := ⟨⟨by decide +kernel, by decide +kernel⟩, List.mem_of_getElem? (i := 1447) (by decide +kernel), List.mem_of_getElem? (i := 2175) (by decide +kernel), List.mem_of_getElem? (i := 2176) (by decide +kernel)⟩
theorem lw_p124 : lw_okq (⟨"RelayHutModel", "isVoid", "(II)Z"⟩, 99) := ⟨⟨by decide +kernel, by decide +kernel⟩, List.mem_of_getElem? (i := 1447) (by decide +kernel), List.mem_of_getElem? (i := 2179) (by decide +kernel), List.mem_of_getElem? (i := 2180) (by decide +kernel)⟩
theorem lw_p125 : lw_okq (⟨"RelayHutModel", "showsBehind", "(II)I"⟩, 99) := ⟨⟨by decide +kernel, by decide +kernel⟩, List.mem_of_getElem? (i := 1447) (by decide +kernel), List.mem_of_getElem? (i := 2183) (by decide +kernel), List.mem_of_getElem? (i := 2184) (by decide +kernel)⟩
theorem lw_p126 : lw_okq (⟨"RelayHutModel", "counts", "(I)V"⟩, 99) := ⟨⟨by decide +kernel, by decide +kernel⟩, List.mem_of_getElem? (i := 1447) (by decide +kernel), List.mem_of_getElem? (i := 2191) (by decide +kernel), List.mem_of_getElem? (i := 2192) (by decide +kernel)⟩
theorem lw_p127 : lw_okq (⟨"RelayHutModel", "isRow", "(I)Z"⟩, 99) := ⟨⟨by decide +kernel, by decide +kernel⟩, List.mem_of_getElem? (i := 1447) (by decide +kernel), List.mem_of_getElem? (i := 2202) (by decide +kernel), List.mem_of_getElem? (i := 2203) (by decide +kernel)⟩
def lw_privs_8 : List (MethodName × Nat) := [(⟨"RelayHutModel", "seen", "(III)I"⟩, 99), (⟨"RelayHutModel", "joins", "(II)V"⟩, 99), (⟨"RelayHutModel", "deep", "(I)I"⟩, 99), (⟨"RelayHutModel", "makesSuite", "()V"⟩, 99), (⟨"RelayHutModel", "sees", "(I)Z"⟩, 99), (⟨"RelayHutModel", "isSame", "(II)Z"⟩, 99), (⟨"RelayHutModel", "unlikeOnes", "(II)I"⟩, 99), (⟨"RelayHutModel", "isAlike", "(II)Z"⟩, 99), (⟨"RelayHutModel", "isSafe", "(III)Z"⟩, 99), (⟨"RelayHutModel", "plans", "(III)I"⟩, 99), (⟨"RelayHutModel", "isKnown", "(I)Z"⟩, 99), (⟨"RelayHutModel", "fitsLogs", "(I)Z"⟩, 99), (⟨"RelayHutModel", "isVoid", "(II)Z"⟩, 99), (⟨"RelayHutModel", "showsBehind", "(II)I"⟩, 99), (⟨"RelayHutModel", "counts", "(I)V"⟩, 99), (⟨"RelayHutModel", "isRow", "(I)Z"⟩, 99)]
theorem lw_r8 : ∀ q ∈ lw_privs_8, lw_okq q := List.forall_mem_cons.mpr ⟨lw_p112, List.forall_mem_cons.mpr ⟨lw_p113, List.forall_mem_cons.mpr ⟨lw_p114, List.forall_mem_cons.mpr ⟨lw_p115, List.forall_mem_cons.mpr ⟨lw_p116, List.forall_mem_cons.mpr ⟨lw_p117, List.forall_mem_cons.mpr ⟨lw_p118, List.forall_mem_cons.mpr ⟨lw_p119, List.forall_mem_cons.mpr ⟨lw_p120, List.forall_mem_cons.mpr ⟨lw_p121, List.forall_mem_cons.mpr ⟨lw_p122, List.forall_mem_cons.mpr ⟨lw_p123, List.forall_mem_cons.mpr ⟨lw_p124, List.forall_mem_cons.mpr ⟨lw_p125, List.forall_mem_cons.mpr ⟨lw_p126, List.forall_mem_cons.mpr ⟨lw_p127, fun _ h => absurd h List.not_mem_nil⟩⟩⟩⟩⟩⟩⟩⟩⟩⟩⟩⟩⟩⟩⟩⟩
theorem lw_p128 : lw_okq (⟨"RelayHutModel", "handShut", "()I"⟩, 99) := ⟨⟨by decide +kernel, by decide +kernel⟩, List.mem_of_getElem? (i := 1447) (by decide +kernel), List.mem_of_getElem? (i := 2222) (by decide +kernel), List.mem_of_getElem? (i := 2223) (by decide +kernel)⟩
theorem lw_p129 : lw_okq (⟨"RelayHutModel", "isIn", "(II)Z"⟩, 99) := ⟨⟨by decide +kernel, by decide +kernel⟩, List.mem_of_getElem? (i := 1447) (by decide +kernel), List.mem_of_getElem? (i := 2226) (by decide +kernel), List.mem_of_getElem? (i := 2227) (by decide +kernel)⟩
theorem lw_p130 : lw_okq (⟨"RelayHutModel", "flawsThere", "()I"⟩, 99) := ⟨⟨by decide +kernel, by decide +kernel⟩, List.mem_of_getElem? (i := 1447) (by decide +kernel), List.mem_of_getElem? (i := 2242) (by decide +kernel), List.mem_of_getElem? (i := 2243) (by decide +kernel)⟩
def lw_privs_9 : List (MethodName × Nat) := [(⟨"RelayHutModel", "handShut", "()I"⟩, 99), (⟨"RelayHutModel", "isIn", "(II)Z"⟩, 99), (⟨"RelayHutModel", "flawsThere", "()I"⟩, 99)]
theorem lw_r9 : ∀ q ∈ lw_privs_9, lw_okq q := List.forall_mem_cons.mpr ⟨lw_p128, List.forall_mem_cons.mpr ⟨lw_p129, List.forall_mem_cons.mpr ⟨lw_p130, fun _ h => absurd h List.not_mem_nil⟩⟩⟩
def lw_privs : List (MethodName × Nat) := lw_privs_1 ++ (lw_privs_2 ++ (lw_privs_3 ++ (lw_privs_4 ++ (lw_privs_5 ++ (lw_privs_6 ++ (lw_privs_7 ++ (lw_privs_8 ++ (lw_privs_9))))))))
def lw_tbl : List Cond := k2_sels lw_privs ++ tables_1
theorem lw_privs_ok : ∀ q ∈ lw_privs, lw_okq q := by
  show ∀ q ∈ lw_privs_1 ++ (lw_privs_2 ++ (lw_privs_3 ++ (lw_privs_4 ++ (lw_privs_5 ++ (lw_privs_6 ++ (lw_privs_7 ++ (lw_privs_8 ++ (lw_privs_9)))))))), lw_okq q
  exact List.forall_mem_append.mpr ⟨lw_r1, List.forall_mem_append.mpr ⟨lw_r2, List.forall_mem_append.mpr ⟨lw_r3, List.forall_mem_append.mpr ⟨lw_r4, List.forall_mem_append.mpr ⟨lw_r5, List.forall_mem_append.mpr ⟨lw_r6, List.forall_mem_append.mpr ⟨lw_r7, List.forall_mem_append.mpr ⟨lw_r8, lw_r9⟩⟩⟩⟩⟩⟩⟩⟩
def RX0 : String := "RelayHut$Drawing"
def TX0 : u_T := fun k => match k with
  | 0 => ("RelayHut$Drawing", "inputs", "I", false)
  | 1 => ("RelayHut$Drawing", "relays", "I", false)
  | 2 => ("RelayHut$Drawing", "lamps", "I", false)
  | 3 => ("RelayHut$Drawing", "contacts", "I", false)
  | 4 => ("RelayHut$Drawing", "nevers", "I", false)
  | 5 => ("RelayHut$Drawing", "names", "[J", true)
  | 6 => ("RelayHut$Drawing", "sorts", "[I", true)
  | 7 => ("RelayHut$Drawing", "codes", "[I", true)
  | 8 => ("RelayHut$Drawing", "from", "[I", true)
  | 9 => ("RelayHut$Drawing", "to", "[I", true)
  | 10 => ("RelayHut$Drawing", "codeCount", "I", false)
  | 11 => ("RelayHut$Drawing", "wiring", "LRelayHut$Wiring;", true)
  | 12 => ("RelayHut$Drawing", "owner", "[I", true)
  | 13 => ("RelayHut$Drawing", "flaws", "[I", true)
  | 14 => ("RelayHut$Drawing", "flawCount", "I", false)
  | 15 => ("RelayHut$Drawing", "circuits", "[I", true)
  | 16 => ("RelayHut$Drawing", "forbidden", "[B", true)
  | _ => ("RelayHut$Drawing", "findings", "LRelayHut$Findings;", true)
def tyX0 : Nat → FieldType := fun k => match k with
  | 0 => .int
  | 1 => .int
  | 2 => .int
  | 3 => .int
  | 4 => .int
  | 5 => .array .long
  | 6 => .array .int
  | 7 => .array .int
  | 8 => .array .int
  | 9 => .array .int
  | 10 => .int
  | 11 => .object "RelayHut$Wiring"
  | 12 => .array .int
  | 13 => .array .int
  | 14 => .int
  | 15 => .array .int
  | 16 => .array .byte
  | _ => .object "RelayHut$Findings"
abbrev wsX00 : List Cond := u_ws RX0 TX0 18
theorem nmX0 : ∀ a, a < 18 → ∀ b, b < 18 → a ≠ b → (TX0 a).2.1 ≠ (TX0 b).2.1 := by decide +kernel
theorem tyX0_ok : ∀ k, k < 18 → parseFieldDescriptor (TX0 k).2.2.1 = some (tyX0 k) := by decide +kernel
abbrev cX0_init : ByteArray := prog_2_method_1_code
def yX0_init : MethodName := ⟨RX0, "<init>", "(I)V"⟩
abbrev cX0_addTold : ByteArray := prog_2_method_2_code
def yX0_addTold : MethodName := ⟨RX0, "addTold", "(IIJ)V"⟩
abbrev cX0_setSlow : ByteArray := prog_2_method_3_code
def yX0_setSlow : MethodName := ⟨RX0, "setSlow", "(II)V"⟩
abbrev cX0_slowOf : ByteArray := prog_2_method_4_code
def yX0_slowOf : MethodName := ⟨RX0, "slowOf", "(I)I"⟩
abbrev cX0_trackBits : ByteArray := prog_2_method_5_code
def yX0_trackBits : MethodName := ⟨RX0, "trackBits", "()I"⟩
abbrev cX0_addCircuit : ByteArray := prog_2_method_6_code
def yX0_addCircuit : MethodName := ⟨RX0, "addCircuit", "(I[III)V"⟩
abbrev cX0_complete : ByteArray := prog_2_method_7_code
def yX0_complete : MethodName := ⟨RX0, "complete", "()V"⟩
abbrev cX0_addFlaw : ByteArray := prog_2_method_8_code
def yX0_addFlaw : MethodName := ⟨RX0, "addFlaw", "(I)V"⟩
abbrev cX0_addNever : ByteArray := prog_2_method_9_code
def yX0_addNever : MethodName := ⟨RX0, "addNever", "(ILRelayHut$Wiring;)V"⟩
abbrev cX0_soundCircuits : ByteArray := prog_2_method_10_code
def yX0_soundCircuits : MethodName := ⟨RX0, "soundCircuits", "(I)I"⟩
abbrev cX0_circuitBits : ByteArray := prog_2_method_11_code
def yX0_circuitBits : MethodName := ⟨RX0, "circuitBits", "()I"⟩
abbrev cX0_forbiddenAt : ByteArray := prog_2_method_12_code
def yX0_forbiddenAt : MethodName := ⟨RX0, "forbiddenAt", "(I)I"⟩
abbrev cX0_flawIndex : ByteArray := prog_2_method_13_code
def yX0_flawIndex : MethodName := ⟨RX0, "flawIndex", "(I)I"⟩
abbrev cX0_flawAt : ByteArray := prog_2_method_14_code
def yX0_flawAt : MethodName := ⟨RX0, "flawAt", "(I)I"⟩
abbrev cX0_isFlawOrNone : ByteArray := prog_2_method_15_code
def yX0_isFlawOrNone : MethodName := ⟨RX0, "isFlawOrNone", "(I)Z"⟩
abbrev cX0_unlikeBits : ByteArray := prog_2_method_16_code
def yX0_unlikeBits : MethodName := ⟨RX0, "unlikeBits", "(LRelayHut$Drawing;)I"⟩
abbrev cX0_hasSameCircuit : ByteArray := prog_2_method_17_code
def yX0_hasSameCircuit : MethodName := ⟨RX0, "hasSameCircuit", "(LRelayHut$Drawing;I)Z"⟩
abbrev cX0_countOf : ByteArray := prog_2_method_18_code
def yX0_countOf : MethodName := ⟨RX0, "countOf", "(I)I"⟩
def RX1 : String := "RelayHut$Findings"
def TX1 : u_T := fun k => match k with
  | 0 => ("RelayHut$Findings", "alone", "[B", true)
  | 1 => ("RelayHut$Findings", "partnersKnown", "[B", true)
  | 2 => ("RelayHut$Findings", "partners", "[J", true)
  | 3 => ("RelayHut$Findings", "leastKnown", "[B", true)
  | 4 => ("RelayHut$Findings", "least", "[J", true)
  | 5 => ("RelayHut$Findings", "suite", "[J", true)
  | _ => ("RelayHut$Findings", "suiteCount", "I", false)
def tyX1 : Nat → FieldType := fun k => match k with
  | 0 => .array .byte
  | 1 => .array .byte
  | 2 => .array .long
  | 3 => .array .byte
  | 4 => .array .long
  | 5 => .array .long
  | _ => .int
abbrev wsX10 : List Cond := u_ws RX1 TX1 7
theorem nmX1 : ∀ a, a < 7 → ∀ b, b < 7 → a ≠ b → (TX1 a).2.1 ≠ (TX1 b).2.1 := by decide +kernel
theorem tyX1_ok : ∀ k, k < 7 → parseFieldDescriptor (TX1 k).2.2.1 = some (tyX1 k) := by decide +kernel
abbrev cX1_init : ByteArray := prog_3_method_1_code
def yX1_init : MethodName := ⟨RX1, "<init>", "()V"⟩
abbrev cX1_arePartners : ByteArray := prog_3_method_2_code
def yX1_arePartners : MethodName := ⟨RX1, "arePartners", "(II)Z"⟩
abbrev cX1_addPartner : ByteArray := prog_3_method_3_code
def yX1_addPartner : MethodName := ⟨RX1, "addPartner", "(II)V"⟩
abbrev cX1_countPartners : ByteArray := prog_3_method_4_code
def yX1_countPartners : MethodName := ⟨RX1, "countPartners", "(I)I"⟩
abbrev cX1_partnerAt : ByteArray := prog_3_method_5_code
def yX1_partnerAt : MethodName := ⟨RX1, "partnerAt", "(II)I"⟩
abbrev cX1_suiteTest : ByteArray := prog_3_method_6_code
def yX1_suiteTest : MethodName := ⟨RX1, "suiteTest", "(I)J"⟩
def RX2 : String := "RelayHut$Handwork"
def TX2 : u_T := fun k => match k with
  | 0 => ("RelayHut$Handwork", "drawing", "LRelayHut$Drawing;", false)
  | 1 => ("RelayHut$Handwork", "inputs", "I", false)
  | 2 => ("RelayHut$Handwork", "relays", "I", false)
  | 3 => ("RelayHut$Handwork", "straps", "J", false)
  | 4 => ("RelayHut$Handwork", "clashed", "Z", false)
  | 5 => ("RelayHut$Handwork", "ages", "[I", true)
  | _ => ("RelayHut$Handwork", "waits", "[I", true)
def tyX2 : Nat → FieldType := fun k => match k with
  | 0 => .object "RelayHut$Drawing"
  | 1 => .int
  | 2 => .int
  | 3 => .long
  | 4 => .boolean
  | 5 => .array .int
  | _ => .array .int
abbrev wsX20 : List Cond := u_ws RX2 TX2 7
theorem nmX2 : ∀ a, a < 7 → ∀ b, b < 7 → a ≠ b → (TX2 a).2.1 ≠ (TX2 b).2.1 := by decide +kernel
theorem tyX2_ok : ∀ k, k < 7 → parseFieldDescriptor (TX2 k).2.2.1 = some (tyX2 k) := by decide +kernel
abbrev cX2_init : ByteArray := prog_4_method_1_code
def yX2_init : MethodName := ⟨RX2, "<init>", "(LRelayHut$Drawing;)V"⟩
abbrev cX2_takeDrawing : ByteArray := prog_4_method_2_code
def yX2_takeDrawing : MethodName := ⟨RX2, "takeDrawing", "(LRelayHut$Drawing;)V"⟩
abbrev cX2_hasClashed : ByteArray := prog_4_method_3_code
def yX2_hasClashed : MethodName := ⟨RX2, "hasClashed", "()Z"⟩
abbrev cX2_setInput : ByteArray := prog_4_method_4_code
def yX2_setInput : MethodName := ⟨RX2, "setInput", "(IZ)Z"⟩
abbrev cX2_layStrap : ByteArray := prog_4_method_5_code
def yX2_layStrap : MethodName := ⟨RX2, "layStrap", "(IZ)Z"⟩
abbrev cX2_setAge : ByteArray := prog_4_method_6_code
def yX2_setAge : MethodName := ⟨RX2, "setAge", "(II)Z"⟩
abbrev cX2_circuitsNow : ByteArray := prog_4_method_7_code
def yX2_circuitsNow : MethodName := ⟨RX2, "circuitsNow", "()I"⟩
abbrev cX2_goRound : ByteArray := prog_4_method_8_code
def yX2_goRound : MethodName := ⟨RX2, "goRound", "()I"⟩
abbrev cX2_isClash : ByteArray := prog_4_method_9_code
def yX2_isClash : MethodName := ⟨RX2, "isClash", "(I)Z"⟩
abbrev cX2_tell : ByteArray := prog_4_method_10_code
def yX2_tell : MethodName := ⟨RX2, "tell", "(I)I"⟩
def RX3 : String := "RelayHut$Hut"
def TX3 : u_T := fun k => match k with
  | 0 => ("RelayHut$Hut", "base", "LRelayHut$Drawing;", false)
  | 1 => ("RelayHut$Hut", "other", "LRelayHut$Drawing;", false)
  | 2 => ("RelayHut$Hut", "swapped", "I", false)
  | 3 => ("RelayHut$Hut", "firstFlaw", "I", false)
  | 4 => ("RelayHut$Hut", "secondFlaw", "I", false)
  | 5 => ("RelayHut$Hut", "version", "I", false)
  | 6 => ("RelayHut$Hut", "welded", "J", false)
  | 7 => ("RelayHut$Hut", "broken", "J", false)
  | 8 => ("RelayHut$Hut", "crossed", "J", false)
  | 9 => ("RelayHut$Hut", "stuck", "I", false)
  | 10 => ("RelayHut$Hut", "stuckUp", "I", false)
  | 11 => ("RelayHut$Hut", "hurt", "I", false)
  | 12 => ("RelayHut$Hut", "settled", "[B", true)
  | 13 => ("RelayHut$Hut", "way", "[I", true)
  | 14 => ("RelayHut$Hut", "left", "[I", true)
  | _ => ("RelayHut$Hut", "end", "[I", true)
def tyX3 : Nat → FieldType := fun k => match k with
  | 0 => .object "RelayHut$Drawing"
  | 1 => .object "RelayHut$Drawing"
  | 2 => .int
  | 3 => .int
  | 4 => .int
  | 5 => .int
  | 6 => .long
  | 7 => .long
  | 8 => .long
  | 9 => .int
  | 10 => .int
  | 11 => .int
  | 12 => .array .byte
  | 13 => .array .int
  | 14 => .array .int
  | _ => .array .int
abbrev wsX30 : List Cond := u_ws RX3 TX3 16
theorem nmX3 : ∀ a, a < 16 → ∀ b, b < 16 → a ≠ b → (TX3 a).2.1 ≠ (TX3 b).2.1 := by decide +kernel
theorem tyX3_ok : ∀ k, k < 16 → parseFieldDescriptor (TX3 k).2.2.1 = some (tyX3 k) := by decide +kernel
abbrev cX3_init : ByteArray := prog_5_method_1_code
def yX3_init : MethodName := ⟨RX3, "<init>", "(LRelayHut$Drawing;)V"⟩
abbrev cX3_inputCount : ByteArray := prog_5_method_2_code
def yX3_inputCount : MethodName := ⟨RX3, "inputCount", "()I"⟩
abbrev cX3_prepare : ByteArray := prog_5_method_3_code
def yX3_prepare : MethodName := ⟨RX3, "prepare", "(LRelayHut$Drawing;II)V"⟩
abbrev cX3_prepareMixed : ByteArray := prog_5_method_4_code
def yX3_prepareMixed : MethodName := ⟨RX3, "prepareMixed", "(LRelayHut$Drawing;LRelayHut$Drawing;III)V"⟩
abbrev cX3_harm : ByteArray := prog_5_method_5_code
def yX3_harm : MethodName := ⟨RX3, "harm", "(I)V"⟩
abbrev cX3_circuitsAt : ByteArray := prog_5_method_6_code
def yX3_circuitsAt : MethodName := ⟨RX3, "circuitsAt", "(I)I"⟩
abbrev cX3_lampsAt : ByteArray := prog_5_method_7_code
def yX3_lampsAt : MethodName := ⟨RX3, "lampsAt", "(II)I"⟩
abbrev cX3_isWrong : ByteArray := prog_5_method_8_code
def yX3_isWrong : MethodName := ⟨RX3, "isWrong", "(I)Z"⟩
abbrev cX3_movable : ByteArray := prog_5_method_9_code
def yX3_movable : MethodName := ⟨RX3, "movable", "(II)I"⟩
abbrev cX3_settle : ByteArray := prog_5_method_10_code
def yX3_settle : MethodName := ⟨RX3, "settle", "(II)I"⟩
abbrev cX3_enter : ByteArray := prog_5_method_11_code
def yX3_enter : MethodName := ⟨RX3, "enter", "(III)V"⟩
abbrev cX3_join : ByteArray := prog_5_method_12_code
def yX3_join : MethodName := ⟨RX3, "join", "(II)V"⟩
def RX4 : String := "RelayHut$Logbook"
def TX4 : u_T := fun k => match k with
  | 0 => ("RelayHut$Logbook", "hut", "LRelayHut$Hut;", true)
  | 1 => ("RelayHut$Logbook", "counts", "[I", true)
  | 2 => ("RelayHut$Logbook", "acts", "[I", true)
  | 3 => ("RelayHut$Logbook", "lamps", "[I", true)
  | 4 => ("RelayHut$Logbook", "voidOf", "[I", true)
  | 5 => ("RelayHut$Logbook", "size", "I", false)
  | _ => ("RelayHut$Logbook", "groups", "[I", true)
def tyX4 : Nat → FieldType := fun k => match k with
  | 0 => .object "RelayHut$Hut"
  | 1 => .array .int
  | 2 => .array .int
  | 3 => .array .int
  | 4 => .array .int
  | 5 => .int
  | _ => .array .int
abbrev wsX40 : List Cond := u_ws RX4 TX4 7
theorem nmX4 : ∀ a, a < 7 → ∀ b, b < 7 → a ≠ b → (TX4 a).2.1 ≠ (TX4 b).2.1 := by decide +kernel
theorem tyX4_ok : ∀ k, k < 7 → parseFieldDescriptor (TX4 k).2.2.1 = some (tyX4 k) := by decide +kernel
abbrev cX4_init : ByteArray := prog_6_method_1_code
def yX4_init : MethodName := ⟨RX4, "<init>", "(LRelayHut$Hut;)V"⟩
abbrev cX4_entryCount : ByteArray := prog_6_method_2_code
def yX4_entryCount : MethodName := ⟨RX4, "entryCount", "()I"⟩
abbrev cX4_isKnown : ByteArray := prog_6_method_3_code
def yX4_isKnown : MethodName := ⟨RX4, "isKnown", "(I)Z"⟩
abbrev cX4_write : ByteArray := prog_6_method_4_code
def yX4_write : MethodName := ⟨RX4, "write", "(LRelayHut$Drawing;III)I"⟩
abbrev cX4_areActs : ByteArray := prog_6_method_5_code
def yX4_areActs : MethodName := ⟨RX4, "areActs", "(LRelayHut$Drawing;II)Z"⟩
abbrev cX4_addEntry : ByteArray := prog_6_method_6_code
def yX4_addEntry : MethodName := ⟨RX4, "addEntry", "(IIII)I"⟩
abbrev cX4_writeVoid : ByteArray := prog_6_method_7_code
def yX4_writeVoid : MethodName := ⟨RX4, "writeVoid", "(I)I"⟩
abbrev cX4_isVoid : ByteArray := prog_6_method_8_code
def yX4_isVoid : MethodName := ⟨RX4, "isVoid", "(II)Z"⟩
abbrev cX4_outcome : ByteArray := prog_6_method_9_code
def yX4_outcome : MethodName := ⟨RX4, "outcome", "(II)I"⟩
abbrev cX4_isFitting : ByteArray := prog_6_method_10_code
def yX4_isFitting : MethodName := ⟨RX4, "isFitting", "(LRelayHut$Drawing;II)Z"⟩
abbrev cX4_countFitting : ByteArray := prog_6_method_11_code
def yX4_countFitting : MethodName := ⟨RX4, "countFitting", "(LRelayHut$Drawing;I)I"⟩
abbrev cX4_bestRow : ByteArray := prog_6_method_12_code
def yX4_bestRow : MethodName := ⟨RX4, "bestRow", "(LRelayHut$Drawing;I)I"⟩
abbrev cX4_rowCount : ByteArray := prog_6_method_13_code
def yX4_rowCount : MethodName := ⟨RX4, "rowCount", "(I)I"⟩
abbrev cX4_rowActs : ByteArray := prog_6_method_14_code
def yX4_rowActs : MethodName := ⟨RX4, "rowActs", "(I)I"⟩
abbrev cX4_isRow : ByteArray := prog_6_method_15_code
def yX4_isRow : MethodName := ⟨RX4, "isRow", "(LRelayHut$Drawing;I)Z"⟩
abbrev cX4_addToGroups : ByteArray := prog_6_method_16_code
def yX4_addToGroups : MethodName := ⟨RX4, "addToGroups", "(LRelayHut$Drawing;)V"⟩
abbrev cX4_greatestGroup : ByteArray := prog_6_method_17_code
def yX4_greatestGroup : MethodName := ⟨RX4, "greatestGroup", "(I)I"⟩
def RX5 : String := "RelayHut$Planner"
def TX5 : u_T := fun k => match k with
  | 0 => ("RelayHut$Planner", "hut", "LRelayHut$Hut;", true)
  | 1 => ("RelayHut$Planner", "survey", "LRelayHut$Survey;", true)
  | 2 => ("RelayHut$Planner", "first", "LRelayHut$Drawing;", false)
  | 3 => ("RelayHut$Planner", "second", "LRelayHut$Drawing;", false)
  | 4 => ("RelayHut$Planner", "most", "I", false)
  | 5 => ("RelayHut$Planner", "bits", "[I", true)
  | 6 => ("RelayHut$Planner", "safety", "[I", true)
  | 7 => ("RelayHut$Planner", "stages", "[I", true)
  | _ => ("RelayHut$Planner", "setCount", "I", false)
def tyX5 : Nat → FieldType := fun k => match k with
  | 0 => .object "RelayHut$Hut"
  | 1 => .object "RelayHut$Survey"
  | 2 => .object "RelayHut$Drawing"
  | 3 => .object "RelayHut$Drawing"
  | 4 => .int
  | 5 => .array .int
  | 6 => .array .int
  | 7 => .array .int
  | _ => .int
abbrev wsX50 : List Cond := u_ws RX5 TX5 9
theorem nmX5 : ∀ a, a < 9 → ∀ b, b < 9 → a ≠ b → (TX5 a).2.1 ≠ (TX5 b).2.1 := by decide +kernel
theorem tyX5_ok : ∀ k, k < 9 → parseFieldDescriptor (TX5 k).2.2.1 = some (tyX5 k) := by decide +kernel
abbrev cX5_init : ByteArray := prog_7_method_1_code
def yX5_init : MethodName := ⟨RX5, "<init>", "(LRelayHut$Hut;LRelayHut$Survey;)V"⟩
abbrev cX5_findPlan : ByteArray := prog_7_method_2_code
def yX5_findPlan : MethodName := ⟨RX5, "findPlan", "(LRelayHut$Drawing;LRelayHut$Drawing;II)V"⟩
abbrev cX5_listSets : ByteArray := prog_7_method_3_code
def yX5_listSets : MethodName := ⟨RX5, "listSets", "(I)V"⟩
abbrev cX5_stagesFrom : ByteArray := prog_7_method_4_code
def yX5_stagesFrom : MethodName := ⟨RX5, "stagesFrom", "(I)I"⟩
abbrev cX5_isStage : ByteArray := prog_7_method_5_code
def yX5_isStage : MethodName := ⟨RX5, "isStage", "(II)Z"⟩
abbrev cX5_stageCount : ByteArray := prog_7_method_6_code
def yX5_stageCount : MethodName := ⟨RX5, "stageCount", "()I"⟩
abbrev cX5_setBehind : ByteArray := prog_7_method_7_code
def yX5_setBehind : MethodName := ⟨RX5, "setBehind", "(I)I"⟩
def RX6 : String := "RelayHut$Reading"
def TX6 : u_T := fun k => match k with
  | 0 => ("RelayHut$Reading", "tokens", "LRelayHut$Tokens;", true)
  | 1 => ("RelayHut$Reading", "kinds", "[I", true)
  | 2 => ("RelayHut$Reading", "roles", "[I", true)
  | 3 => ("RelayHut$Reading", "places", "[I", true)
  | 4 => ("RelayHut$Reading", "values", "[J", true)
  | 5 => ("RelayHut$Reading", "codes", "[I", true)
  | 6 => ("RelayHut$Reading", "tokenCount", "I", false)
  | 7 => ("RelayHut$Reading", "state", "I", false)
  | 8 => ("RelayHut$Reading", "depth", "I", false)
  | 9 => ("RelayHut$Reading", "place", "I", false)
  | 10 => ("RelayHut$Reading", "names", "[J", true)
  | 11 => ("RelayHut$Reading", "sorts", "[I", true)
  | 12 => ("RelayHut$Reading", "numbers", "[I", true)
  | 13 => ("RelayHut$Reading", "told", "I", false)
  | 14 => ("RelayHut$Reading", "inputs", "I", false)
  | 15 => ("RelayHut$Reading", "relays", "I", false)
  | 16 => ("RelayHut$Reading", "lamps", "I", false)
  | 17 => ("RelayHut$Reading", "nevers", "I", false)
  | 18 => ("RelayHut$Reading", "contacts", "I", false)
  | _ => ("RelayHut$Reading", "telling", "I", false)
def tyX6 : Nat → FieldType := fun k => match k with
  | 0 => .object "RelayHut$Tokens"
  | 1 => .array .int
  | 2 => .array .int
  | 3 => .array .int
  | 4 => .array .long
  | 5 => .array .int
  | 6 => .int
  | 7 => .int
  | 8 => .int
  | 9 => .int
  | 10 => .array .long
  | 11 => .array .int
  | 12 => .array .int
  | 13 => .int
  | 14 => .int
  | 15 => .int
  | 16 => .int
  | 17 => .int
  | 18 => .int
  | _ => .int
abbrev wsX60 : List Cond := u_ws RX6 TX6 20
theorem nmX6 : ∀ a, a < 20 → ∀ b, b < 20 → a ≠ b → (TX6 a).2.1 ≠ (TX6 b).2.1 := by decide +kernel
theorem tyX6_ok : ∀ k, k < 20 → parseFieldDescriptor (TX6 k).2.2.1 = some (tyX6 k) := by decide +kernel
abbrev cX6_init : ByteArray := prog_8_method_1_code
def yX6_init : MethodName := ⟨RX6, "<init>", "()V"⟩
abbrev cX6_faultPlace : ByteArray := prog_8_method_2_code
def yX6_faultPlace : MethodName := ⟨RX6, "faultPlace", "()I"⟩
abbrev cX6_judge : ByteArray := prog_8_method_3_code
def yX6_judge : MethodName := ⟨RX6, "judge", "([BI)I"⟩
abbrev cX6_forgetText : ByteArray := prog_8_method_4_code
def yX6_forgetText : MethodName := ⟨RX6, "forgetText", "()V"⟩
abbrev cX6_stateBehind : ByteArray := prog_8_method_5_code
def yX6_stateBehind : MethodName := ⟨RX6, "stateBehind", "(I)I"⟩
abbrev cX6_stateBehindTell : ByteArray := prog_8_method_6_code
def yX6_stateBehindTell : MethodName := ⟨RX6, "stateBehindTell", "(I)I"⟩
abbrev cX6_stateBehindUnit : ByteArray := prog_8_method_7_code
def yX6_stateBehindUnit : MethodName := ⟨RX6, "stateBehindUnit", "(I)I"⟩
abbrev cX6_isOutOfRoom : ByteArray := prog_8_method_8_code
def yX6_isOutOfRoom : MethodName := ⟨RX6, "isOutOfRoom", "(I)Z"⟩
abbrev cX6_isCircuitName : ByteArray := prog_8_method_9_code
def yX6_isCircuitName : MethodName := ⟨RX6, "isCircuitName", "(I)Z"⟩
abbrev cX6_isContact : ByteArray := prog_8_method_10_code
def yX6_isContact : MethodName := ⟨RX6, "isContact", "(I)Z"⟩
abbrev cX6_keepToken : ByteArray := prog_8_method_11_code
def yX6_keepToken : MethodName := ⟨RX6, "keepToken", "(I)V"⟩
abbrev cX6_keepName : ByteArray := prog_8_method_12_code
def yX6_keepName : MethodName := ⟨RX6, "keepName", "()V"⟩
abbrev cX6_keepTold : ByteArray := prog_8_method_13_code
def yX6_keepTold : MethodName := ⟨RX6, "keepTold", "(I)V"⟩
abbrev cX6_judgeNames : ByteArray := prog_8_method_14_code
def yX6_judgeNames : MethodName := ⟨RX6, "judgeNames", "()I"⟩
abbrev cX6_tellsName : ByteArray := prog_8_method_15_code
def yX6_tellsName : MethodName := ⟨RX6, "tellsName", "(I)Z"⟩
abbrev cX6_faultOfToken : ByteArray := prog_8_method_16_code
def yX6_faultOfToken : MethodName := ⟨RX6, "faultOfToken", "(II)I"⟩
abbrev cX6_isTold : ByteArray := prog_8_method_17_code
def yX6_isTold : MethodName := ⟨RX6, "isTold", "(JI)Z"⟩
abbrev cX6_greenOf : ByteArray := prog_8_method_18_code
def yX6_greenOf : MethodName := ⟨RX6, "greenOf", "(JI)I"⟩
abbrev cX6_variableOf : ByteArray := prog_8_method_19_code
def yX6_variableOf : MethodName := ⟨RX6, "variableOf", "(J)I"⟩
abbrev cX6_draw : ByteArray := prog_8_method_20_code
def yX6_draw : MethodName := ⟨RX6, "draw", "()LRelayHut$Drawing;"⟩
abbrev cX6_circuitEnd : ByteArray := prog_8_method_21_code
def yX6_circuitEnd : MethodName := ⟨RX6, "circuitEnd", "(I)I"⟩
abbrev cX6_drawCircuits : ByteArray := prog_8_method_22_code
def yX6_drawCircuits : MethodName := ⟨RX6, "drawCircuits", "(LRelayHut$Drawing;)V"⟩
abbrev cX6_drawNevers : ByteArray := prog_8_method_23_code
def yX6_drawNevers : MethodName := ⟨RX6, "drawNevers", "(LRelayHut$Drawing;)V"⟩
def RX7 : String := "RelayHut$Survey"
def TX7 : u_T := fun k => match k with
  | 0 => ("RelayHut$Survey", "hut", "LRelayHut$Hut;", true)
  | 1 => ("RelayHut$Survey", "queue", "[I", true)
  | 2 => ("RelayHut$Survey", "origin", "[I", true)
  | 3 => ("RelayHut$Survey", "seen", "[J", true)
  | 4 => ("RelayHut$Survey", "tail", "I", false)
  | 5 => ("RelayHut$Survey", "races", "I", false)
  | 6 => ("RelayHut$Survey", "wrongAt", "I", false)
  | 7 => ("RelayHut$Survey", "complete", "Z", false)
  | _ => ("RelayHut$Survey", "version", "I", false)
def tyX7 : Nat → FieldType := fun k => match k with
  | 0 => .object "RelayHut$Hut"
  | 1 => .array .int
  | 2 => .array .int
  | 3 => .array .long
  | 4 => .int
  | 5 => .int
  | 6 => .int
  | 7 => .boolean
  | _ => .int
abbrev wsX70 : List Cond := u_ws RX7 TX7 9
theorem nmX7 : ∀ a, a < 9 → ∀ b, b < 9 → a ≠ b → (TX7 a).2.1 ≠ (TX7 b).2.1 := by decide +kernel
theorem tyX7_ok : ∀ k, k < 9 → parseFieldDescriptor (TX7 k).2.2.1 = some (tyX7 k) := by decide +kernel
abbrev cX7_init : ByteArray := prog_9_method_1_code
def yX7_init : MethodName := ⟨RX7, "<init>", "(LRelayHut$Hut;)V"⟩
abbrev cX7_reachedCount : ByteArray := prog_9_method_2_code
def yX7_reachedCount : MethodName := ⟨RX7, "reachedCount", "()I"⟩
abbrev cX7_raceCount : ByteArray := prog_9_method_3_code
def yX7_raceCount : MethodName := ⟨RX7, "raceCount", "()I"⟩
abbrev cX7_isSafe : ByteArray := prog_9_method_4_code
def yX7_isSafe : MethodName := ⟨RX7, "isSafe", "()Z"⟩
abbrev cX7_explore : ByteArray := prog_9_method_5_code
def yX7_explore : MethodName := ⟨RX7, "explore", "(ZZ)V"⟩
abbrev cX7_isAtStop : ByteArray := prog_9_method_6_code
def yX7_isAtStop : MethodName := ⟨RX7, "isAtStop", "(ZZ)Z"⟩
abbrev cX7_startFrom : ByteArray := prog_9_method_7_code
def yX7_startFrom : MethodName := ⟨RX7, "startFrom", "(I)V"⟩
abbrev cX7_reach : ByteArray := prog_9_method_8_code
def yX7_reach : MethodName := ⟨RX7, "reach", "(III)V"⟩
abbrev cX7_actsToWrong : ByteArray := prog_9_method_9_code
def yX7_actsToWrong : MethodName := ⟨RX7, "actsToWrong", "()I"⟩
abbrev cX7_actToWrong : ByteArray := prog_9_method_10_code
def yX7_actToWrong : MethodName := ⟨RX7, "actToWrong", "(I)I"⟩
abbrev cX7_countBad : ByteArray := prog_9_method_11_code
def yX7_countBad : MethodName := ⟨RX7, "countBad", "(LRelayHut$Drawing;)I"⟩
abbrev cX7_findPartners : ByteArray := prog_9_method_12_code
def yX7_findPartners : MethodName := ⟨RX7, "findPartners", "(LRelayHut$Drawing;I)V"⟩
abbrev cX7_areBadTogether : ByteArray := prog_9_method_13_code
def yX7_areBadTogether : MethodName := ⟨RX7, "areBadTogether", "(LRelayHut$Drawing;II)Z"⟩
def RX8 : String := "RelayHut$Tokens"
def TX8 : u_T := fun k => match k with
  | 0 => ("RelayHut$Tokens", "words", "[J", true)
  | 1 => ("RelayHut$Tokens", "text", "[B", false)
  | 2 => ("RelayHut$Tokens", "length", "I", false)
  | 3 => ("RelayHut$Tokens", "at", "I", false)
  | 4 => ("RelayHut$Tokens", "kind", "I", false)
  | 5 => ("RelayHut$Tokens", "place", "I", false)
  | _ => ("RelayHut$Tokens", "value", "J", false)
def tyX8 : Nat → FieldType := fun k => match k with
  | 0 => .array .long
  | 1 => .array .byte
  | 2 => .int
  | 3 => .int
  | 4 => .int
  | 5 => .int
  | _ => .long
abbrev wsX80 : List Cond := u_ws RX8 TX8 7
theorem nmX8 : ∀ a, a < 7 → ∀ b, b < 7 → a ≠ b → (TX8 a).2.1 ≠ (TX8 b).2.1 := by decide +kernel
theorem tyX8_ok : ∀ k, k < 7 → parseFieldDescriptor (TX8 k).2.2.1 = some (tyX8 k) := by decide +kernel
abbrev cX8_init : ByteArray := prog_10_method_1_code
def yX8_init : MethodName := ⟨RX8, "<init>", "()V"⟩
abbrev cX8_takeText : ByteArray := prog_10_method_2_code
def yX8_takeText : MethodName := ⟨RX8, "takeText", "([BI)V"⟩
abbrev cX8_pack : ByteArray := prog_10_method_3_code
def yX8_pack : MethodName := ⟨RX8, "pack", "(Ljava/lang/String;)J"⟩
abbrev cX8_packLetter : ByteArray := prog_10_method_4_code
def yX8_packLetter : MethodName := ⟨RX8, "packLetter", "(JI)J"⟩
abbrev cX8_takeToken : ByteArray := prog_10_method_5_code
def yX8_takeToken : MethodName := ⟨RX8, "takeToken", "()V"⟩
abbrev cX8_takeWord : ByteArray := prog_10_method_6_code
def yX8_takeWord : MethodName := ⟨RX8, "takeWord", "()V"⟩
abbrev cX8_kindOfWord : ByteArray := prog_10_method_7_code
def yX8_kindOfWord : MethodName := ⟨RX8, "kindOfWord", "()I"⟩
abbrev cX8_takeNumber : ByteArray := prog_10_method_8_code
def yX8_takeNumber : MethodName := ⟨RX8, "takeNumber", "()V"⟩
abbrev cX8_isBlank : ByteArray := prog_10_method_9_code
def yX8_isBlank : MethodName := ⟨RX8, "isBlank", "(I)Z"⟩
abbrev cX8_isLetter : ByteArray := prog_10_method_10_code
def yX8_isLetter : MethodName := ⟨RX8, "isLetter", "(I)Z"⟩
abbrev cX8_isDigit : ByteArray := prog_10_method_11_code
def yX8_isDigit : MethodName := ⟨RX8, "isDigit", "(I)Z"⟩
def RX9 : String := "RelayHut$Trials"
def TX9 : u_T := fun k => match k with
  | 0 => ("RelayHut$Trials", "sound", "LRelayHut$Hut;", true)
  | 1 => ("RelayHut$Trials", "flawed", "LRelayHut$Hut;", true)
  | 2 => ("RelayHut$Trials", "queue", "[J", false)
  | 3 => ("RelayHut$Trials", "tail", "I", false)
  | _ => ("RelayHut$Trials", "reached", "[J", true)
def tyX9 : Nat → FieldType := fun k => match k with
  | 0 => .object "RelayHut$Hut"
  | 1 => .object "RelayHut$Hut"
  | 2 => .array .long
  | 3 => .int
  | _ => .array .long
abbrev wsX90 : List Cond := u_ws RX9 TX9 5
theorem nmX9 : ∀ a, a < 5 → ∀ b, b < 5 → a ≠ b → (TX9 a).2.1 ≠ (TX9 b).2.1 := by decide +kernel
theorem tyX9_ok : ∀ k, k < 5 → parseFieldDescriptor (TX9 k).2.2.1 = some (tyX9 k) := by decide +kernel
abbrev cX9_init : ByteArray := prog_11_method_1_code
def yX9_init : MethodName := ⟨RX9, "<init>", "(LRelayHut$Hut;LRelayHut$Hut;)V"⟩
abbrev cX9_actsOf : ByteArray := prog_11_method_2_code
def yX9_actsOf : MethodName := ⟨RX9, "actsOf", "(J)I"⟩
abbrev cX9_actAt : ByteArray := prog_11_method_3_code
def yX9_actAt : MethodName := ⟨RX9, "actAt", "(JI)I"⟩
abbrev cX9_leastTest : ByteArray := prog_11_method_4_code
def yX9_leastTest : MethodName := ⟨RX9, "leastTest", "(LRelayHut$Drawing;I)J"⟩
abbrev cX9_beginSearch : ByteArray := prog_11_method_5_code
def yX9_beginSearch : MethodName := ⟨RX9, "beginSearch", "()I"⟩
abbrev cX9_prepareBoth : ByteArray := prog_11_method_6_code
def yX9_prepareBoth : MethodName := ⟨RX9, "prepareBoth", "(LRelayHut$Drawing;I)V"⟩
abbrev cX9_look : ByteArray := prog_11_method_7_code
def yX9_look : MethodName := ⟨RX9, "look", "(III)I"⟩
abbrev cX9_actFrom : ByteArray := prog_11_method_8_code
def yX9_actFrom : MethodName := ⟨RX9, "actFrom", "(II)I"⟩
abbrev cX9_reachPlace : ByteArray := prog_11_method_9_code
def yX9_reachPlace : MethodName := ⟨RX9, "reachPlace", "(IIIJ)V"⟩
abbrev cX9_testTo : ByteArray := prog_11_method_10_code
def yX9_testTo : MethodName := ⟨RX9, "testTo", "(III)J"⟩
abbrev cX9_isSeeing : ByteArray := prog_11_method_11_code
def yX9_isSeeing : MethodName := ⟨RX9, "isSeeing", "(J)Z"⟩
abbrev cX9_countHidden : ByteArray := prog_11_method_12_code
def yX9_countHidden : MethodName := ⟨RX9, "countHidden", "(LRelayHut$Drawing;)I"⟩
abbrev cX9_makeSuite : ByteArray := prog_11_method_13_code
def yX9_makeSuite : MethodName := ⟨RX9, "makeSuite", "(LRelayHut$Drawing;)V"⟩
def RX10 : String := "RelayHut$Wiring"
def TX10 : u_T := fun k => match k with
  | 0 => ("RelayHut$Wiring", "size", "I", true)
  | 1 => ("RelayHut$Wiring", "variable", "[I", true)
  | 2 => ("RelayHut$Wiring", "bang", "[I", true)
  | 3 => ("RelayHut$Wiring", "inverted", "[I", true)
  | 4 => ("RelayHut$Wiring", "whenClosed", "[I", true)
  | 5 => ("RelayHut$Wiring", "whenOpen", "[I", true)
  | 6 => ("RelayHut$Wiring", "closedGoal", "[I", true)
  | 7 => ("RelayHut$Wiring", "openGoal", "[I", true)
  | 8 => ("RelayHut$Wiring", "endGoal", "[I", true)
  | 9 => ("RelayHut$Wiring", "first", "[I", true)
  | 10 => ("RelayHut$Wiring", "closedByInputs", "[J", true)
  | _ => ("RelayHut$Wiring", "closedByRelays", "[J", true)
def tyX10 : Nat → FieldType := fun k => match k with
  | 0 => .int
  | 1 => .array .int
  | 2 => .array .int
  | 3 => .array .int
  | 4 => .array .int
  | 5 => .array .int
  | 6 => .array .int
  | 7 => .array .int
  | 8 => .array .int
  | 9 => .array .int
  | 10 => .array .long
  | _ => .array .long
abbrev wsX100 : List Cond := u_ws RX10 TX10 12
theorem nmX10 : ∀ a, a < 12 → ∀ b, b < 12 → a ≠ b → (TX10 a).2.1 ≠ (TX10 b).2.1 := by decide +kernel
theorem tyX10_ok : ∀ k, k < 12 → parseFieldDescriptor (TX10 k).2.2.1 = some (tyX10 k) := by decide +kernel
abbrev cX10_init : ByteArray := prog_12_method_1_code
def yX10_init : MethodName := ⟨RX10, "<init>", "(I)V"⟩
abbrev cX10_contactsIn : ByteArray := prog_12_method_2_code
def yX10_contactsIn : MethodName := ⟨RX10, "contactsIn", "([III)I"⟩
abbrev cX10_connect : ByteArray := prog_12_method_3_code
def yX10_connect : MethodName := ⟨RX10, "connect", "([IIIII)V"⟩
abbrev cX10_putContact : ByteArray := prog_12_method_4_code
def yX10_putContact : MethodName := ⟨RX10, "putContact", "(IIZZI)V"⟩
abbrev cX10_isClosed : ByteArray := prog_12_method_5_code
def yX10_isClosed : MethodName := ⟨RX10, "isClosed", "(II)Z"⟩
abbrev cX10_holds : ByteArray := prog_12_method_6_code
def yX10_holds : MethodName := ⟨RX10, "holds", "(II)Z"⟩
abbrev cX10_circuitsWith : ByteArray := prog_12_method_7_code
def yX10_circuitsWith : MethodName := ⟨RX10, "circuitsWith", "(IJ)I"⟩
abbrev cX10_fillTables : ByteArray := prog_12_method_8_code
def yX10_fillTables : MethodName := ⟨RX10, "fillTables", "(I)V"⟩
abbrev cX10_contactsAt : ByteArray := prog_12_method_9_code
def yX10_contactsAt : MethodName := ⟨RX10, "contactsAt", "(I)J"⟩
def RX11 : String := "RelayHut"
def TX11 : u_T := fun k => match k with
  | 0 => ("RelayHut", "tape", "[B", true)
  | 1 => ("RelayHut", "tapeLength", "I", false)
  | 2 => ("RelayHut", "faultPlace", "I", false)
  | 3 => ("RelayHut", "blank", "LRelayHut$Drawing;", true)
  | 4 => ("RelayHut", "drawings", "[LRelayHut$Drawing;", true)
  | 5 => ("RelayHut", "drawingCount", "I", false)
  | 6 => ("RelayHut", "atHand", "I", false)
  | 7 => ("RelayHut", "reading", "LRelayHut$Reading;", true)
  | 8 => ("RelayHut", "hut", "LRelayHut$Hut;", true)
  | 9 => ("RelayHut", "survey", "LRelayHut$Survey;", true)
  | 10 => ("RelayHut", "trials", "LRelayHut$Trials;", true)
  | 11 => ("RelayHut", "planner", "LRelayHut$Planner;", true)
  | 12 => ("RelayHut", "logbook", "LRelayHut$Logbook;", true)
  | _ => ("RelayHut", "handwork", "LRelayHut$Handwork;", true)
def tyX11 : Nat → FieldType := fun k => match k with
  | 0 => .array .byte
  | 1 => .int
  | 2 => .int
  | 3 => .object "RelayHut$Drawing"
  | 4 => .array (.object "RelayHut$Drawing")
  | 5 => .int
  | 6 => .int
  | 7 => .object "RelayHut$Reading"
  | 8 => .object "RelayHut$Hut"
  | 9 => .object "RelayHut$Survey"
  | 10 => .object "RelayHut$Trials"
  | 11 => .object "RelayHut$Planner"
  | 12 => .object "RelayHut$Logbook"
  | _ => .object "RelayHut$Handwork"
abbrev wsX110 : List Cond := u_ws RX11 TX11 14
theorem nmX11 : ∀ a, a < 14 → ∀ b, b < 14 → a ≠ b → (TX11 a).2.1 ≠ (TX11 b).2.1 := by decide +kernel
theorem tyX11_ok : ∀ k, k < 14 → parseFieldDescriptor (TX11 k).2.2.1 = some (tyX11 k) := by decide +kernel
abbrev cX11_init : ByteArray := prog_1_method_1_code
def yX11_init : MethodName := ⟨RX11, "<init>", "()V"⟩
abbrev cX11_feed : ByteArray := prog_1_method_2_code
def yX11_feed : MethodName := ⟨RX11, "feed", "(IIIII)I"⟩
abbrev cX11_putBytes : ByteArray := prog_1_method_3_code
def yX11_putBytes : MethodName := ⟨RX11, "putBytes", "(I)V"⟩
abbrev cX11_back : ByteArray := prog_1_method_4_code
def yX11_back : MethodName := ⟨RX11, "back", "(I)I"⟩
abbrev cX11_read : ByteArray := prog_1_method_5_code
def yX11_read : MethodName := ⟨RX11, "read", "()I"⟩
abbrev cX11_place : ByteArray := prog_1_method_6_code
def yX11_place : MethodName := ⟨RX11, "place", "()I"⟩
abbrev cX11_use : ByteArray := prog_1_method_7_code
def yX11_use : MethodName := ⟨RX11, "use", "(I)Z"⟩
abbrev cX11_takeToHand : ByteArray := prog_1_method_8_code
def yX11_takeToHand : MethodName := ⟨RX11, "takeToHand", "(I)V"⟩
abbrev cX11_isDrawing : ByteArray := prog_1_method_9_code
def yX11_isDrawing : MethodName := ⟨RX11, "isDrawing", "(I)Z"⟩
abbrev cX11_drawingOf : ByteArray := prog_1_method_10_code
def yX11_drawingOf : MethodName := ⟨RX11, "drawingOf", "(I)LRelayHut$Drawing;"⟩
abbrev cX11_current : ByteArray := prog_1_method_11_code
def yX11_current : MethodName := ⟨RX11, "current", "()LRelayHut$Drawing;"⟩
abbrev cX11_contact : ByteArray := prog_1_method_12_code
def yX11_contact : MethodName := ⟨RX11, "contact", "(II)I"⟩
abbrev cX11_flaw : ByteArray := prog_1_method_13_code
def yX11_flaw : MethodName := ⟨RX11, "flaw", "(I)I"⟩
abbrev cX11_takeHut : ByteArray := prog_1_method_14_code
def yX11_takeHut : MethodName := ⟨RX11, "takeHut", "(II)Z"⟩
abbrev cX11_isState : ByteArray := prog_1_method_15_code
def yX11_isState : MethodName := ⟨RX11, "isState", "(II)Z"⟩
abbrev cX11_settles : ByteArray := prog_1_method_16_code
def yX11_settles : MethodName := ⟨RX11, "settles", "(IIII)I"⟩
abbrev cX11_shows : ByteArray := prog_1_method_17_code
def yX11_shows : MethodName := ⟨RX11, "shows", "(IIII)I"⟩
abbrev cX11_start : ByteArray := prog_1_method_18_code
def yX11_start : MethodName := ⟨RX11, "start", "(II)I"⟩
abbrev cX11_reached : ByteArray := prog_1_method_19_code
def yX11_reached : MethodName := ⟨RX11, "reached", "(II)I"⟩
abbrev cX11_races : ByteArray := prog_1_method_20_code
def yX11_races : MethodName := ⟨RX11, "races", "(II)I"⟩
abbrev cX11_bad : ByteArray := prog_1_method_21_code
def yX11_bad : MethodName := ⟨RX11, "bad", "(II)I"⟩
abbrev cX11_badAct : ByteArray := prog_1_method_22_code
def yX11_badAct : MethodName := ⟨RX11, "badAct", "(III)I"⟩
abbrev cX11_singles : ByteArray := prog_1_method_23_code
def yX11_singles : MethodName := ⟨RX11, "singles", "()I"⟩
abbrev cX11_pairs : ByteArray := prog_1_method_24_code
def yX11_pairs : MethodName := ⟨RX11, "pairs", "(I)I"⟩
abbrev cX11_pair : ByteArray := prog_1_method_25_code
def yX11_pair : MethodName := ⟨RX11, "pair", "(II)I"⟩
abbrev cX11_least : ByteArray := prog_1_method_26_code
def yX11_least : MethodName := ⟨RX11, "least", "(I)I"⟩
abbrev cX11_leastAct : ByteArray := prog_1_method_27_code
def yX11_leastAct : MethodName := ⟨RX11, "leastAct", "(II)I"⟩
abbrev cX11_hidden : ByteArray := prog_1_method_28_code
def yX11_hidden : MethodName := ⟨RX11, "hidden", "()I"⟩
abbrev cX11_suite : ByteArray := prog_1_method_29_code
def yX11_suite : MethodName := ⟨RX11, "suite", "()I"⟩
abbrev cX11_suiteAct : ByteArray := prog_1_method_30_code
def yX11_suiteAct : MethodName := ⟨RX11, "suiteAct", "(II)I"⟩
abbrev cX11_suiteActs : ByteArray := prog_1_method_31_code
def yX11_suiteActs : MethodName := ⟨RX11, "suiteActs", "()I"⟩
abbrev cX11_unlike : ByteArray := prog_1_method_32_code
def yX11_unlike : MethodName := ⟨RX11, "unlike", "(II)I"⟩
abbrev cX11_safe : ByteArray := prog_1_method_33_code
def yX11_safe : MethodName := ⟨RX11, "safe", "(III)I"⟩
abbrev cX11_plan : ByteArray := prog_1_method_34_code
def yX11_plan : MethodName := ⟨RX11, "plan", "(III)I"⟩
abbrev cX11_stage : ByteArray := prog_1_method_35_code
def yX11_stage : MethodName := ⟨RX11, "stage", "(IIII)I"⟩
abbrev cX11_log : ByteArray := prog_1_method_36_code
def yX11_log : MethodName := ⟨RX11, "log", "(III)I"⟩
abbrev cX11_annul : ByteArray := prog_1_method_37_code
def yX11_annul : MethodName := ⟨RX11, "annul", "(I)I"⟩
abbrev cX11_fits : ByteArray := prog_1_method_38_code
def yX11_fits : MethodName := ⟨RX11, "fits", "(II)I"⟩
abbrev cX11_suspects : ByteArray := prog_1_method_39_code
def yX11_suspects : MethodName := ⟨RX11, "suspects", "(I)I"⟩
abbrev cX11_next : ByteArray := prog_1_method_40_code
def yX11_next : MethodName := ⟨RX11, "next", "(I)I"⟩
abbrev cX11_set : ByteArray := prog_1_method_41_code
def yX11_set : MethodName := ⟨RX11, "set", "(IZ)Z"⟩
abbrev cX11_strap : ByteArray := prog_1_method_42_code
def yX11_strap : MethodName := ⟨RX11, "strap", "(IZ)Z"⟩
abbrev cX11_age : ByteArray := prog_1_method_43_code
def yX11_age : MethodName := ⟨RX11, "age", "(II)Z"⟩
abbrev cX11_round : ByteArray := prog_1_method_44_code
def yX11_round : MethodName := ⟨RX11, "round", "()I"⟩
abbrev cX11_clash : ByteArray := prog_1_method_45_code
def yX11_clash : MethodName := ⟨RX11, "clash", "()I"⟩
abbrev cX11_hand : ByteArray := prog_1_method_46_code
def yX11_hand : MethodName := ⟨RX11, "hand", "(I)I"⟩
abbrev cX11_count : ByteArray := prog_1_method_47_code
def yX11_count : MethodName := ⟨RX11, "count", "(I)I"⟩
abbrev cX11_wordOf : ByteArray := prog_1_method_48_code
def yX11_wordOf : MethodName := ⟨RX11, "wordOf", "(II)I"⟩
def RX12 : String := "RelayHutModel"
def TX12 : u_T := fun k => match k with
  | 0 => ("RelayHutModel", "thrown", "I", false)
  | 1 => ("RelayHutModel", "tape", "[B", true)
  | 2 => ("RelayHutModel", "taped", "I", false)
  | 3 => ("RelayHutModel", "text", "[B", true)
  | 4 => ("RelayHutModel", "size", "I", false)
  | 5 => ("RelayHutModel", "tKind", "[I", true)
  | 6 => ("RelayHutModel", "tPlace", "[I", true)
  | 7 => ("RelayHutModel", "tValue", "[I", true)
  | 8 => ("RelayHutModel", "tName", "[J", true)
  | 9 => ("RelayHutModel", "keys", "[J", true)
  | 10 => ("RelayHutModel", "tokens", "I", false)
  | 11 => ("RelayHutModel", "t", "I", false)
  | 12 => ("RelayHutModel", "open", "I", false)
  | 13 => ("RelayHutModel", "fault", "I", false)
  | 14 => ("RelayHutModel", "faultPlace", "I", false)
  | 15 => ("RelayHutModel", "worst", "I", false)
  | 16 => ("RelayHutModel", "worstPlace", "I", false)
  | 17 => ("RelayHutModel", "place", "I", false)
  | 18 => ("RelayHutModel", "drawings", "I", false)
  | 19 => ("RelayHutModel", "hand0", "I", false)
  | 20 => ("RelayHutModel", "page", "I", false)
  | 21 => ("RelayHutModel", "inputs", "[I", true)
  | 22 => ("RelayHutModel", "isTrack", "[Z", true)
  | 23 => ("RelayHutModel", "inputName", "[J", true)
  | 24 => ("RelayHutModel", "relays", "[I", true)
  | 25 => ("RelayHutModel", "slow", "[I", true)
  | 26 => ("RelayHutModel", "relayName", "[J", true)
  | 27 => ("RelayHutModel", "lamps", "[I", true)
  | 28 => ("RelayHutModel", "isGreen", "[Z", true)
  | 29 => ("RelayHutModel", "lampName", "[J", true)
  | 30 => ("RelayHutModel", "nevers", "[I", true)
  | 31 => ("RelayHutModel", "neverLamp", "[I", true)
  | 32 => ("RelayHutModel", "contacts", "[I", true)
  | 33 => ("RelayHutModel", "whose", "[I", true)
  | 34 => ("RelayHutModel", "ofWhat", "[I", true)
  | 35 => ("RelayHutModel", "isNot", "[Z", true)
  | 36 => ("RelayHutModel", "nameToken", "[I", true)
  | 37 => ("RelayHutModel", "codeFrom", "[I", true)
  | 38 => ("RelayHutModel", "codeTo", "[I", true)
  | 39 => ("RelayHutModel", "signFrom", "[I", true)
  | 40 => ("RelayHutModel", "signTo", "[I", true)
  | 41 => ("RelayHutModel", "codes", "I", false)
  | 42 => ("RelayHutModel", "code", "[I", true)
  | 43 => ("RelayHutModel", "signs", "I", false)
  | 44 => ("RelayHutModel", "signOf", "[J", true)
  | 45 => ("RelayHutModel", "wanted", "I", false)
  | 46 => ("RelayHutModel", "wantedToken", "[I", true)
  | 47 => ("RelayHutModel", "wantedCode", "[I", true)
  | 48 => ("RelayHutModel", "waits", "[I", true)
  | 49 => ("RelayHutModel", "waiting", "I", false)
  | 50 => ("RelayHutModel", "handIn", "I", false)
  | 51 => ("RelayHutModel", "handRelays", "I", false)
  | 52 => ("RelayHutModel", "isStrap", "[Z", true)
  | 53 => ("RelayHutModel", "ages", "[I", true)
  | 54 => ("RelayHutModel", "drops", "[I", true)
  | 55 => ("RelayHutModel", "isClash", "Z", false)
  | 56 => ("RelayHutModel", "isClosed", "[Z", true)
  | 57 => ("RelayHutModel", "pile", "[Z", true)
  | 58 => ("RelayHutModel", "isWelded", "[Z", true)
  | 59 => ("RelayHutModel", "isBroken", "[Z", true)
  | 60 => ("RelayHutModel", "isCrossed", "[Z", true)
  | 61 => ("RelayHutModel", "stuck", "I", false)
  | 62 => ("RelayHutModel", "stuckUp", "I", false)
  | 63 => ("RelayHutModel", "isBase", "[Z", true)
  | 64 => ("RelayHutModel", "shut", "[I", true)
  | 65 => ("RelayHutModel", "settled", "[I", true)
  | 66 => ("RelayHutModel", "hutStuck", "[I", true)
  | 67 => ("RelayHutModel", "hutUp", "[I", true)
  | 68 => ("RelayHutModel", "found", "I", false)
  | 69 => ("RelayHutModel", "row", "[I", true)
  | 70 => ("RelayHutModel", "from", "[I", true)
  | 71 => ("RelayHutModel", "by", "[I", true)
  | 72 => ("RelayHutModel", "isFound", "[Z", true)
  | 73 => ("RelayHutModel", "raced", "I", false)
  | 74 => ("RelayHutModel", "wrongAt", "I", false)
  | 75 => ("RelayHutModel", "pairsFound", "I", false)
  | 76 => ("RelayHutModel", "pairAt", "I", false)
  | 77 => ("RelayHutModel", "twos", "I", false)
  | 78 => ("RelayHutModel", "twoOf", "[I", true)
  | 79 => ("RelayHutModel", "twoFrom", "[I", true)
  | 80 => ("RelayHutModel", "stamp", "[I", true)
  | 81 => ("RelayHutModel", "stamps", "I", false)
  | 82 => ("RelayHutModel", "leastActs", "I", false)
  | 83 => ("RelayHutModel", "least", "[I", true)
  | 84 => ("RelayHutModel", "isTested", "Z", false)
  | 85 => ("RelayHutModel", "hiddenOnes", "I", false)
  | 86 => ("RelayHutModel", "tests", "I", false)
  | 87 => ("RelayHutModel", "testActs", "[I", true)
  | 88 => ("RelayHutModel", "testAct", "[I", true)
  | 89 => ("RelayHutModel", "isSafeSet", "[Z", true)
  | 90 => ("RelayHutModel", "stagesFrom", "[I", true)
  | 91 => ("RelayHutModel", "logs", "I", false)
  | 92 => ("RelayHutModel", "of", "[I", true)
  | 93 => ("RelayHutModel", "logActs", "[I", true)
  | 94 => ("RelayHutModel", "logRow", "[I", true)
  | 95 => ("RelayHutModel", "logLamps", "[I", true)
  | 96 => ("RelayHutModel", "suspectsFound", "I", false)
  | 97 => ("RelayHutModel", "answers", "[I", true)
  | _ => ("RelayHutModel", "tally", "[I", true)
def tyX12 : Nat → FieldType := fun k => match k with
  | 0 => .int
  | 1 => .array .byte
  | 2 => .int
  | 3 => .array .byte
  | 4 => .int
  | 5 => .array .int
  | 6 => .array .int
  | 7 => .array .int
  | 8 => .array .long
  | 9 => .array .long
  | 10 => .int
  | 11 => .int
  | 12 => .int
  | 13 => .int
  | 14 => .int
  | 15 => .int
  | 16 => .int
  | 17 => .int
  | 18 => .int
  | 19 => .int
  | 20 => .int
  | 21 => .array .int
  | 22 => .array .boolean
  | 23 => .array .long
  | 24 => .array .int
  | 25 => .array .int
  | 26 => .array .long
  | 27 => .array .int
  | 28 => .array .boolean
  | 29 => .array .long
  | 30 => .array .int
  | 31 => .array .int
  | 32 => .array .int
  | 33 => .array .int
  | 34 => .array .int
  | 35 => .array .boolean
  | 36 => .array .int
  | 37 => .array .int
  | 38 => .array .int
  | 39 => .array .int
  | 40 => .array .int
  | 41 => .int
  | 42 => .array .int
  | 43 => .int
  | 44 => .array .long
  | 45 => .int
  | 46 => .array .int
  | 47 => .array .int
  | 48 => .array .int
  | 49 => .int
  | 50 => .int
  | 51 => .int
  | 52 => .array .boolean
  | 53 => .array .int
  | 54 => .array .int
  | 55 => .boolean
  | 56 => .array .boolean
  | 57 => .array .boolean
  | 58 => .array .boolean
  | 59 => .array .boolean
  | 60 => .array .boolean
  | 61 => .int
  | 62 => .int
  | 63 => .array .boolean
  | 64 => .array .int
  | 65 => .array .int
  | 66 => .array .int
  | 67 => .array .int
  | 68 => .int
  | 69 => .array .int
  | 70 => .array .int
  | 71 => .array .int
  | 72 => .array .boolean
  | 73 => .int
  | 74 => .int
  | 75 => .int
  | 76 => .int
  | 77 => .int
  | 78 => .array .int
  | 79 => .array .int
  | 80 => .array .int
  | 81 => .int
  | 82 => .int
  | 83 => .array .int
  | 84 => .boolean
  | 85 => .int
  | 86 => .int
  | 87 => .array .int
  | 88 => .array .int
  | 89 => .array .boolean
  | 90 => .array .int
  | 91 => .int
  | 92 => .array .int
  | 93 => .array .int
  | 94 => .array .int
  | 95 => .array .int
  | 96 => .int
  | 97 => .array .int
  | _ => .array .int
abbrev wsX120 : List Cond := u_ws RX12 TX12 99
theorem nmX12 : ∀ a, a < 99 → ∀ b, b < 99 → a ≠ b → (TX12 a).2.1 ≠ (TX12 b).2.1 := by decide +kernel
theorem tyX12_ok : ∀ k, k < 99 → parseFieldDescriptor (TX12 k).2.2.1 = some (tyX12 k) := by decide +kernel
abbrev cX12_init : ByteArray := prog_14_method_2_code
def yX12_init : MethodName := ⟨RX12, "<init>", "()V"⟩
abbrev cX12_feed : ByteArray := prog_14_method_3_code
def yX12_feed : MethodName := ⟨RX12, "feed", "(IIIII)I"⟩
abbrev cX12_put : ByteArray := prog_14_method_4_code
def yX12_put : MethodName := ⟨RX12, "put", "(I)V"⟩
abbrev cX12_back : ByteArray := prog_14_method_5_code
def yX12_back : MethodName := ⟨RX12, "back", "(I)I"⟩
abbrev cX12_byteAt : ByteArray := prog_14_method_6_code
def yX12_byteAt : MethodName := ⟨RX12, "byteAt", "(I)I"⟩
abbrev cX12_isDigit : ByteArray := prog_14_method_7_code
def yX12_isDigit : MethodName := ⟨RX12, "isDigit", "(I)Z"⟩
abbrev cX12_isLetter : ByteArray := prog_14_method_8_code
def yX12_isLetter : MethodName := ⟨RX12, "isLetter", "(I)Z"⟩
abbrev cX12_appends : ByteArray := prog_14_method_9_code
def yX12_appends : MethodName := ⟨RX12, "appends", "(JI)J"⟩
abbrev cX12_word : ByteArray := prog_14_method_10_code
def yX12_word : MethodName := ⟨RX12, "word", "(IIIIIII)J"⟩
abbrev cX12_token : ByteArray := prog_14_method_11_code
def yX12_token : MethodName := ⟨RX12, "token", "(IIIJ)V"⟩
abbrev cX12_cut : ByteArray := prog_14_method_12_code
def yX12_cut : MethodName := ⟨RX12, "cut", "()V"⟩
abbrev cX12_sign : ByteArray := prog_14_method_13_code
def yX12_sign : MethodName := ⟨RX12, "sign", "(I)I"⟩
abbrev cX12_is : ByteArray := prog_14_method_14_code
def yX12_is : MethodName := ⟨RX12, "is", "(I)Z"⟩
abbrev cX12_fail : ByteArray := prog_14_method_15_code
def yX12_fail : MethodName := ⟨RX12, "fail", "(I)V"⟩
abbrev cX12_wrong : ByteArray := prog_14_method_16_code
def yX12_wrong : MethodName := ⟨RX12, "wrong", "(II)V"⟩
abbrev cX12_goesOn : ByteArray := prog_14_method_17_code
def yX12_goesOn : MethodName := ⟨RX12, "goesOn", "()V"⟩
abbrev cX12_must : ByteArray := prog_14_method_18_code
def yX12_must : MethodName := ⟨RX12, "must", "(I)V"⟩
abbrev cX12_read : ByteArray := prog_14_method_19_code
def yX12_read : MethodName := ⟨RX12, "read", "()I"⟩
abbrev cX12_place : ByteArray := prog_14_method_20_code
def yX12_place : MethodName := ⟨RX12, "place", "()I"⟩
abbrev cX12_tell : ByteArray := prog_14_method_21_code
def yX12_tell : MethodName := ⟨RX12, "tell", "()V"⟩
abbrev cX12_inputNamed : ByteArray := prog_14_method_22_code
def yX12_inputNamed : MethodName := ⟨RX12, "inputNamed", "(J)I"⟩
abbrev cX12_relayNamed : ByteArray := prog_14_method_23_code
def yX12_relayNamed : MethodName := ⟨RX12, "relayNamed", "(J)I"⟩
abbrev cX12_lampNamed : ByteArray := prog_14_method_24_code
def yX12_lampNamed : MethodName := ⟨RX12, "lampNamed", "(J)I"⟩
abbrev cX12_named : ByteArray := prog_14_method_25_code
def yX12_named : MethodName := ⟨RX12, "named", "()J"⟩
abbrev cX12_tellInput : ByteArray := prog_14_method_26_code
def yX12_tellInput : MethodName := ⟨RX12, "tellInput", "()V"⟩
abbrev cX12_tellRelay : ByteArray := prog_14_method_27_code
def yX12_tellRelay : MethodName := ⟨RX12, "tellRelay", "()V"⟩
abbrev cX12_tellLamp : ByteArray := prog_14_method_28_code
def yX12_tellLamp : MethodName := ⟨RX12, "tellLamp", "()V"⟩
abbrev cX12_tellNever : ByteArray := prog_14_method_29_code
def yX12_tellNever : MethodName := ⟨RX12, "tellNever", "()V"⟩
abbrev cX12_emit : ByteArray := prog_14_method_30_code
def yX12_emit : MethodName := ⟨RX12, "emit", "(I)V"⟩
abbrev cX12_waitsOn : ByteArray := prog_14_method_31_code
def yX12_waitsOn : MethodName := ⟨RX12, "waitsOn", "(I)Z"⟩
abbrev cX12_circuit : ByteArray := prog_14_method_32_code
def yX12_circuit : MethodName := ⟨RX12, "circuit", "(II)V"⟩
abbrev cX12_unit : ByteArray := prog_14_method_33_code
def yX12_unit : MethodName := ⟨RX12, "unit", "(I)V"⟩
abbrev cX12_goes : ByteArray := prog_14_method_34_code
def yX12_goes : MethodName := ⟨RX12, "goes", "()Z"⟩
abbrev cX12_thingNamed : ByteArray := prog_14_method_35_code
def yX12_thingNamed : MethodName := ⟨RX12, "thingNamed", "(I)I"⟩
abbrev cX12_knows : ByteArray := prog_14_method_36_code
def yX12_knows : MethodName := ⟨RX12, "knows", "()V"⟩
abbrev cX12_in : ByteArray := prog_14_method_37_code
def yX12_in : MethodName := ⟨RX12, "in", "(III)Z"⟩
abbrev cX12_isDrawing : ByteArray := prog_14_method_38_code
def yX12_isDrawing : MethodName := ⟨RX12, "isDrawing", "(I)Z"⟩
abbrev cX12_comes : ByteArray := prog_14_method_39_code
def yX12_comes : MethodName := ⟨RX12, "comes", "(I)V"⟩
abbrev cX12_use : ByteArray := prog_14_method_40_code
def yX12_use : MethodName := ⟨RX12, "use", "(I)Z"⟩
abbrev cX12_contact : ByteArray := prog_14_method_41_code
def yX12_contact : MethodName := ⟨RX12, "contact", "(II)I"⟩
abbrev cX12_isCrossable : ByteArray := prog_14_method_42_code
def yX12_isCrossable : MethodName := ⟨RX12, "isCrossable", "(I)Z"⟩
abbrev cX12_isFlaw : ByteArray := prog_14_method_43_code
def yX12_isFlaw : MethodName := ⟨RX12, "isFlaw", "(I)Z"⟩
abbrev cX12_isHut : ByteArray := prog_14_method_44_code
def yX12_isHut : MethodName := ⟨RX12, "isHut", "(II)Z"⟩
abbrev cX12_flawsThere : ByteArray := prog_14_method_45_code
def yX12_flawsThere : MethodName := ⟨RX12, "flawsThere", "()I"⟩
abbrev cX12_flaw : ByteArray := prog_14_method_46_code
def yX12_flaw : MethodName := ⟨RX12, "flaw", "(I)I"⟩
abbrev cX12_isThing : ByteArray := prog_14_method_47_code
def yX12_isThing : MethodName := ⟨RX12, "isThing", "(IZIII)Z"⟩
abbrev cX12_isShut : ByteArray := prog_14_method_48_code
def yX12_isShut : MethodName := ⟨RX12, "isShut", "(I)Z"⟩
abbrev cX12_holds : ByteArray := prog_14_method_49_code
def yX12_holds : MethodName := ⟨RX12, "holds", "(IIII)Z"⟩
abbrev cX12_neverNow : ByteArray := prog_14_method_50_code
def yX12_neverNow : MethodName := ⟨RX12, "neverNow", "(III)I"⟩
abbrev cX12_greens : ByteArray := prog_14_method_51_code
def yX12_greens : MethodName := ⟨RX12, "greens", "(I)I"⟩
abbrev cX12_sound : ByteArray := prog_14_method_52_code
def yX12_sound : MethodName := ⟨RX12, "sound", "()V"⟩
abbrev cX12_spoils : ByteArray := prog_14_method_53_code
def yX12_spoils : MethodName := ⟨RX12, "spoils", "(I)V"⟩
abbrev cX12_closes : ByteArray := prog_14_method_54_code
def yX12_closes : MethodName := ⟨RX12, "closes", "(III)V"⟩
abbrev cX12_all : ByteArray := prog_14_method_55_code
def yX12_all : MethodName := ⟨RX12, "all", "(I)I"⟩
abbrev cX12_shutBits : ByteArray := prog_14_method_56_code
def yX12_shutBits : MethodName := ⟨RX12, "shutBits", "(IIIII)I"⟩
abbrev cX12_isCircuit : ByteArray := prog_14_method_57_code
def yX12_isCircuit : MethodName := ⟨RX12, "isCircuit", "(II)Z"⟩
abbrev cX12_builds : ByteArray := prog_14_method_58_code
def yX12_builds : MethodName := ⟨RX12, "builds", "(III)V"⟩
abbrev cX12_lays : ByteArray := prog_14_method_59_code
def yX12_lays : MethodName := ⟨RX12, "lays", "(IIII)V"⟩
abbrev cX12_allowed : ByteArray := prog_14_method_60_code
def yX12_allowed : MethodName := ⟨RX12, "allowed", "(IIII)I"⟩
abbrev cX12_worksOut : ByteArray := prog_14_method_61_code
def yX12_worksOut : MethodName := ⟨RX12, "worksOut", "(III)V"⟩
abbrev cX12_placed : ByteArray := prog_14_method_62_code
def yX12_placed : MethodName := ⟨RX12, "placed", "(II)I"⟩
abbrev cX12_startOf : ByteArray := prog_14_method_63_code
def yX12_startOf : MethodName := ⟨RX12, "startOf", "(I)I"⟩
abbrev cX12_behind : ByteArray := prog_14_method_64_code
def yX12_behind : MethodName := ⟨RX12, "behind", "(III)I"⟩
abbrev cX12_lampsAt : ByteArray := prog_14_method_65_code
def yX12_lampsAt : MethodName := ⟨RX12, "lampsAt", "(III)I"⟩
abbrev cX12_settles : ByteArray := prog_14_method_66_code
def yX12_settles : MethodName := ⟨RX12, "settles", "(IIII)I"⟩
abbrev cX12_shows : ByteArray := prog_14_method_67_code
def yX12_shows : MethodName := ⟨RX12, "shows", "(IIII)I"⟩
abbrev cX12_start : ByteArray := prog_14_method_68_code
def yX12_start : MethodName := ⟨RX12, "start", "(II)I"⟩
abbrev cX12_isWrong : ByteArray := prog_14_method_69_code
def yX12_isWrong : MethodName := ⟨RX12, "isWrong", "(IIII)Z"⟩
abbrev cX12_reaches : ByteArray := prog_14_method_70_code
def yX12_reaches : MethodName := ⟨RX12, "reaches", "(III)V"⟩
abbrev cX12_arrives : ByteArray := prog_14_method_71_code
def yX12_arrives : MethodName := ⟨RX12, "arrives", "(III)V"⟩
abbrev cX12_goesThrough : ByteArray := prog_14_method_72_code
def yX12_goesThrough : MethodName := ⟨RX12, "goesThrough", "(II)V"⟩
abbrev cX12_reached : ByteArray := prog_14_method_73_code
def yX12_reached : MethodName := ⟨RX12, "reached", "(II)I"⟩
abbrev cX12_races : ByteArray := prog_14_method_74_code
def yX12_races : MethodName := ⟨RX12, "races", "(II)I"⟩
abbrev cX12_actsTo : ByteArray := prog_14_method_75_code
def yX12_actsTo : MethodName := ⟨RX12, "actsTo", "(I)I"⟩
abbrev cX12_bad : ByteArray := prog_14_method_76_code
def yX12_bad : MethodName := ⟨RX12, "bad", "(II)I"⟩
abbrev cX12_badAct : ByteArray := prog_14_method_77_code
def yX12_badAct : MethodName := ⟨RX12, "badAct", "(III)I"⟩
abbrev cX12_isBad : ByteArray := prog_14_method_78_code
def yX12_isBad : MethodName := ⟨RX12, "isBad", "(II)Z"⟩
abbrev cX12_singles : ByteArray := prog_14_method_79_code
def yX12_singles : MethodName := ⟨RX12, "singles", "()I"⟩
abbrev cX12_pairsOf : ByteArray := prog_14_method_80_code
def yX12_pairsOf : MethodName := ⟨RX12, "pairsOf", "(II)V"⟩
abbrev cX12_pairs : ByteArray := prog_14_method_81_code
def yX12_pairs : MethodName := ⟨RX12, "pairs", "(I)I"⟩
abbrev cX12_pair : ByteArray := prog_14_method_82_code
def yX12_pair : MethodName := ⟨RX12, "pair", "(II)I"⟩
abbrev cX12_joins : ByteArray := prog_14_method_83_code
def yX12_joins : MethodName := ⟨RX12, "joins", "(II)V"⟩
abbrev cX12_seen : ByteArray := prog_14_method_84_code
def yX12_seen : MethodName := ⟨RX12, "seen", "(III)I"⟩
abbrev cX12_deep : ByteArray := prog_14_method_85_code
def yX12_deep : MethodName := ⟨RX12, "deep", "(I)I"⟩
abbrev cX12_actBetween : ByteArray := prog_14_method_86_code
def yX12_actBetween : MethodName := ⟨RX12, "actBetween", "(II)I"⟩
abbrev cX12_leastTest : ByteArray := prog_14_method_87_code
def yX12_leastTest : MethodName := ⟨RX12, "leastTest", "()V"⟩
abbrev cX12_findsTest : ByteArray := prog_14_method_88_code
def yX12_findsTest : MethodName := ⟨RX12, "findsTest", "(I)V"⟩
abbrev cX12_least : ByteArray := prog_14_method_89_code
def yX12_least : MethodName := ⟨RX12, "least", "(I)I"⟩
abbrev cX12_leastAct : ByteArray := prog_14_method_90_code
def yX12_leastAct : MethodName := ⟨RX12, "leastAct", "(II)I"⟩
abbrev cX12_sees : ByteArray := prog_14_method_91_code
def yX12_sees : MethodName := ⟨RX12, "sees", "(I)Z"⟩
abbrev cX12_makesSuite : ByteArray := prog_14_method_92_code
def yX12_makesSuite : MethodName := ⟨RX12, "makesSuite", "()V"⟩
abbrev cX12_hidden : ByteArray := prog_14_method_93_code
def yX12_hidden : MethodName := ⟨RX12, "hidden", "()I"⟩
abbrev cX12_suite : ByteArray := prog_14_method_94_code
def yX12_suite : MethodName := ⟨RX12, "suite", "()I"⟩
abbrev cX12_suiteAct : ByteArray := prog_14_method_95_code
def yX12_suiteAct : MethodName := ⟨RX12, "suiteAct", "(II)I"⟩
abbrev cX12_suiteActs : ByteArray := prog_14_method_96_code
def yX12_suiteActs : MethodName := ⟨RX12, "suiteActs", "()I"⟩
abbrev cX12_isSame : ByteArray := prog_14_method_97_code
def yX12_isSame : MethodName := ⟨RX12, "isSame", "(II)Z"⟩
abbrev cX12_isAlike : ByteArray := prog_14_method_98_code
def yX12_isAlike : MethodName := ⟨RX12, "isAlike", "(II)Z"⟩
abbrev cX12_unlikeOnes : ByteArray := prog_14_method_99_code
def yX12_unlikeOnes : MethodName := ⟨RX12, "unlikeOnes", "(II)I"⟩
abbrev cX12_unlike : ByteArray := prog_14_method_100_code
def yX12_unlike : MethodName := ⟨RX12, "unlike", "(II)I"⟩
abbrev cX12_isSafe : ByteArray := prog_14_method_101_code
def yX12_isSafe : MethodName := ⟨RX12, "isSafe", "(III)Z"⟩
abbrev cX12_safe : ByteArray := prog_14_method_102_code
def yX12_safe : MethodName := ⟨RX12, "safe", "(III)I"⟩
abbrev cX12_bits : ByteArray := prog_14_method_103_code
def yX12_bits : MethodName := ⟨RX12, "bits", "(I)I"⟩
abbrev cX12_plans : ByteArray := prog_14_method_104_code
def yX12_plans : MethodName := ⟨RX12, "plans", "(III)I"⟩
abbrev cX12_plan : ByteArray := prog_14_method_105_code
def yX12_plan : MethodName := ⟨RX12, "plan", "(III)I"⟩
abbrev cX12_stage : ByteArray := prog_14_method_106_code
def yX12_stage : MethodName := ⟨RX12, "stage", "(IIII)I"⟩
abbrev cX12_log : ByteArray := prog_14_method_107_code
def yX12_log : MethodName := ⟨RX12, "log", "(III)I"⟩
abbrev cX12_annul : ByteArray := prog_14_method_108_code
def yX12_annul : MethodName := ⟨RX12, "annul", "(I)I"⟩
abbrev cX12_showsBehind : ByteArray := prog_14_method_109_code
def yX12_showsBehind : MethodName := ⟨RX12, "showsBehind", "(II)I"⟩
abbrev cX12_isVoid : ByteArray := prog_14_method_110_code
def yX12_isVoid : MethodName := ⟨RX12, "isVoid", "(II)Z"⟩
abbrev cX12_fitsLogs : ByteArray := prog_14_method_111_code
def yX12_fitsLogs : MethodName := ⟨RX12, "fitsLogs", "(I)Z"⟩
abbrev cX12_isKnown : ByteArray := prog_14_method_112_code
def yX12_isKnown : MethodName := ⟨RX12, "isKnown", "(I)Z"⟩
abbrev cX12_fits : ByteArray := prog_14_method_113_code
def yX12_fits : MethodName := ⟨RX12, "fits", "(II)I"⟩
abbrev cX12_counts : ByteArray := prog_14_method_114_code
def yX12_counts : MethodName := ⟨RX12, "counts", "(I)V"⟩
abbrev cX12_rowActs : ByteArray := prog_14_method_115_code
def yX12_rowActs : MethodName := ⟨RX12, "rowActs", "(I)I"⟩
abbrev cX12_isRow : ByteArray := prog_14_method_116_code
def yX12_isRow : MethodName := ⟨RX12, "isRow", "(I)Z"⟩
abbrev cX12_suspects : ByteArray := prog_14_method_117_code
def yX12_suspects : MethodName := ⟨RX12, "suspects", "(I)I"⟩
abbrev cX12_next : ByteArray := prog_14_method_118_code
def yX12_next : MethodName := ⟨RX12, "next", "(I)I"⟩
abbrev cX12_set : ByteArray := prog_14_method_119_code
def yX12_set : MethodName := ⟨RX12, "set", "(IZ)Z"⟩
abbrev cX12_strap : ByteArray := prog_14_method_120_code
def yX12_strap : MethodName := ⟨RX12, "strap", "(IZ)Z"⟩
abbrev cX12_age : ByteArray := prog_14_method_121_code
def yX12_age : MethodName := ⟨RX12, "age", "(II)Z"⟩
abbrev cX12_handShut : ByteArray := prog_14_method_122_code
def yX12_handShut : MethodName := ⟨RX12, "handShut", "()I"⟩
abbrev cX12_isIn : ByteArray := prog_14_method_123_code
def yX12_isIn : MethodName := ⟨RX12, "isIn", "(II)Z"⟩
abbrev cX12_round : ByteArray := prog_14_method_124_code
def yX12_round : MethodName := ⟨RX12, "round", "()I"⟩
abbrev cX12_clash : ByteArray := prog_14_method_125_code
def yX12_clash : MethodName := ⟨RX12, "clash", "()I"⟩
abbrev cX12_hand : ByteArray := prog_14_method_126_code
def yX12_hand : MethodName := ⟨RX12, "hand", "(I)I"⟩
abbrev cX12_count : ByteArray := prog_14_method_127_code
def yX12_count : MethodName := ⟨RX12, "count", "(I)I"⟩
def RJx145de : String := "java/io/Serializable"
def TJx145de : u_T := fun k => match k with
  | _ => ("", "", "", false)
def tyJx145de : Nat → FieldType := fun k => match k with
  | _ => .int
abbrev wsJx145de0 : List Cond := u_ws RJx145de TJx145de 0
theorem nmJx145de : ∀ a, a < 0 → ∀ b, b < 0 → a ≠ b → (TJx145de a).2.1 ≠ (TJx145de b).2.1 := by decide +kernel
theorem tyJx145de_ok : ∀ k, k < 0 → parseFieldDescriptor (TJx145de k).2.2.1 = some (tyJx145de k) := by decide +kernel
def RJx9f9b0 : String := "java/lang/CharSequence"
def TJx9f9b0 : u_T := fun k => match k with
  | _ => ("", "", "", false)
def tyJx9f9b0 : Nat → FieldType := fun k => match k with
  | _ => .int
abbrev wsJx9f9b00 : List Cond := u_ws RJx9f9b0 TJx9f9b0 0
theorem nmJx9f9b0 : ∀ a, a < 0 → ∀ b, b < 0 → a ≠ b → (TJx9f9b0 a).2.1 ≠ (TJx9f9b0 b).2.1 := by decide +kernel
theorem tyJx9f9b0_ok : ∀ k, k < 0 → parseFieldDescriptor (TJx9f9b0 k).2.2.1 = some (tyJx9f9b0 k) := by decide +kernel
def RJ11 : String := "java/lang/Character"
def TJ11 : u_T := fun k => match k with
  | _ => ("", "", "", false)
def tyJ11 : Nat → FieldType := fun k => match k with
  | _ => .int
abbrev wsJ110 : List Cond := u_ws RJ11 TJ11 0
theorem nmJ11 : ∀ a, a < 0 → ∀ b, b < 0 → a ≠ b → (TJ11 a).2.1 ≠ (TJ11 b).2.1 := by decide +kernel
theorem tyJ11_ok : ∀ k, k < 0 → parseFieldDescriptor (TJ11 k).2.2.1 = some (tyJ11 k) := by decide +kernel
abbrev cJ11_isValidCodePoint_9a6ad : ByteArray := prog_15_method_11_code
def yJ11_isValidCodePoint_9a6ad : MethodName := ⟨RJ11, "isValidCodePoint", "(I)Z"⟩
abbrev cJ11_highSurrogate_5068e : ByteArray := prog_15_method_28_code
def yJ11_highSurrogate_5068e : MethodName := ⟨RJ11, "highSurrogate", "(I)C"⟩
abbrev cJ11_lowSurrogate_5068e : ByteArray := prog_15_method_29_code
def yJ11_lowSurrogate_5068e : MethodName := ⟨RJ11, "lowSurrogate", "(I)C"⟩
def RJx8e188 : String := "java/lang/Cloneable"
def TJx8e188 : u_T := fun k => match k with
  | _ => ("", "", "", false)
def tyJx8e188 : Nat → FieldType := fun k => match k with
  | _ => .int
abbrev wsJx8e1880 : List Cond := u_ws RJx8e188 TJx8e188 0
theorem nmJx8e188 : ∀ a, a < 0 → ∀ b, b < 0 → a ≠ b → (TJx8e188 a).2.1 ≠ (TJx8e188 b).2.1 := by decide +kernel
theorem tyJx8e188_ok : ∀ k, k < 0 → parseFieldDescriptor (TJx8e188 k).2.2.1 = some (tyJx8e188 k) := by decide +kernel
def RJxb160c : String := "java/lang/Comparable"
def TJxb160c : u_T := fun k => match k with
  | _ => ("", "", "", false)
def tyJxb160c : Nat → FieldType := fun k => match k with
  | _ => .int
abbrev wsJxb160c0 : List Cond := u_ws RJxb160c TJxb160c 0
theorem nmJxb160c : ∀ a, a < 0 → ∀ b, b < 0 → a ≠ b → (TJxb160c a).2.1 ≠ (TJxb160c b).2.1 := by decide +kernel
theorem tyJxb160c_ok : ∀ k, k < 0 → parseFieldDescriptor (TJxb160c k).2.2.1 = some (tyJxb160c k) := by decide +kernel
def RJ6 : String := "java/lang/Integer"
def TJ6 : u_T := fun k => match k with
  | _ => ("", "", "", false)
def tyJ6 : Nat → FieldType := fun k => match k with
  | _ => .int
abbrev wsJ60 : List Cond := u_ws RJ6 TJ6 0
theorem nmJ6 : ∀ a, a < 0 → ∀ b, b < 0 → a ≠ b → (TJ6 a).2.1 ≠ (TJ6 b).2.1 := by decide +kernel
theorem tyJ6_ok : ∀ k, k < 0 → parseFieldDescriptor (TJ6 k).2.2.1 = some (tyJ6 k) := by decide +kernel
abbrev cJ6_bitCount_0f7a4 : ByteArray := prog_17_method_49_code
def yJ6_bitCount_0f7a4 : MethodName := ⟨RJ6, "bitCount", "(I)I"⟩
def RJ13 : String := "java/lang/Long"
def TJ13 : u_T := fun k => match k with
  | _ => ("", "", "", false)
def tyJ13 : Nat → FieldType := fun k => match k with
  | _ => .int
abbrev wsJ130 : List Cond := u_ws RJ13 TJ13 0
theorem nmJ13 : ∀ a, a < 0 → ∀ b, b < 0 → a ≠ b → (TJ13 a).2.1 ≠ (TJ13 b).2.1 := by decide +kernel
theorem tyJ13_ok : ∀ k, k < 0 → parseFieldDescriptor (TJ13 k).2.2.1 = some (tyJ13 k) := by decide +kernel
abbrev cJ13_bitCount_95d88 : ByteArray := prog_18_method_50_code
def yJ13_bitCount_95d88 : MethodName := ⟨RJ13, "bitCount", "(J)I"⟩
def RJ9 : String := "java/lang/Math"
def TJ9 : u_T := fun k => match k with
  | _ => ("", "", "", false)
def tyJ9 : Nat → FieldType := fun k => match k with
  | _ => .int
abbrev wsJ90 : List Cond := u_ws RJ9 TJ9 0
theorem nmJ9 : ∀ a, a < 0 → ∀ b, b < 0 → a ≠ b → (TJ9 a).2.1 ≠ (TJ9 b).2.1 := by decide +kernel
theorem tyJ9_ok : ∀ k, k < 0 → parseFieldDescriptor (TJ9 k).2.2.1 = some (tyJ9 k) := by decide +kernel
abbrev cJ9_max_7cf53 : ByteArray := prog_19_method_65_code
def yJ9_max_7cf53 : MethodName := ⟨RJ9, "max", "(II)I"⟩
abbrev cJ9_min_7cf53 : ByteArray := prog_19_method_69_code
def yJ9_min_7cf53 : MethodName := ⟨RJ9, "min", "(II)I"⟩
def RJ0 : String := "java/lang/String"
def TJ0 : u_T := fun k => match k with
  | _ => ("", "", "", false)
def tyJ0 : Nat → FieldType := fun k => match k with
  | _ => .int
abbrev wsJ00 : List Cond := u_ws RJ0 TJ0 0
theorem nmJ0 : ∀ a, a < 0 → ∀ b, b < 0 → a ≠ b → (TJ0 a).2.1 ≠ (TJ0 b).2.1 := by decide +kernel
theorem tyJ0_ok : ∀ k, k < 0 → parseFieldDescriptor (TJ0 k).2.2.1 = some (tyJ0 k) := by decide +kernel
abbrev cJ0_length_8abf5 : ByteArray := prog_20_method_54_code
def yJ0_length_8abf5 : MethodName := ⟨RJ0, "length", "()I"⟩
abbrev cJ0_charAt_5068e : ByteArray := prog_20_method_56_code
def yJ0_charAt_5068e : MethodName := ⟨RJ0, "charAt", "(I)C"⟩
abbrev cJ0_indexOf_0f7a4 : ByteArray := prog_20_method_79_code
def yJ0_indexOf_0f7a4 : MethodName := ⟨RJ0, "indexOf", "(I)I"⟩
abbrev cJ0_indexOf_7cf53 : ByteArray := prog_20_method_80_code
def yJ0_indexOf_7cf53 : MethodName := ⟨RJ0, "indexOf", "(II)I"⟩
abbrev cJ0_coder_7d493 : ByteArray := prog_20_method_152_code
def yJ0_coder_7d493 : MethodName := ⟨RJ0, "coder", "()B"⟩
abbrev cJ0_isLatin1_aae02 : ByteArray := prog_20_method_154_code
def yJ0_isLatin1_aae02 : MethodName := ⟨RJ0, "isLatin1", "()Z"⟩
abbrev cJ0_checkIndex_df160 : ByteArray := prog_20_method_155_code
def yJ0_checkIndex_df160 : MethodName := ⟨RJ0, "checkIndex", "(II)V"⟩
abbrev cJ0_checkBoundsBeginEnd_23922 : ByteArray := prog_20_method_158_code
def yJ0_checkBoundsBeginEnd_23922 : MethodName := ⟨RJ0, "checkBoundsBeginEnd", "(III)V"⟩
def RJ1 : String := "java/lang/StringLatin1"
def TJ1 : u_T := fun k => match k with
  | _ => ("", "", "", false)
def tyJ1 : Nat → FieldType := fun k => match k with
  | _ => .int
abbrev wsJ10 : List Cond := u_ws RJ1 TJ1 0
theorem nmJ1 : ∀ a, a < 0 → ∀ b, b < 0 → a ≠ b → (TJ1 a).2.1 ≠ (TJ1 b).2.1 := by decide +kernel
theorem tyJ1_ok : ∀ k, k < 0 → parseFieldDescriptor (TJ1 k).2.2.1 = some (tyJ1 k) := by decide +kernel
abbrev cJ1_charAt_3b067 : ByteArray := prog_21_method_2_code
def yJ1_charAt_3b067 : MethodName := ⟨RJ1, "charAt", "([BI)C"⟩
abbrev cJ1_canEncode_9a6ad : ByteArray := prog_21_method_4_code
def yJ1_canEncode_9a6ad : MethodName := ⟨RJ1, "canEncode", "(I)Z"⟩
abbrev cJ1_indexOf_4cfef : ByteArray := prog_21_method_22_code
def yJ1_indexOf_4cfef : MethodName := ⟨RJ1, "indexOf", "([BIII)I"⟩
abbrev cJ1_indexOfChar_4cfef : ByteArray := prog_21_method_23_code
def yJ1_indexOfChar_4cfef : MethodName := ⟨RJ1, "indexOfChar", "([BIII)I"⟩
def RJ2 : String := "java/lang/StringUTF16"
def TJ2 : u_T := fun k => match k with
  | _ => ("", "", "", false)
def tyJ2 : Nat → FieldType := fun k => match k with
  | _ => .int
abbrev wsJ20 : List Cond := u_ws RJ2 TJ2 0
theorem nmJ2 : ∀ a, a < 0 → ∀ b, b < 0 → a ≠ b → (TJ2 a).2.1 ≠ (TJ2 b).2.1 := by decide +kernel
theorem tyJ2_ok : ∀ k, k < 0 → parseFieldDescriptor (TJ2 k).2.2.1 = some (tyJ2 k) := by decide +kernel
abbrev cJ2_getChar_3b067 : ByteArray := prog_22_method_5_code
def yJ2_getChar_3b067 : MethodName := ⟨RJ2, "getChar", "([BI)C"⟩
abbrev cJ2_length_9d52b : ByteArray := prog_22_method_6_code
def yJ2_length_9d52b : MethodName := ⟨RJ2, "length", "([B)I"⟩
abbrev cJ2_indexOf_4cfef : ByteArray := prog_22_method_40_code
def yJ2_indexOf_4cfef : MethodName := ⟨RJ2, "indexOf", "([BIII)I"⟩
abbrev cJ2_indexOfChar_4cfef : ByteArray := prog_22_method_47_code
def yJ2_indexOfChar_4cfef : MethodName := ⟨RJ2, "indexOfChar", "([BIII)I"⟩
abbrev cJ2_indexOfCharUnsafe_4cfef : ByteArray := prog_22_method_48_code
def yJ2_indexOfCharUnsafe_4cfef : MethodName := ⟨RJ2, "indexOfCharUnsafe", "([BIII)I"⟩
abbrev cJ2_indexOfSupplementary_4cfef : ByteArray := prog_22_method_49_code
def yJ2_indexOfSupplementary_4cfef : MethodName := ⟨RJ2, "indexOfSupplementary", "([BIII)I"⟩
abbrev cJ2_charAt_3b067 : ByteArray := prog_22_method_83_code
def yJ2_charAt_3b067 : MethodName := ⟨RJ2, "charAt", "([BI)C"⟩
abbrev cJ2_checkIndex_2214a : ByteArray := prog_22_method_91_code
def yJ2_checkIndex_2214a : MethodName := ⟨RJ2, "checkIndex", "(I[B)V"⟩
abbrev cJ2_checkBoundsBeginEnd_d044e : ByteArray := prog_22_method_93_code
def yJ2_checkBoundsBeginEnd_d044e : MethodName := ⟨RJ2, "checkBoundsBeginEnd", "(II[B)V"⟩
def RJ10 : String := "java/lang/System"
def TJ10 : u_T := fun k => match k with
  | _ => ("", "", "", false)
def tyJ10 : Nat → FieldType := fun k => match k with
  | _ => .int
abbrev wsJ100 : List Cond := u_ws RJ10 TJ10 0
theorem nmJ10 : ∀ a, a < 0 → ∀ b, b < 0 → a ≠ b → (TJ10 a).2.1 ≠ (TJ10 b).2.1 := by decide +kernel
theorem tyJ10_ok : ∀ k, k < 0 → parseFieldDescriptor (TJ10 k).2.2.1 = some (tyJ10 k) := by decide +kernel
def RJxfd54e : String := "java/lang/constant/Constable"
def TJxfd54e : u_T := fun k => match k with
  | _ => ("", "", "", false)
def tyJxfd54e : Nat → FieldType := fun k => match k with
  | _ => .int
abbrev wsJxfd54e0 : List Cond := u_ws RJxfd54e TJxfd54e 0
theorem nmJxfd54e : ∀ a, a < 0 → ∀ b, b < 0 → a ≠ b → (TJxfd54e a).2.1 ≠ (TJxfd54e b).2.1 := by decide +kernel
theorem tyJxfd54e_ok : ∀ k, k < 0 → parseFieldDescriptor (TJxfd54e k).2.2.1 = some (tyJxfd54e k) := by decide +kernel
def RJx3cf43 : String := "java/lang/constant/ConstantDesc"
def TJx3cf43 : u_T := fun k => match k with
  | _ => ("", "", "", false)
def tyJx3cf43 : Nat → FieldType := fun k => match k with
  | _ => .int
abbrev wsJx3cf430 : List Cond := u_ws RJx3cf43 TJx3cf43 0
theorem nmJx3cf43 : ∀ a, a < 0 → ∀ b, b < 0 → a ≠ b → (TJx3cf43 a).2.1 ≠ (TJx3cf43 b).2.1 := by decide +kernel
theorem tyJx3cf43_ok : ∀ k, k < 0 → parseFieldDescriptor (TJx3cf43 k).2.2.1 = some (tyJx3cf43 k) := by decide +kernel
def RJ7 : String := "java/util/Arrays"
def TJ7 : u_T := fun k => match k with
  | _ => ("", "", "", false)
def tyJ7 : Nat → FieldType := fun k => match k with
  | _ => .int
abbrev wsJ70 : List Cond := u_ws RJ7 TJ7 0
theorem nmJ7 : ∀ a, a < 0 → ∀ b, b < 0 → a ≠ b → (TJ7 a).2.1 ≠ (TJ7 b).2.1 := by decide +kernel
theorem tyJ7_ok : ∀ k, k < 0 → parseFieldDescriptor (TJ7 k).2.2.1 = some (tyJ7 k) := by decide +kernel
abbrev cJ7_fill_d0a16 : ByteArray := prog_24_method_101_code
def yJ7_fill_d0a16 : MethodName := ⟨RJ7, "fill", "([JJ)V"⟩
abbrev cJ7_fill_53178 : ByteArray := prog_24_method_103_code
def yJ7_fill_53178 : MethodName := ⟨RJ7, "fill", "([II)V"⟩
abbrev cJ7_fill_031fb : ByteArray := prog_24_method_109_code
def yJ7_fill_031fb : MethodName := ⟨RJ7, "fill", "([BB)V"⟩
abbrev cJ7_copyOf_c38d5 : ByteArray := prog_24_method_124_code
def yJ7_copyOf_c38d5 : MethodName := ⟨RJ7, "copyOf", "([JI)[J"⟩
def RJ3 : String := "jdk/internal/util/Preconditions"
def TJ3 : u_T := fun k => match k with
  | _ => ("", "", "", false)
def tyJ3 : Nat → FieldType := fun k => match k with
  | _ => .int
abbrev wsJ30 : List Cond := u_ws RJ3 TJ3 0
theorem nmJ3 : ∀ a, a < 0 → ∀ b, b < 0 → a ≠ b → (TJ3 a).2.1 ≠ (TJ3 b).2.1 := by decide +kernel
theorem tyJ3_ok : ∀ k, k < 0 → parseFieldDescriptor (TJ3 k).2.2.1 = some (tyJ3 k) := by decide +kernel
abbrev cJ3_checkIndex_8e157 : ByteArray := prog_25_method_11_code
def yJ3_checkIndex_8e157 : MethodName := ⟨RJ3, "checkIndex", "(IILjava/util/function/BiFunction;)I"⟩
abbrev cJ3_checkFromToIndex_8c36e : ByteArray := prog_25_method_12_code
def yJ3_checkFromToIndex_8c36e : MethodName := ⟨RJ3, "checkFromToIndex", "(IIILjava/util/function/BiFunction;)I"⟩
def RL : String := "RelayHutLaw"
abbrev cL_law : ByteArray := code
def yL_law : MethodName := ⟨RL, "law", "([I)Z"⟩
