section
-- ===== PART A: goes FIRST, ahead of the names: the tables' words, and 'selects' of the private methods out of them =====
/-- a private method of a class that the tables say can be made, by its rows of tables_1 -/
def lw_okq (q : MethodName × Nat) : Prop := (q.1.cls ≠ "java/lang/invoke/MethodHandle" ∧ q.1.cls ≠ "java/lang/invoke/VarHandle") ∧ Cond.instantiable q.1.cls q.2 ∈ tables_1 ∧ Cond.privateMethod q.1 ∈ tables_1 ∧ Cond.instanceMethod q.1 ∈ tables_1
theorem lw_p0 : lw_okq (⟨"DonkeysHour", "readLines", "()I"⟩, 15) := ⟨⟨by decide +kernel, by decide +kernel⟩, List.mem_of_getElem? (i := 27) (by decide +kernel), List.mem_of_getElem? (i := 404) (by decide +kernel), List.mem_of_getElem? (i := 405) (by decide +kernel)⟩
theorem lw_p1 : lw_okq (⟨"DonkeysHour", "readLine", "(LDonkeysHour$Beast;)Z"⟩, 15) := ⟨⟨by decide +kernel, by decide +kernel⟩, List.mem_of_getElem? (i := 27) (by decide +kernel), List.mem_of_getElem? (i := 408) (by decide +kernel), List.mem_of_getElem? (i := 409) (by decide +kernel)⟩
theorem lw_p2 : lw_okq (⟨"DonkeysHour$Rule", "readThing", "(LDonkeysHour$Text;)Z"⟩, 6) := ⟨⟨by decide +kernel, by decide +kernel⟩, List.mem_of_getElem? (i := 158) (by decide +kernel), List.mem_of_getElem? (i := 469) (by decide +kernel), List.mem_of_getElem? (i := 470) (by decide +kernel)⟩
theorem lw_p3 : lw_okq (⟨"DonkeysHour$Rule", "readAhead", "(LDonkeysHour$Text;)V"⟩, 6) := ⟨⟨by decide +kernel, by decide +kernel⟩, List.mem_of_getElem? (i := 158) (by decide +kernel), List.mem_of_getElem? (i := 473) (by decide +kernel), List.mem_of_getElem? (i := 474) (by decide +kernel)⟩
theorem lw_p4 : lw_okq (⟨"DonkeysHour$Rule", "push", "(I)V"⟩, 6) := ⟨⟨by decide +kernel, by decide +kernel⟩, List.mem_of_getElem? (i := 158) (by decide +kernel), List.mem_of_getElem? (i := 478) (by decide +kernel), List.mem_of_getElem? (i := 479) (by decide +kernel)⟩
theorem lw_p5 : lw_okq (⟨"DonkeysHour$Rule", "emit", "(I)V"⟩, 6) := ⟨⟨by decide +kernel, by decide +kernel⟩, List.mem_of_getElem? (i := 158) (by decide +kernel), List.mem_of_getElem? (i := 487) (by decide +kernel), List.mem_of_getElem? (i := 488) (by decide +kernel)⟩
theorem lw_p6 : lw_okq (⟨"DonkeysHour$Rule", "closeBrackets", "(LDonkeysHour$Text;)V"⟩, 6) := ⟨⟨by decide +kernel, by decide +kernel⟩, List.mem_of_getElem? (i := 158) (by decide +kernel), List.mem_of_getElem? (i := 577) (by decide +kernel), List.mem_of_getElem? (i := 578) (by decide +kernel)⟩
theorem lw_p7 : lw_okq (⟨"DonkeysHour$Rule", "unwind", "(I)V"⟩, 6) := ⟨⟨by decide +kernel, by decide +kernel⟩, List.mem_of_getElem? (i := 158) (by decide +kernel), List.mem_of_getElem? (i := 581) (by decide +kernel), List.mem_of_getElem? (i := 582) (by decide +kernel)⟩
theorem lw_p8 : lw_okq (⟨"DonkeysHour$Rule", "waiting", "()I"⟩, 6) := ⟨⟨by decide +kernel, by decide +kernel⟩, List.mem_of_getElem? (i := 158) (by decide +kernel), List.mem_of_getElem? (i := 585) (by decide +kernel), List.mem_of_getElem? (i := 586) (by decide +kernel)⟩
theorem lw_p9 : lw_okq (⟨"DonkeysHour$Rule", "pop", "()I"⟩, 6) := ⟨⟨by decide +kernel, by decide +kernel⟩, List.mem_of_getElem? (i := 158) (by decide +kernel), List.mem_of_getElem? (i := 592) (by decide +kernel), List.mem_of_getElem? (i := 593) (by decide +kernel)⟩
theorem lw_p10 : lw_okq (⟨"DonkeysHour$Rule", "readOperator", "(LDonkeysHour$Text;)Z"⟩, 6) := ⟨⟨by decide +kernel, by decide +kernel⟩, List.mem_of_getElem? (i := 158) (by decide +kernel), List.mem_of_getElem? (i := 596) (by decide +kernel), List.mem_of_getElem? (i := 597) (by decide +kernel)⟩
theorem lw_p11 : lw_okq (⟨"DonkeysHour", "isPlace", "(II)Z"⟩, 15) := ⟨⟨by decide +kernel, by decide +kernel⟩, List.mem_of_getElem? (i := 27) (by decide +kernel), List.mem_of_getElem? (i := 613) (by decide +kernel), List.mem_of_getElem? (i := 614) (by decide +kernel)⟩
theorem lw_p12 : lw_okq (⟨"DonkeysHour", "isDonkey", "(I)Z"⟩, 15) := ⟨⟨by decide +kernel, by decide +kernel⟩, List.mem_of_getElem? (i := 27) (by decide +kernel), List.mem_of_getElem? (i := 617) (by decide +kernel), List.mem_of_getElem? (i := 618) (by decide +kernel)⟩
theorem lw_p13 : lw_okq (⟨"DonkeysHour", "setHunger", "(II)I"⟩, 15) := ⟨⟨by decide +kernel, by decide +kernel⟩, List.mem_of_getElem? (i := 27) (by decide +kernel), List.mem_of_getElem? (i := 637) (by decide +kernel), List.mem_of_getElem? (i := 638) (by decide +kernel)⟩
theorem lw_p14 : lw_okq (⟨"DonkeysHour", "pass", "()I"⟩, 15) := ⟨⟨by decide +kernel, by decide +kernel⟩, List.mem_of_getElem? (i := 27) (by decide +kernel), List.mem_of_getElem? (i := 711) (by decide +kernel), List.mem_of_getElem? (i := 712) (by decide +kernel)⟩
theorem lw_p15 : lw_okq (⟨"DonkeysHour", "paceNow", "(LDonkeysHour$Beast;I)I"⟩, 15) := ⟨⟨by decide +kernel, by decide +kernel⟩, List.mem_of_getElem? (i := 27) (by decide +kernel), List.mem_of_getElem? (i := 715) (by decide +kernel), List.mem_of_getElem? (i := 716) (by decide +kernel)⟩
def lw_privs_1 : List (MethodName × Nat) := [(⟨"DonkeysHour", "readLines", "()I"⟩, 15), (⟨"DonkeysHour", "readLine", "(LDonkeysHour$Beast;)Z"⟩, 15), (⟨"DonkeysHour$Rule", "readThing", "(LDonkeysHour$Text;)Z"⟩, 6), (⟨"DonkeysHour$Rule", "readAhead", "(LDonkeysHour$Text;)V"⟩, 6), (⟨"DonkeysHour$Rule", "push", "(I)V"⟩, 6), (⟨"DonkeysHour$Rule", "emit", "(I)V"⟩, 6), (⟨"DonkeysHour$Rule", "closeBrackets", "(LDonkeysHour$Text;)V"⟩, 6), (⟨"DonkeysHour$Rule", "unwind", "(I)V"⟩, 6), (⟨"DonkeysHour$Rule", "waiting", "()I"⟩, 6), (⟨"DonkeysHour$Rule", "pop", "()I"⟩, 6), (⟨"DonkeysHour$Rule", "readOperator", "(LDonkeysHour$Text;)Z"⟩, 6), (⟨"DonkeysHour", "isPlace", "(II)Z"⟩, 15), (⟨"DonkeysHour", "isDonkey", "(I)Z"⟩, 15), (⟨"DonkeysHour", "setHunger", "(II)I"⟩, 15), (⟨"DonkeysHour", "pass", "()I"⟩, 15), (⟨"DonkeysHour", "paceNow", "(LDonkeysHour$Beast;I)I"⟩, 15)]
theorem lw_r1 : ∀ q ∈ lw_privs_1, lw_okq q := List.forall_mem_cons.mpr ⟨lw_p0, List.forall_mem_cons.mpr ⟨lw_p1, List.forall_mem_cons.mpr ⟨lw_p2, List.forall_mem_cons.mpr ⟨lw_p3, List.forall_mem_cons.mpr ⟨lw_p4, List.forall_mem_cons.mpr ⟨lw_p5, List.forall_mem_cons.mpr ⟨lw_p6, List.forall_mem_cons.mpr ⟨lw_p7, List.forall_mem_cons.mpr ⟨lw_p8, List.forall_mem_cons.mpr ⟨lw_p9, List.forall_mem_cons.mpr ⟨lw_p10, List.forall_mem_cons.mpr ⟨lw_p11, List.forall_mem_cons.mpr ⟨lw_p12, List.forall_mem_cons.mpr ⟨lw_p13, List.forall_mem_cons.mpr ⟨lw_p14, List.forall_mem_cons.mpr ⟨lw_p15, fun _ h => absurd h List.not_mem_nil⟩⟩⟩⟩⟩⟩⟩⟩⟩⟩⟩⟩⟩⟩⟩⟩
theorem lw_p16 : lw_okq (⟨"DonkeysHour", "newRow", "()V"⟩, 15) := ⟨⟨by decide +kernel, by decide +kernel⟩, List.mem_of_getElem? (i := 27) (by decide +kernel), List.mem_of_getElem? (i := 753) (by decide +kernel), List.mem_of_getElem? (i := 754) (by decide +kernel)⟩
theorem lw_p17 : lw_okq (⟨"DonkeysHour", "tell", "(I)V"⟩, 15) := ⟨⟨by decide +kernel, by decide +kernel⟩, List.mem_of_getElem? (i := 27) (by decide +kernel), List.mem_of_getElem? (i := 757) (by decide +kernel), List.mem_of_getElem? (i := 758) (by decide +kernel)⟩
theorem lw_p18 : lw_okq (⟨"DonkeysHour", "passMany", "(I)V"⟩, 15) := ⟨⟨by decide +kernel, by decide +kernel⟩, List.mem_of_getElem? (i := 27) (by decide +kernel), List.mem_of_getElem? (i := 770) (by decide +kernel), List.mem_of_getElem? (i := 771) (by decide +kernel)⟩
theorem lw_p19 : lw_okq (⟨"DonkeysHour$Acts", "readAct", "(LDonkeysHour$Text;I)Z"⟩, 5) := ⟨⟨by decide +kernel, by decide +kernel⟩, List.mem_of_getElem? (i := 183) (by decide +kernel), List.mem_of_getElem? (i := 783) (by decide +kernel), List.mem_of_getElem? (i := 784) (by decide +kernel)⟩
theorem lw_p20 : lw_okq (⟨"DonkeysHour", "doAct", "(I)Z"⟩, 15) := ⟨⟨by decide +kernel, by decide +kernel⟩, List.mem_of_getElem? (i := 27) (by decide +kernel), List.mem_of_getElem? (i := 794) (by decide +kernel), List.mem_of_getElem? (i := 795) (by decide +kernel)⟩
theorem lw_p21 : lw_okq (⟨"DonkeysHour", "look", "(LDonkeysHour$Future;I)V"⟩, 15) := ⟨⟨by decide +kernel, by decide +kernel⟩, List.mem_of_getElem? (i := 27) (by decide +kernel), List.mem_of_getElem? (i := 828) (by decide +kernel), List.mem_of_getElem? (i := 829) (by decide +kernel)⟩
theorem lw_p22 : lw_okq (⟨"DonkeysHour$Future", "strokeMinute", "(I)I"⟩, 11) := ⟨⟨by decide +kernel, by decide +kernel⟩, List.mem_of_getElem? (i := 282) (by decide +kernel), List.mem_of_getElem? (i := 862) (by decide +kernel), List.mem_of_getElem? (i := 863) (by decide +kernel)⟩
theorem lw_p23 : lw_okq (⟨"DonkeysHour$Future", "isHour", "(II)Z"⟩, 11) := ⟨⟨by decide +kernel, by decide +kernel⟩, List.mem_of_getElem? (i := 282) (by decide +kernel), List.mem_of_getElem? (i := 913) (by decide +kernel), List.mem_of_getElem? (i := 914) (by decide +kernel)⟩
theorem lw_p24 : lw_okq (⟨"DonkeysHour", "countDue", "(I)V"⟩, 15) := ⟨⟨by decide +kernel, by decide +kernel⟩, List.mem_of_getElem? (i := 27) (by decide +kernel), List.mem_of_getElem? (i := 933) (by decide +kernel), List.mem_of_getElem? (i := 934) (by decide +kernel)⟩
theorem lw_p25 : lw_okq (⟨"DonkeysHour$Contracts", "sumOf", "([III)I"⟩, 7) := ⟨⟨by decide +kernel, by decide +kernel⟩, List.mem_of_getElem? (i := 210) (by decide +kernel), List.mem_of_getElem? (i := 941) (by decide +kernel), List.mem_of_getElem? (i := 942) (by decide +kernel)⟩
theorem lw_p26 : lw_okq (⟨"DonkeysHour", "waysWithLatest", "(I)I"⟩, 15) := ⟨⟨by decide +kernel, by decide +kernel⟩, List.mem_of_getElem? (i := 27) (by decide +kernel), List.mem_of_getElem? (i := 989) (by decide +kernel), List.mem_of_getElem? (i := 990) (by decide +kernel)⟩
theorem lw_p27 : lw_okq (⟨"DonkeysHour", "nextHour", "(I)I"⟩, 15) := ⟨⟨by decide +kernel, by decide +kernel⟩, List.mem_of_getElem? (i := 27) (by decide +kernel), List.mem_of_getElem? (i := 1001) (by decide +kernel), List.mem_of_getElem? (i := 1002) (by decide +kernel)⟩
theorem lw_p28 : lw_okq (⟨"DonkeysHour", "think", "(IIII)V"⟩, 15) := ⟨⟨by decide +kernel, by decide +kernel⟩, List.mem_of_getElem? (i := 27) (by decide +kernel), List.mem_of_getElem? (i := 1013) (by decide +kernel), List.mem_of_getElem? (i := 1014) (by decide +kernel)⟩
theorem lw_p29 : lw_okq (⟨"DonkeysHour", "bestOfBoy", "(IIIII)I"⟩, 15) := ⟨⟨by decide +kernel, by decide +kernel⟩, List.mem_of_getElem? (i := 27) (by decide +kernel), List.mem_of_getElem? (i := 1024) (by decide +kernel), List.mem_of_getElem? (i := 1025) (by decide +kernel)⟩
theorem lw_p30 : lw_okq (⟨"DonkeysHour", "hourOfBoys", "(IIII)I"⟩, 15) := ⟨⟨by decide +kernel, by decide +kernel⟩, List.mem_of_getElem? (i := 27) (by decide +kernel), List.mem_of_getElem? (i := 1028) (by decide +kernel), List.mem_of_getElem? (i := 1029) (by decide +kernel)⟩
theorem lw_p31 : lw_okq (⟨"DonkeysHour", "isWayHeard", "(III)Z"⟩, 15) := ⟨⟨by decide +kernel, by decide +kernel⟩, List.mem_of_getElem? (i := 27) (by decide +kernel), List.mem_of_getElem? (i := 1052) (by decide +kernel), List.mem_of_getElem? (i := 1053) (by decide +kernel)⟩
def lw_privs_2 : List (MethodName × Nat) := [(⟨"DonkeysHour", "newRow", "()V"⟩, 15), (⟨"DonkeysHour", "tell", "(I)V"⟩, 15), (⟨"DonkeysHour", "passMany", "(I)V"⟩, 15), (⟨"DonkeysHour$Acts", "readAct", "(LDonkeysHour$Text;I)Z"⟩, 5), (⟨"DonkeysHour", "doAct", "(I)Z"⟩, 15), (⟨"DonkeysHour", "look", "(LDonkeysHour$Future;I)V"⟩, 15), (⟨"DonkeysHour$Future", "strokeMinute", "(I)I"⟩, 11), (⟨"DonkeysHour$Future", "isHour", "(II)Z"⟩, 11), (⟨"DonkeysHour", "countDue", "(I)V"⟩, 15), (⟨"DonkeysHour$Contracts", "sumOf", "([III)I"⟩, 7), (⟨"DonkeysHour", "waysWithLatest", "(I)I"⟩, 15), (⟨"DonkeysHour", "nextHour", "(I)I"⟩, 15), (⟨"DonkeysHour", "think", "(IIII)V"⟩, 15), (⟨"DonkeysHour", "bestOfBoy", "(IIIII)I"⟩, 15), (⟨"DonkeysHour", "hourOfBoys", "(IIII)I"⟩, 15), (⟨"DonkeysHour", "isWayHeard", "(III)Z"⟩, 15)]
theorem lw_r2 : ∀ q ∈ lw_privs_2, lw_okq q := List.forall_mem_cons.mpr ⟨lw_p16, List.forall_mem_cons.mpr ⟨lw_p17, List.forall_mem_cons.mpr ⟨lw_p18, List.forall_mem_cons.mpr ⟨lw_p19, List.forall_mem_cons.mpr ⟨lw_p20, List.forall_mem_cons.mpr ⟨lw_p21, List.forall_mem_cons.mpr ⟨lw_p22, List.forall_mem_cons.mpr ⟨lw_p23, List.forall_mem_cons.mpr ⟨lw_p24, List.forall_mem_cons.mpr ⟨lw_p25, List.forall_mem_cons.mpr ⟨lw_p26, List.forall_mem_cons.mpr ⟨lw_p27, List.forall_mem_cons.mpr ⟨lw_p28, List.forall_mem_cons.mpr ⟨lw_p29, List.forall_mem_cons.mpr ⟨lw_p30, List.forall_mem_cons.mpr ⟨lw_p31, fun _ h => absurd h List.not_mem_nil⟩⟩⟩⟩⟩⟩⟩⟩⟩⟩⟩⟩⟩⟩⟩⟩
theorem lw_p32 : lw_okq (⟨"DonkeysHour", "areTwo", "(II)Z"⟩, 15) := ⟨⟨by decide +kernel, by decide +kernel⟩, List.mem_of_getElem? (i := 27) (by decide +kernel), List.mem_of_getElem? (i := 1081) (by decide +kernel), List.mem_of_getElem? (i := 1082) (by decide +kernel)⟩
theorem lw_p33 : lw_okq (⟨"DonkeysHour", "lookBoth", "(II)V"⟩, 15) := ⟨⟨by decide +kernel, by decide +kernel⟩, List.mem_of_getElem? (i := 27) (by decide +kernel), List.mem_of_getElem? (i := 1085) (by decide +kernel), List.mem_of_getElem? (i := 1086) (by decide +kernel)⟩
theorem lw_p34 : lw_okq (⟨"java/lang/Throwable", "fillInStackTrace", "(I)Ljava/lang/Throwable;"⟩, 6) := ⟨⟨by decide +kernel, by decide +kernel⟩, List.mem_of_getElem? (i := 1167) (by decide +kernel), List.mem_of_getElem? (i := 1165) (by decide +kernel), List.mem_of_getElem? (i := 1166) (by decide +kernel)⟩
theorem lw_p35 : lw_okq (⟨"DonkeysHourModel", "begin", "([BII)V"⟩, 55) := ⟨⟨by decide +kernel, by decide +kernel⟩, List.mem_of_getElem? (i := 1212) (by decide +kernel), List.mem_of_getElem? (i := 1404) (by decide +kernel), List.mem_of_getElem? (i := 1405) (by decide +kernel)⟩
theorem lw_p36 : lw_okq (⟨"DonkeysHourModel", "fine", "()Z"⟩, 55) := ⟨⟨by decide +kernel, by decide +kernel⟩, List.mem_of_getElem? (i := 1212) (by decide +kernel), List.mem_of_getElem? (i := 1408) (by decide +kernel), List.mem_of_getElem? (i := 1409) (by decide +kernel)⟩
theorem lw_p37 : lw_okq (⟨"DonkeysHourModel", "fault", "(I)V"⟩, 55) := ⟨⟨by decide +kernel, by decide +kernel⟩, List.mem_of_getElem? (i := 1212) (by decide +kernel), List.mem_of_getElem? (i := 1412) (by decide +kernel), List.mem_of_getElem? (i := 1413) (by decide +kernel)⟩
theorem lw_p38 : lw_okq (⟨"DonkeysHourModel", "readDonkey", "(I)V"⟩, 55) := ⟨⟨by decide +kernel, by decide +kernel⟩, List.mem_of_getElem? (i := 1212) (by decide +kernel), List.mem_of_getElem? (i := 1416) (by decide +kernel), List.mem_of_getElem? (i := 1417) (by decide +kernel)⟩
theorem lw_p39 : lw_okq (⟨"DonkeysHourModel", "number", "(I)I"⟩, 55) := ⟨⟨by decide +kernel, by decide +kernel⟩, List.mem_of_getElem? (i := 1212) (by decide +kernel), List.mem_of_getElem? (i := 1420) (by decide +kernel), List.mem_of_getElem? (i := 1421) (by decide +kernel)⟩
theorem lw_p40 : lw_okq (⟨"DonkeysHourModel", "here", "()I"⟩, 55) := ⟨⟨by decide +kernel, by decide +kernel⟩, List.mem_of_getElem? (i := 1212) (by decide +kernel), List.mem_of_getElem? (i := 1424) (by decide +kernel), List.mem_of_getElem? (i := 1425) (by decide +kernel)⟩
theorem lw_p41 : lw_okq (⟨"DonkeysHourModel", "need", "(C)V"⟩, 55) := ⟨⟨by decide +kernel, by decide +kernel⟩, List.mem_of_getElem? (i := 1212) (by decide +kernel), List.mem_of_getElem? (i := 1428) (by decide +kernel), List.mem_of_getElem? (i := 1429) (by decide +kernel)⟩
theorem lw_p42 : lw_okq (⟨"DonkeysHourModel", "passes", "(C)Z"⟩, 55) := ⟨⟨by decide +kernel, by decide +kernel⟩, List.mem_of_getElem? (i := 1212) (by decide +kernel), List.mem_of_getElem? (i := 1432) (by decide +kernel), List.mem_of_getElem? (i := 1433) (by decide +kernel)⟩
theorem lw_p43 : lw_okq (⟨"DonkeysHourModel", "held", "(I)I"⟩, 55) := ⟨⟨by decide +kernel, by decide +kernel⟩, List.mem_of_getElem? (i := 1212) (by decide +kernel), List.mem_of_getElem? (i := 1444) (by decide +kernel), List.mem_of_getElem? (i := 1445) (by decide +kernel)⟩
theorem lw_p44 : lw_okq (⟨"DonkeysHourModel", "sum", "(I)I"⟩, 55) := ⟨⟨by decide +kernel, by decide +kernel⟩, List.mem_of_getElem? (i := 1212) (by decide +kernel), List.mem_of_getElem? (i := 1448) (by decide +kernel), List.mem_of_getElem? (i := 1449) (by decide +kernel)⟩
theorem lw_p45 : lw_okq (⟨"DonkeysHourModel", "product", "(I)I"⟩, 55) := ⟨⟨by decide +kernel, by decide +kernel⟩, List.mem_of_getElem? (i := 1212) (by decide +kernel), List.mem_of_getElem? (i := 1452) (by decide +kernel), List.mem_of_getElem? (i := 1453) (by decide +kernel)⟩
theorem lw_p46 : lw_okq (⟨"DonkeysHourModel", "thing", "(I)I"⟩, 55) := ⟨⟨by decide +kernel, by decide +kernel⟩, List.mem_of_getElem? (i := 1212) (by decide +kernel), List.mem_of_getElem? (i := 1456) (by decide +kernel), List.mem_of_getElem? (i := 1457) (by decide +kernel)⟩
theorem lw_p47 : lw_okq (⟨"DonkeysHourModel", "letter", "(I[II)I"⟩, 55) := ⟨⟨by decide +kernel, by decide +kernel⟩, List.mem_of_getElem? (i := 1212) (by decide +kernel), List.mem_of_getElem? (i := 1460) (by decide +kernel), List.mem_of_getElem? (i := 1461) (by decide +kernel)⟩
def lw_privs_3 : List (MethodName × Nat) := [(⟨"DonkeysHour", "areTwo", "(II)Z"⟩, 15), (⟨"DonkeysHour", "lookBoth", "(II)V"⟩, 15), (⟨"java/lang/Throwable", "fillInStackTrace", "(I)Ljava/lang/Throwable;"⟩, 6), (⟨"DonkeysHourModel", "begin", "([BII)V"⟩, 55), (⟨"DonkeysHourModel", "fine", "()Z"⟩, 55), (⟨"DonkeysHourModel", "fault", "(I)V"⟩, 55), (⟨"DonkeysHourModel", "readDonkey", "(I)V"⟩, 55), (⟨"DonkeysHourModel", "number", "(I)I"⟩, 55), (⟨"DonkeysHourModel", "here", "()I"⟩, 55), (⟨"DonkeysHourModel", "need", "(C)V"⟩, 55), (⟨"DonkeysHourModel", "passes", "(C)Z"⟩, 55), (⟨"DonkeysHourModel", "held", "(I)I"⟩, 55), (⟨"DonkeysHourModel", "sum", "(I)I"⟩, 55), (⟨"DonkeysHourModel", "product", "(I)I"⟩, 55), (⟨"DonkeysHourModel", "thing", "(I)I"⟩, 55), (⟨"DonkeysHourModel", "letter", "(I[II)I"⟩, 55)]
theorem lw_r3 : ∀ q ∈ lw_privs_3, lw_okq q := List.forall_mem_cons.mpr ⟨lw_p32, List.forall_mem_cons.mpr ⟨lw_p33, List.forall_mem_cons.mpr ⟨lw_p34, List.forall_mem_cons.mpr ⟨lw_p35, List.forall_mem_cons.mpr ⟨lw_p36, List.forall_mem_cons.mpr ⟨lw_p37, List.forall_mem_cons.mpr ⟨lw_p38, List.forall_mem_cons.mpr ⟨lw_p39, List.forall_mem_cons.mpr ⟨lw_p40, List.forall_mem_cons.mpr ⟨lw_p41, List.forall_mem_cons.mpr ⟨lw_p42, List.forall_mem_cons.mpr ⟨lw_p43, List.forall_mem_cons.mpr ⟨lw_p44, List.forall_mem_cons.mpr ⟨lw_p45, List.forall_mem_cons.mpr ⟨lw_p46, List.forall_mem_cons.mpr ⟨lw_p47, fun _ h => absurd h List.not_mem_nil⟩⟩⟩⟩⟩⟩⟩⟩⟩⟩⟩⟩⟩⟩⟩⟩
theorem lw_p48 : lw_okq (⟨"DonkeysHourModel", "fliesIn", "(I)I"⟩, 55) := ⟨⟨by decide +kernel, by decide +kernel⟩, List.mem_of_getElem? (i := 1212) (by decide +kernel), List.mem_of_getElem? (i := 1464) (by decide +kernel), List.mem_of_getElem? (i := 1465) (by decide +kernel)⟩
theorem lw_p49 : lw_okq (⟨"DonkeysHourModel", "hurry", "(II)I"⟩, 55) := ⟨⟨by decide +kernel, by decide +kernel⟩, List.mem_of_getElem? (i := 1212) (by decide +kernel), List.mem_of_getElem? (i := 1468) (by decide +kernel), List.mem_of_getElem? (i := 1469) (by decide +kernel)⟩
theorem lw_p50 : lw_okq (⟨"DonkeysHourModel", "isDonkey", "(I)Z"⟩, 55) := ⟨⟨by decide +kernel, by decide +kernel⟩, List.mem_of_getElem? (i := 1212) (by decide +kernel), List.mem_of_getElem? (i := 1476) (by decide +kernel), List.mem_of_getElem? (i := 1477) (by decide +kernel)⟩
theorem lw_p51 : lw_okq (⟨"DonkeysHourModel", "lost", "()I"⟩, 55) := ⟨⟨by decide +kernel, by decide +kernel⟩, List.mem_of_getElem? (i := 1212) (by decide +kernel), List.mem_of_getElem? (i := 1480) (by decide +kernel), List.mem_of_getElem? (i := 1481) (by decide +kernel)⟩
theorem lw_p52 : lw_okq (⟨"DonkeysHourModel", "pace", "([II)I"⟩, 55) := ⟨⟨by decide +kernel, by decide +kernel⟩, List.mem_of_getElem? (i := 1212) (by decide +kernel), List.mem_of_getElem? (i := 1487) (by decide +kernel), List.mem_of_getElem? (i := 1488) (by decide +kernel)⟩
theorem lw_p53 : lw_okq (⟨"DonkeysHourModel", "isPlace", "(II)Z"⟩, 55) := ⟨⟨by decide +kernel, by decide +kernel⟩, List.mem_of_getElem? (i := 1212) (by decide +kernel), List.mem_of_getElem? (i := 1497) (by decide +kernel), List.mem_of_getElem? (i := 1498) (by decide +kernel)⟩
theorem lw_p54 : lw_okq (⟨"DonkeysHourModel", "layCarrot", "(IIIII)V"⟩, 55) := ⟨⟨by decide +kernel, by decide +kernel⟩, List.mem_of_getElem? (i := 1212) (by decide +kernel), List.mem_of_getElem? (i := 1517) (by decide +kernel), List.mem_of_getElem? (i := 1518) (by decide +kernel)⟩
theorem lw_p55 : lw_okq (⟨"DonkeysHourModel", "layAside", "(Z)V"⟩, 55) := ⟨⟨by decide +kernel, by decide +kernel⟩, List.mem_of_getElem? (i := 1212) (by decide +kernel), List.mem_of_getElem? (i := 1529) (by decide +kernel), List.mem_of_getElem? (i := 1530) (by decide +kernel)⟩
theorem lw_p56 : lw_okq (⟨"DonkeysHourModel", "layAll", "([II)V"⟩, 55) := ⟨⟨by decide +kernel, by decide +kernel⟩, List.mem_of_getElem? (i := 1212) (by decide +kernel), List.mem_of_getElem? (i := 1533) (by decide +kernel), List.mem_of_getElem? (i := 1534) (by decide +kernel)⟩
theorem lw_p57 : lw_okq (⟨"DonkeysHourModel", "remember", "()V"⟩, 55) := ⟨⟨by decide +kernel, by decide +kernel⟩, List.mem_of_getElem? (i := 1212) (by decide +kernel), List.mem_of_getElem? (i := 1537) (by decide +kernel), List.mem_of_getElem? (i := 1538) (by decide +kernel)⟩
theorem lw_p58 : lw_okq (⟨"DonkeysHourModel", "goMinute", "([I)V"⟩, 55) := ⟨⟨by decide +kernel, by decide +kernel⟩, List.mem_of_getElem? (i := 1212) (by decide +kernel), List.mem_of_getElem? (i := 1541) (by decide +kernel), List.mem_of_getElem? (i := 1542) (by decide +kernel)⟩
theorem lw_p59 : lw_okq (⟨"DonkeysHourModel", "goSteps", "([III)V"⟩, 55) := ⟨⟨by decide +kernel, by decide +kernel⟩, List.mem_of_getElem? (i := 1212) (by decide +kernel), List.mem_of_getElem? (i := 1545) (by decide +kernel), List.mem_of_getElem? (i := 1546) (by decide +kernel)⟩
theorem lw_p60 : lw_okq (⟨"DonkeysHourModel", "tell", "(I)V"⟩, 55) := ⟨⟨by decide +kernel, by decide +kernel⟩, List.mem_of_getElem? (i := 1212) (by decide +kernel), List.mem_of_getElem? (i := 1549) (by decide +kernel), List.mem_of_getElem? (i := 1550) (by decide +kernel)⟩
theorem lw_p61 : lw_okq (⟨"DonkeysHourModel", "readAct", "(I)V"⟩, 55) := ⟨⟨by decide +kernel, by decide +kernel⟩, List.mem_of_getElem? (i := 1212) (by decide +kernel), List.mem_of_getElem? (i := 1567) (by decide +kernel), List.mem_of_getElem? (i := 1568) (by decide +kernel)⟩
theorem lw_p62 : lw_okq (⟨"DonkeysHourModel", "act", "(I)Z"⟩, 55) := ⟨⟨by decide +kernel, by decide +kernel⟩, List.mem_of_getElem? (i := 1212) (by decide +kernel), List.mem_of_getElem? (i := 1571) (by decide +kernel), List.mem_of_getElem? (i := 1572) (by decide +kernel)⟩
theorem lw_p63 : lw_okq (⟨"DonkeysHourModel", "takeCarrots", "([II)V"⟩, 55) := ⟨⟨by decide +kernel, by decide +kernel⟩, List.mem_of_getElem? (i := 1212) (by decide +kernel), List.mem_of_getElem? (i := 1582) (by decide +kernel), List.mem_of_getElem? (i := 1583) (by decide +kernel)⟩
def lw_privs_4 : List (MethodName × Nat) := [(⟨"DonkeysHourModel", "fliesIn", "(I)I"⟩, 55), (⟨"DonkeysHourModel", "hurry", "(II)I"⟩, 55), (⟨"DonkeysHourModel", "isDonkey", "(I)Z"⟩, 55), (⟨"DonkeysHourModel", "lost", "()I"⟩, 55), (⟨"DonkeysHourModel", "pace", "([II)I"⟩, 55), (⟨"DonkeysHourModel", "isPlace", "(II)Z"⟩, 55), (⟨"DonkeysHourModel", "layCarrot", "(IIIII)V"⟩, 55), (⟨"DonkeysHourModel", "layAside", "(Z)V"⟩, 55), (⟨"DonkeysHourModel", "layAll", "([II)V"⟩, 55), (⟨"DonkeysHourModel", "remember", "()V"⟩, 55), (⟨"DonkeysHourModel", "goMinute", "([I)V"⟩, 55), (⟨"DonkeysHourModel", "goSteps", "([III)V"⟩, 55), (⟨"DonkeysHourModel", "tell", "(I)V"⟩, 55), (⟨"DonkeysHourModel", "readAct", "(I)V"⟩, 55), (⟨"DonkeysHourModel", "act", "(I)Z"⟩, 55), (⟨"DonkeysHourModel", "takeCarrots", "([II)V"⟩, 55)]
theorem lw_r4 : ∀ q ∈ lw_privs_4, lw_okq q := List.forall_mem_cons.mpr ⟨lw_p48, List.forall_mem_cons.mpr ⟨lw_p49, List.forall_mem_cons.mpr ⟨lw_p50, List.forall_mem_cons.mpr ⟨lw_p51, List.forall_mem_cons.mpr ⟨lw_p52, List.forall_mem_cons.mpr ⟨lw_p53, List.forall_mem_cons.mpr ⟨lw_p54, List.forall_mem_cons.mpr ⟨lw_p55, List.forall_mem_cons.mpr ⟨lw_p56, List.forall_mem_cons.mpr ⟨lw_p57, List.forall_mem_cons.mpr ⟨lw_p58, List.forall_mem_cons.mpr ⟨lw_p59, List.forall_mem_cons.mpr ⟨lw_p60, List.forall_mem_cons.mpr ⟨lw_p61, List.forall_mem_cons.mpr ⟨lw_p62, List.forall_mem_cons.mpr ⟨lw_p63, fun _ h => absurd h List.not_mem_nil⟩⟩⟩⟩⟩⟩⟩⟩⟩⟩⟩⟩⟩⟩⟩⟩
theorem lw_p64 : lw_okq (⟨"DonkeysHourModel", "line", "(II)I"⟩, 55) := ⟨⟨by decide +kernel, by decide +kernel⟩, List.mem_of_getElem? (i := 1212) (by decide +kernel), List.mem_of_getElem? (i := 1590) (by decide +kernel), List.mem_of_getElem? (i := 1591) (by decide +kernel)⟩
theorem lw_p65 : lw_okq (⟨"DonkeysHourModel", "strokes", "(I)I"⟩, 55) := ⟨⟨by decide +kernel, by decide +kernel⟩, List.mem_of_getElem? (i := 1212) (by decide +kernel), List.mem_of_getElem? (i := 1594) (by decide +kernel), List.mem_of_getElem? (i := 1595) (by decide +kernel)⟩
theorem lw_p66 : lw_okq (⟨"DonkeysHourModel", "beginThen", "()V"⟩, 55) := ⟨⟨by decide +kernel, by decide +kernel⟩, List.mem_of_getElem? (i := 1212) (by decide +kernel), List.mem_of_getElem? (i := 1610) (by decide +kernel), List.mem_of_getElem? (i := 1611) (by decide +kernel)⟩
theorem lw_p67 : lw_okq (⟨"DonkeysHourModel", "timesNow", "(I)V"⟩, 55) := ⟨⟨by decide +kernel, by decide +kernel⟩, List.mem_of_getElem? (i := 1212) (by decide +kernel), List.mem_of_getElem? (i := 1618) (by decide +kernel), List.mem_of_getElem? (i := 1619) (by decide +kernel)⟩
theorem lw_p68 : lw_okq (⟨"DonkeysHourModel", "findTimes", "(I)V"⟩, 55) := ⟨⟨by decide +kernel, by decide +kernel⟩, List.mem_of_getElem? (i := 1212) (by decide +kernel), List.mem_of_getElem? (i := 1622) (by decide +kernel), List.mem_of_getElem? (i := 1623) (by decide +kernel)⟩
theorem lw_p69 : lw_okq (⟨"DonkeysHourModel", "findHours", "(I)V"⟩, 55) := ⟨⟨by decide +kernel, by decide +kernel⟩, List.mem_of_getElem? (i := 1212) (by decide +kernel), List.mem_of_getElem? (i := 1656) (by decide +kernel), List.mem_of_getElem? (i := 1657) (by decide +kernel)⟩
theorem lw_p70 : lw_okq (⟨"DonkeysHourModel", "isDue", "(II)Z"⟩, 55) := ⟨⟨by decide +kernel, by decide +kernel⟩, List.mem_of_getElem? (i := 1212) (by decide +kernel), List.mem_of_getElem? (i := 1660) (by decide +kernel), List.mem_of_getElem? (i := 1661) (by decide +kernel)⟩
theorem lw_p71 : lw_okq (⟨"DonkeysHourModel", "frogsOf", "(III)I"⟩, 55) := ⟨⟨by decide +kernel, by decide +kernel⟩, List.mem_of_getElem? (i := 1212) (by decide +kernel), List.mem_of_getElem? (i := 1668) (by decide +kernel), List.mem_of_getElem? (i := 1669) (by decide +kernel)⟩
theorem lw_p72 : lw_okq (⟨"DonkeysHourModel", "netOf", "(II)I"⟩, 55) := ⟨⟨by decide +kernel, by decide +kernel⟩, List.mem_of_getElem? (i := 1212) (by decide +kernel), List.mem_of_getElem? (i := 1676) (by decide +kernel), List.mem_of_getElem? (i := 1677) (by decide +kernel)⟩
theorem lw_p73 : lw_okq (⟨"DonkeysHourModel", "latest", "(II)I"⟩, 55) := ⟨⟨by decide +kernel, by decide +kernel⟩, List.mem_of_getElem? (i := 1212) (by decide +kernel), List.mem_of_getElem? (i := 1690) (by decide +kernel), List.mem_of_getElem? (i := 1691) (by decide +kernel)⟩
theorem lw_p74 : lw_okq (⟨"DonkeysHourModel", "there", "(II)I"⟩, 55) := ⟨⟨by decide +kernel, by decide +kernel⟩, List.mem_of_getElem? (i := 1212) (by decide +kernel), List.mem_of_getElem? (i := 1694) (by decide +kernel), List.mem_of_getElem? (i := 1695) (by decide +kernel)⟩
theorem lw_p75 : lw_okq (⟨"DonkeysHourModel", "hour", "(I)I"⟩, 55) := ⟨⟨by decide +kernel, by decide +kernel⟩, List.mem_of_getElem? (i := 1212) (by decide +kernel), List.mem_of_getElem? (i := 1710) (by decide +kernel), List.mem_of_getElem? (i := 1711) (by decide +kernel)⟩
theorem lw_p76 : lw_okq (⟨"DonkeysHourModel", "think", "(IIIII)V"⟩, 55) := ⟨⟨by decide +kernel, by decide +kernel⟩, List.mem_of_getElem? (i := 1212) (by decide +kernel), List.mem_of_getElem? (i := 1714) (by decide +kernel), List.mem_of_getElem? (i := 1715) (by decide +kernel)⟩
theorem lw_p77 : lw_okq (⟨"DonkeysHourModel", "hourBy", "(II)I"⟩, 55) := ⟨⟨by decide +kernel, by decide +kernel⟩, List.mem_of_getElem? (i := 1212) (by decide +kernel), List.mem_of_getElem? (i := 1722) (by decide +kernel), List.mem_of_getElem? (i := 1723) (by decide +kernel)⟩
theorem lw_p78 : lw_okq (⟨"DonkeysHourModel", "isHeardWith", "(III)Z"⟩, 55) := ⟨⟨by decide +kernel, by decide +kernel⟩, List.mem_of_getElem? (i := 1212) (by decide +kernel), List.mem_of_getElem? (i := 1742) (by decide +kernel), List.mem_of_getElem? (i := 1743) (by decide +kernel)⟩
theorem lw_p79 : lw_okq (⟨"DonkeysHourModel", "isHeard", "(I)Z"⟩, 55) := ⟨⟨by decide +kernel, by decide +kernel⟩, List.mem_of_getElem? (i := 1212) (by decide +kernel), List.mem_of_getElem? (i := 1746) (by decide +kernel), List.mem_of_getElem? (i := 1747) (by decide +kernel)⟩
def lw_privs_5 : List (MethodName × Nat) := [(⟨"DonkeysHourModel", "line", "(II)I"⟩, 55), (⟨"DonkeysHourModel", "strokes", "(I)I"⟩, 55), (⟨"DonkeysHourModel", "beginThen", "()V"⟩, 55), (⟨"DonkeysHourModel", "timesNow", "(I)V"⟩, 55), (⟨"DonkeysHourModel", "findTimes", "(I)V"⟩, 55), (⟨"DonkeysHourModel", "findHours", "(I)V"⟩, 55), (⟨"DonkeysHourModel", "isDue", "(II)Z"⟩, 55), (⟨"DonkeysHourModel", "frogsOf", "(III)I"⟩, 55), (⟨"DonkeysHourModel", "netOf", "(II)I"⟩, 55), (⟨"DonkeysHourModel", "latest", "(II)I"⟩, 55), (⟨"DonkeysHourModel", "there", "(II)I"⟩, 55), (⟨"DonkeysHourModel", "hour", "(I)I"⟩, 55), (⟨"DonkeysHourModel", "think", "(IIIII)V"⟩, 55), (⟨"DonkeysHourModel", "hourBy", "(II)I"⟩, 55), (⟨"DonkeysHourModel", "isHeardWith", "(III)Z"⟩, 55), (⟨"DonkeysHourModel", "isHeard", "(I)Z"⟩, 55)]
theorem lw_r5 : ∀ q ∈ lw_privs_5, lw_okq q := List.forall_mem_cons.mpr ⟨lw_p64, List.forall_mem_cons.mpr ⟨lw_p65, List.forall_mem_cons.mpr ⟨lw_p66, List.forall_mem_cons.mpr ⟨lw_p67, List.forall_mem_cons.mpr ⟨lw_p68, List.forall_mem_cons.mpr ⟨lw_p69, List.forall_mem_cons.mpr ⟨lw_p70, List.forall_mem_cons.mpr ⟨lw_p71, List.forall_mem_cons.mpr ⟨lw_p72, List.forall_mem_cons.mpr ⟨lw_p73, List.forall_mem_cons.mpr ⟨lw_p74, List.forall_mem_cons.mpr ⟨lw_p75, List.forall_mem_cons.mpr ⟨lw_p76, List.forall_mem_cons.mpr ⟨lw_p77, List.forall_mem_cons.mpr ⟨lw_p78, List.forall_mem_cons.mpr ⟨lw_p79, fun _ h => absurd h List.not_mem_nil⟩⟩⟩⟩⟩⟩⟩⟩⟩⟩⟩⟩⟩⟩⟩⟩
theorem lw_p80 : lw_okq (⟨"DonkeysHourModel", "areTwo", "(II)Z"⟩, 55) := ⟨⟨by decide +kernel, by decide +kernel⟩, List.mem_of_getElem? (i := 1212) (by decide +kernel), List.mem_of_getElem? (i := 1766) (by decide +kernel), List.mem_of_getElem? (i := 1767) (by decide +kernel)⟩
theorem lw_p81 : lw_okq (⟨"DonkeysHourModel", "boils", "(I)I"⟩, 55) := ⟨⟨by decide +kernel, by decide +kernel⟩, List.mem_of_getElem? (i := 1212) (by decide +kernel), List.mem_of_getElem? (i := 1786) (by decide +kernel), List.mem_of_getElem? (i := 1787) (by decide +kernel)⟩
def lw_privs_6 : List (MethodName × Nat) := [(⟨"DonkeysHourModel", "areTwo", "(II)Z"⟩, 55), (⟨"DonkeysHourModel", "boils", "(I)I"⟩, 55)]
theorem lw_r6 : ∀ q ∈ lw_privs_6, lw_okq q := List.forall_mem_cons.mpr ⟨lw_p80, List.forall_mem_cons.mpr ⟨lw_p81, fun _ h => absurd h List.not_mem_nil⟩⟩
def lw_privs : List (MethodName × Nat) := lw_privs_1 ++ (lw_privs_2 ++ (lw_privs_3 ++ (lw_privs_4 ++ (lw_privs_5 ++ (lw_privs_6)))))
def lw_tbl : List Cond := k2_sels lw_privs ++ tables_1
theorem lw_privs_ok : ∀ q ∈ lw_privs, lw_okq q := by
  show ∀ q ∈ lw_privs_1 ++ (lw_privs_2 ++ (lw_privs_3 ++ (lw_privs_4 ++ (lw_privs_5 ++ (lw_privs_6))))), lw_okq q
  exact List.forall_mem_append.mpr ⟨lw_r1, List.forall_mem_append.mpr ⟨lw_r2, List.forall_mem_append.mpr ⟨lw_r3, List.forall_mem_append.mpr ⟨lw_r4, List.forall_mem_append.mpr ⟨lw_r5, lw_r6⟩⟩⟩⟩⟩
end
section
def RX0 : String := "DonkeysHour$Acts"
def TX0 : u_T := fun k => match k with
  | 0 => ("DonkeysHour$Acts", "kind", "[I", true)
  | 1 => ("DonkeysHour$Acts", "whose", "[I", true)
  | 2 => ("DonkeysHour$Acts", "where", "[I", true)
  | 3 => ("DonkeysHour$Acts", "value", "[I", true)
  | _ => ("DonkeysHour$Acts", "size", "I", false)
def tyX0 : Nat → FieldType := fun k => match k with
  | 0 => .array .int
  | 1 => .array .int
  | 2 => .array .int
  | 3 => .array .int
  | _ => .int
theorem nmX0 : ∀ a, a < 5 → ∀ b, b < 5 → a ≠ b → (TX0 a).2.1 ≠ (TX0 b).2.1 := by decide +kernel
theorem tyX0_ok : ∀ k, k < 5 → parseFieldDescriptor (TX0 k).2.2.1 = some (tyX0 k) := by decide +kernel
def RX1 : String := "DonkeysHour$Beast"
def TX1 : u_T := fun k => match k with
  | 0 => ("DonkeysHour$Beast", "round", "[I", true)
  | 1 => ("DonkeysHour$Beast", "book", "[I", true)
  | 2 => ("DonkeysHour$Beast", "places", "I", false)
  | 3 => ("DonkeysHour$Beast", "place", "I", false)
  | 4 => ("DonkeysHour$Beast", "hunger", "I", false)
  | _ => ("DonkeysHour$Beast", "strokes", "I", false)
def tyX1 : Nat → FieldType := fun k => match k with
  | 0 => .array .int
  | 1 => .array .int
  | 2 => .int
  | 3 => .int
  | 4 => .int
  | _ => .int
theorem nmX1 : ∀ a, a < 6 → ∀ b, b < 6 → a ≠ b → (TX1 a).2.1 ≠ (TX1 b).2.1 := by decide +kernel
theorem tyX1_ok : ∀ k, k < 6 → parseFieldDescriptor (TX1 k).2.2.1 = some (tyX1 k) := by decide +kernel
def RX2 : String := "DonkeysHour$Carrots"
def TX2 : u_T := fun k => match k with
  | 0 => ("DonkeysHour$Carrots", "whose", "[I", true)
  | 1 => ("DonkeysHour$Carrots", "from", "[I", true)
  | 2 => ("DonkeysHour$Carrots", "to", "[I", true)
  | 3 => ("DonkeysHour$Carrots", "how", "[I", true)
  | _ => ("DonkeysHour$Carrots", "size", "I", false)
def tyX2 : Nat → FieldType := fun k => match k with
  | 0 => .array .int
  | 1 => .array .int
  | 2 => .array .int
  | 3 => .array .int
  | _ => .int
theorem nmX2 : ∀ a, a < 5 → ∀ b, b < 5 → a ≠ b → (TX2 a).2.1 ≠ (TX2 b).2.1 := by decide +kernel
theorem tyX2_ok : ∀ k, k < 5 → parseFieldDescriptor (TX2 k).2.2.1 = some (tyX2 k) := by decide +kernel
def RX3 : String := "DonkeysHour$Contracts"
def TX3 : u_T := fun k => match k with
  | 0 => ("DonkeysHour$Contracts", "debtor", "[I", true)
  | 1 => ("DonkeysHour$Contracts", "creditor", "[I", true)
  | 2 => ("DonkeysHour$Contracts", "frogs", "[I", true)
  | 3 => ("DonkeysHour$Contracts", "clock", "[I", true)
  | 4 => ("DonkeysHour$Contracts", "hour", "[I", true)
  | 5 => ("DonkeysHour$Contracts", "struck", "[I", true)
  | _ => ("DonkeysHour$Contracts", "size", "I", false)
def tyX3 : Nat → FieldType := fun k => match k with
  | 0 => .array .int
  | 1 => .array .int
  | 2 => .array .int
  | 3 => .array .int
  | 4 => .array .int
  | 5 => .array .int
  | _ => .int
theorem nmX3 : ∀ a, a < 7 → ∀ b, b < 7 → a ≠ b → (TX3 a).2.1 ≠ (TX3 b).2.1 := by decide +kernel
theorem tyX3_ok : ∀ k, k < 7 → parseFieldDescriptor (TX3 k).2.2.1 = some (tyX3 k) := by decide +kernel
def RX4 : String := "DonkeysHour$Flies"
def TX4 : u_T := fun k => match k with
  | 0 => ("DonkeysHour$Flies", "digits", "[I", true)
  | _ => ("DonkeysHour$Flies", "size", "I", false)
def tyX4 : Nat → FieldType := fun k => match k with
  | 0 => .array .int
  | _ => .int
theorem nmX4 : ∀ a, a < 2 → ∀ b, b < 2 → a ≠ b → (TX4 a).2.1 ≠ (TX4 b).2.1 := by decide +kernel
theorem tyX4_ok : ∀ k, k < 2 → parseFieldDescriptor (TX4 k).2.2.1 = some (tyX4 k) := by decide +kernel
def RX5 : String := "DonkeysHour$Future"
def TX5 : u_T := fun k => match k with
  | 0 => ("DonkeysHour$Future", "rule", "LDonkeysHour$Rule;", true)
  | 1 => ("DonkeysHour$Future", "flies", "LDonkeysHour$Flies;", true)
  | 2 => ("DonkeysHour$Future", "carrots", "LDonkeysHour$Carrots;", true)
  | 3 => ("DonkeysHour$Future", "thought", "LDonkeysHour$Carrots;", true)
  | 4 => ("DonkeysHour$Future", "beast", "LDonkeysHour$Beast;", true)
  | 5 => ("DonkeysHour$Future", "strokeIn", "[I", true)
  | 6 => ("DonkeysHour$Future", "swarm", "I", false)
  | 7 => ("DonkeysHour$Future", "number", "I", false)
  | 8 => ("DonkeysHour$Future", "now", "I", false)
  | 9 => ("DonkeysHour$Future", "gone", "I", false)
  | _ => ("DonkeysHour$Future", "strokes", "I", false)
def tyX5 : Nat → FieldType := fun k => match k with
  | 0 => .object "DonkeysHour$Rule"
  | 1 => .object "DonkeysHour$Flies"
  | 2 => .object "DonkeysHour$Carrots"
  | 3 => .object "DonkeysHour$Carrots"
  | 4 => .object "DonkeysHour$Beast"
  | 5 => .array .int
  | 6 => .int
  | 7 => .int
  | 8 => .int
  | 9 => .int
  | _ => .int
theorem nmX5 : ∀ a, a < 11 → ∀ b, b < 11 → a ≠ b → (TX5 a).2.1 ≠ (TX5 b).2.1 := by decide +kernel
theorem tyX5_ok : ∀ k, k < 11 → parseFieldDescriptor (TX5 k).2.2.1 = some (tyX5 k) := by decide +kernel
def RX6 : String := "DonkeysHour$History"
def TX6 : u_T := fun k => match k with
  | 0 => ("DonkeysHour$History", "scenes", "[LDonkeysHour$Scene;", true)
  | 1 => ("DonkeysHour$History", "oldest", "I", false)
  | _ => ("DonkeysHour$History", "size", "I", false)
def tyX6 : Nat → FieldType := fun k => match k with
  | 0 => .array (.object "DonkeysHour$Scene")
  | 1 => .int
  | _ => .int
theorem nmX6 : ∀ a, a < 3 → ∀ b, b < 3 → a ≠ b → (TX6 a).2.1 ≠ (TX6 b).2.1 := by decide +kernel
theorem tyX6_ok : ∀ k, k < 3 → parseFieldDescriptor (TX6 k).2.2.1 = some (tyX6 k) := by decide +kernel
def RX7 : String := "DonkeysHour$Rule"
def TX7 : u_T := fun k => match k with
  | 0 => ("DonkeysHour$Rule", "code", "[I", true)
  | 1 => ("DonkeysHour$Rule", "stack", "[I", true)
  | 2 => ("DonkeysHour$Rule", "given", "[I", true)
  | 3 => ("DonkeysHour$Rule", "size", "I", false)
  | 4 => ("DonkeysHour$Rule", "top", "I", false)
  | _ => ("DonkeysHour$Rule", "brackets", "I", false)
def tyX7 : Nat → FieldType := fun k => match k with
  | 0 => .array .int
  | 1 => .array .int
  | 2 => .array .int
  | 3 => .int
  | 4 => .int
  | _ => .int
theorem nmX7 : ∀ a, a < 6 → ∀ b, b < 6 → a ≠ b → (TX7 a).2.1 ≠ (TX7 b).2.1 := by decide +kernel
theorem tyX7_ok : ∀ k, k < 6 → parseFieldDescriptor (TX7 k).2.2.1 = some (tyX7 k) := by decide +kernel
def RX8 : String := "DonkeysHour$Rumours"
def TX8 : u_T := fun k => match k with
  | 0 => ("DonkeysHour$Rumours", "whose", "[I", true)
  | 1 => ("DonkeysHour$Rumours", "strokes", "[I", true)
  | 2 => ("DonkeysHour$Rumours", "within", "[I", true)
  | _ => ("DonkeysHour$Rumours", "size", "I", false)
def tyX8 : Nat → FieldType := fun k => match k with
  | 0 => .array .int
  | 1 => .array .int
  | 2 => .array .int
  | _ => .int
theorem nmX8 : ∀ a, a < 4 → ∀ b, b < 4 → a ≠ b → (TX8 a).2.1 ≠ (TX8 b).2.1 := by decide +kernel
theorem tyX8_ok : ∀ k, k < 4 → parseFieldDescriptor (TX8 k).2.2.1 = some (tyX8 k) := by decide +kernel
def RX9 : String := "DonkeysHour$Scene"
def TX9 : u_T := fun k => match k with
  | 0 => ("DonkeysHour$Scene", "beasts", "[LDonkeysHour$Beast;", true)
  | 1 => ("DonkeysHour$Scene", "carrots", "LDonkeysHour$Carrots;", true)
  | 2 => ("DonkeysHour$Scene", "donkeys", "I", false)
  | 3 => ("DonkeysHour$Scene", "now", "I", false)
  | 4 => ("DonkeysHour$Scene", "filled", "Z", false)
  | _ => ("DonkeysHour$Scene", "withCarrots", "Z", false)
def tyX9 : Nat → FieldType := fun k => match k with
  | 0 => .array (.object "DonkeysHour$Beast")
  | 1 => .object "DonkeysHour$Carrots"
  | 2 => .int
  | 3 => .int
  | 4 => .boolean
  | _ => .boolean
theorem nmX9 : ∀ a, a < 6 → ∀ b, b < 6 → a ≠ b → (TX9 a).2.1 ≠ (TX9 b).2.1 := by decide +kernel
theorem tyX9_ok : ∀ k, k < 6 → parseFieldDescriptor (TX9 k).2.2.1 = some (tyX9 k) := by decide +kernel
def RX10 : String := "DonkeysHour$Text"
def TX10 : u_T := fun k => match k with
  | 0 => ("DonkeysHour$Text", "signs", "[I", true)
  | 1 => ("DonkeysHour$Text", "size", "I", false)
  | 2 => ("DonkeysHour$Text", "at", "I", false)
  | _ => ("DonkeysHour$Text", "limit", "I", false)
def tyX10 : Nat → FieldType := fun k => match k with
  | 0 => .array .int
  | 1 => .int
  | 2 => .int
  | _ => .int
theorem nmX10 : ∀ a, a < 4 → ∀ b, b < 4 → a ≠ b → (TX10 a).2.1 ≠ (TX10 b).2.1 := by decide +kernel
theorem tyX10_ok : ∀ k, k < 4 → parseFieldDescriptor (TX10 k).2.2.1 = some (tyX10 k) := by decide +kernel
def RX11 : String := "DonkeysHour"
def TX11 : u_T := fun k => match k with
  | 0 => ("DonkeysHour", "text", "LDonkeysHour$Text;", true)
  | 1 => ("DonkeysHour", "scene", "LDonkeysHour$Scene;", true)
  | 2 => ("DonkeysHour", "flies", "LDonkeysHour$Flies;", true)
  | 3 => ("DonkeysHour", "rule", "LDonkeysHour$Rule;", true)
  | 4 => ("DonkeysHour", "toldRule", "LDonkeysHour$Rule;", true)
  | 5 => ("DonkeysHour", "acts", "LDonkeysHour$Acts;", true)
  | 6 => ("DonkeysHour", "contracts", "LDonkeysHour$Contracts;", true)
  | 7 => ("DonkeysHour", "rumours", "LDonkeysHour$Rumours;", true)
  | 8 => ("DonkeysHour", "history", "LDonkeysHour$History;", true)
  | 9 => ("DonkeysHour", "kept", "[LDonkeysHour$Scene;", true)
  | 10 => ("DonkeysHour", "future", "LDonkeysHour$Future;", true)
  | 11 => ("DonkeysHour", "second", "LDonkeysHour$Future;", true)
  | 12 => ("DonkeysHour", "tally", "[I", true)
  | 13 => ("DonkeysHour", "numbers", "[I", true)
  | _ => ("DonkeysHour", "numbersTold", "I", false)
def tyX11 : Nat → FieldType := fun k => match k with
  | 0 => .object "DonkeysHour$Text"
  | 1 => .object "DonkeysHour$Scene"
  | 2 => .object "DonkeysHour$Flies"
  | 3 => .object "DonkeysHour$Rule"
  | 4 => .object "DonkeysHour$Rule"
  | 5 => .object "DonkeysHour$Acts"
  | 6 => .object "DonkeysHour$Contracts"
  | 7 => .object "DonkeysHour$Rumours"
  | 8 => .object "DonkeysHour$History"
  | 9 => .array (.object "DonkeysHour$Scene")
  | 10 => .object "DonkeysHour$Future"
  | 11 => .object "DonkeysHour$Future"
  | 12 => .array .int
  | 13 => .array .int
  | _ => .int
theorem nmX11 : ∀ a, a < 15 → ∀ b, b < 15 → a ≠ b → (TX11 a).2.1 ≠ (TX11 b).2.1 := by decide +kernel
theorem tyX11_ok : ∀ k, k < 15 → parseFieldDescriptor (TX11 k).2.2.1 = some (tyX11 k) := by decide +kernel
def RX12 : String := "DonkeysHourModel"
def TX12 : u_T := fun k => match k with
  | 0 => ("DonkeysHourModel", "now", "[I", true)
  | 1 => ("DonkeysHourModel", "donkeys", "I", false)
  | 2 => ("DonkeysHourModel", "rounds", "[I", true)
  | 3 => ("DonkeysHourModel", "flies", "[I", true)
  | 4 => ("DonkeysHourModel", "fliesMany", "I", false)
  | 5 => ("DonkeysHourModel", "fliesAsked", "I", false)
  | 6 => ("DonkeysHourModel", "carrots", "[I", true)
  | 7 => ("DonkeysHourModel", "carrotMany", "I", false)
  | 8 => ("DonkeysHourModel", "thoughtMany", "I", false)
  | 9 => ("DonkeysHourModel", "text", "[B", true)
  | 10 => ("DonkeysHourModel", "typed", "I", false)
  | 11 => ("DonkeysHourModel", "row", "[I", true)
  | 12 => ("DonkeysHourModel", "rowMany", "I", false)
  | 13 => ("DonkeysHourModel", "thrown", "I", false)
  | 14 => ("DonkeysHourModel", "read", "[B", false)
  | 15 => ("DonkeysHourModel", "length", "I", false)
  | 16 => ("DonkeysHourModel", "top", "I", false)
  | 17 => ("DonkeysHourModel", "at", "I", false)
  | 18 => ("DonkeysHourModel", "wrong", "I", false)
  | 19 => ("DonkeysHourModel", "comes", "[I", true)
  | 20 => ("DonkeysHourModel", "rule", "[B", true)
  | 21 => ("DonkeysHourModel", "ruleSize", "I", false)
  | 22 => ("DonkeysHourModel", "askedState", "[I", false)
  | 23 => ("DonkeysHourModel", "askedDonkey", "I", false)
  | 24 => ("DonkeysHourModel", "strokesNow", "I", false)
  | 25 => ("DonkeysHourModel", "strokesBy", "[I", true)
  | 26 => ("DonkeysHourModel", "ate", "I", false)
  | 27 => ("DonkeysHourModel", "stood", "I", false)
  | 28 => ("DonkeysHourModel", "eatenAt", "I", false)
  | 29 => ("DonkeysHourModel", "eatenOf", "I", false)
  | 30 => ("DonkeysHourModel", "undos", "[I", true)
  | 31 => ("DonkeysHourModel", "undoMany", "I", false)
  | 32 => ("DonkeysHourModel", "aside", "[I", true)
  | 33 => ("DonkeysHourModel", "sums", "[I", true)
  | 34 => ("DonkeysHourModel", "acts", "[I", true)
  | 35 => ("DonkeysHourModel", "dayStrokes", "I", false)
  | 36 => ("DonkeysHourModel", "then", "[I", true)
  | 37 => ("DonkeysHourModel", "times", "[I", true)
  | 38 => ("DonkeysHourModel", "timesMany", "I", false)
  | 39 => ("DonkeysHourModel", "eatenBy", "[I", true)
  | 40 => ("DonkeysHourModel", "contracts", "[I", true)
  | 41 => ("DonkeysHourModel", "contractMany", "I", false)
  | 42 => ("DonkeysHourModel", "often", "[I", true)
  | 43 => ("DonkeysHourModel", "first", "[I", true)
  | 44 => ("DonkeysHourModel", "last", "[I", true)
  | 45 => ("DonkeysHourModel", "latests", "[I", true)
  | 46 => ("DonkeysHourModel", "taken", "[Z", true)
  | 47 => ("DonkeysHourModel", "boys", "[I", true)
  | 48 => ("DonkeysHourModel", "sounds", "[I", true)
  | 49 => ("DonkeysHourModel", "soundMany", "I", false)
  | 50 => ("DonkeysHourModel", "same", "[I", true)
  | 51 => ("DonkeysHourModel", "came", "I", false)
  | 52 => ("DonkeysHourModel", "kept", "[I", true)
  | 53 => ("DonkeysHourModel", "isKept", "[Z", true)
  | _ => ("DonkeysHourModel", "keptCame", "[I", true)
def tyX12 : Nat → FieldType := fun k => match k with
  | 0 => .array .int
  | 1 => .int
  | 2 => .array .int
  | 3 => .array .int
  | 4 => .int
  | 5 => .int
  | 6 => .array .int
  | 7 => .int
  | 8 => .int
  | 9 => .array .byte
  | 10 => .int
  | 11 => .array .int
  | 12 => .int
  | 13 => .int
  | 14 => .array .byte
  | 15 => .int
  | 16 => .int
  | 17 => .int
  | 18 => .int
  | 19 => .array .int
  | 20 => .array .byte
  | 21 => .int
  | 22 => .array .int
  | 23 => .int
  | 24 => .int
  | 25 => .array .int
  | 26 => .int
  | 27 => .int
  | 28 => .int
  | 29 => .int
  | 30 => .array .int
  | 31 => .int
  | 32 => .array .int
  | 33 => .array .int
  | 34 => .array .int
  | 35 => .int
  | 36 => .array .int
  | 37 => .array .int
  | 38 => .int
  | 39 => .array .int
  | 40 => .array .int
  | 41 => .int
  | 42 => .array .int
  | 43 => .array .int
  | 44 => .array .int
  | 45 => .array .int
  | 46 => .array .boolean
  | 47 => .array .int
  | 48 => .array .int
  | 49 => .int
  | 50 => .array .int
  | 51 => .int
  | 52 => .array .int
  | 53 => .array .boolean
  | _ => .array .int
theorem nmX12 : ∀ a, a < 55 → ∀ b, b < 55 → a ≠ b → (TX12 a).2.1 ≠ (TX12 b).2.1 := by decide +kernel
theorem tyX12_ok : ∀ k, k < 55 → parseFieldDescriptor (TX12 k).2.2.1 = some (tyX12 k) := by decide +kernel
def RL : String := "DonkeysHourLaw"
abbrev vwCl : List vw_C := [(RX0, TX0, 5), (RX1, TX1, 6), (RX2, TX2, 5), (RX3, TX3, 7), (RX4, TX4, 2), (RX5, TX5, 11), (RX6, TX6, 3), (RX7, TX7, 6), (RX8, TX8, 4), (RX9, TX9, 6), (RX10, TX10, 4), (RX11, TX11, 15), (RX12, TX12, 55)]
-- ===== numbers: an int of the machine as an integer in range =====
def InR (x : Int) : Prop := -2147483648 ≤ x ∧ x < 2147483648
def wr (x : Int) : Int := (x + 2147483648) % 4294967296 - 2147483648
theorem wr_in (x : Int) : InR (wr x) := by unfold InR wr; omega
theorem wr_id {x : Int} (h : InR x) : wr x = x := by unfold InR at h; unfold wr; omega
theorem iI_toInt {x : Int} (h : InR x) : (Int32.ofInt x).toInt = x := Int32.toInt_ofInt_of_le h.1 h.2
theorem toInt_in (x : Int32) : InR x.toInt := ⟨Int32.le_toInt x, Int32.toInt_lt x⟩
theorem wr_bmod (x : Int) : wr x = x.bmod (2 ^ 32) := by
  unfold wr
  rw [Int.bmod_def, show ((2 ^ 32 : Nat) : Int) = 4294967296 from rfl]
  split <;> omega
theorem iI_wr (x : Int) : Int32.ofInt (wr x) = Int32.ofInt x := by
  apply Int32.toInt_inj.mp
  rw [iI_toInt (wr_in x), Int32.toInt_ofInt, wr_bmod]
theorem iI_inj {x y : Int} (hx : InR x) (hy : InR y) : Int32.ofInt x = Int32.ofInt y ↔ x = y :=
  ⟨fun h => by rw [← iI_toInt hx, ← iI_toInt hy, h], fun h => by rw [h]⟩
theorem iI_lt {x y : Int} (hx : InR x) (hy : InR y) : Int32.ofInt x < Int32.ofInt y ↔ x < y := by
  rw [Int32.lt_iff_toInt_lt, iI_toInt hx, iI_toInt hy]
theorem iI_le {x y : Int} (hx : InR x) (hy : InR y) : Int32.ofInt x ≤ Int32.ofInt y ↔ x ≤ y := by
  rw [Int32.le_iff_toInt_le, iI_toInt hx, iI_toInt hy]
theorem iI_clamp {x : Int} (hx : InR x) : (Int32.ofInt x).toNatClampNeg = x.toNat := Int32.toNatClampNeg_ofInt_of_le hx.1 hx.2
theorem iI_vp {x : Int} {n : Nat} (hx : InR x) (h0 : 0 ≤ x) (h1 : x < n) : vp_in (Int32.ofInt x) n := by
  rw [vp_in_iff, iI_toInt hx]
  exact ⟨h0, h1⟩
theorem iI_0 : Int32.ofInt 0 = 0 := rfl
theorem iI_add (x y : Int) : Int32.ofInt x + Int32.ofInt y = Int32.ofInt (wr (x + y)) := by rw [iI_wr, Int32.ofInt_add]
theorem iI_sub (x y : Int) : Int32.ofInt x - Int32.ofInt y = Int32.ofInt (wr (x - y)) := by rw [iI_wr, Int32.ofInt_sub]
theorem iI_mul (x y : Int) : Int32.ofInt x * Int32.ofInt y = Int32.ofInt (wr (x * y)) := by rw [iI_wr, Int32.ofInt_mul]
theorem iI_neg (x : Int) : - Int32.ofInt x = Int32.ofInt (wr (- x)) := by rw [iI_wr, Int32.ofInt_neg]
theorem iI_div {x y : Int} (hx : InR x) (hy : InR y) : Int32.ofInt x / Int32.ofInt y = Int32.ofInt (wr (x.tdiv y)) := by
  apply Int32.toInt_inj.mp
  rw [Int32.toInt_div, iI_toInt hx, iI_toInt hy, iI_toInt (wr_in _), wr_bmod]
theorem iI_rem {x y : Int} (hx : InR x) (hy : InR y) : Int32.ofInt x - Int32.ofInt x / Int32.ofInt y * Int32.ofInt y = Int32.ofInt (x.tmod y) := by
  rw [iI_div hx hy, iI_mul, iI_sub, iI_wr, Int.tmod_def, Int32.ofInt_sub, Int32.ofInt_sub, iI_wr, Int32.ofInt_mul, iI_wr, Int32.ofInt_mul, Int32.mul_comm]
theorem tmod_in {x y : Int} (hx : InR x) : InR (x.tmod y) := by
  unfold InR at *
  have h1 : (x.tmod y).natAbs ≤ x.natAbs := by
    rw [Int.natAbs_tmod]
    exact Nat.mod_le _ _
  rcases Int.le_total 0 x with h | h
  · have h2 := Int.tmod_nonneg y h
    omega
  · have h2 := Int.tmod_nonneg y (show 0 ≤ -x by omega)
    rw [Int.neg_tmod] at h2
    omega
/-- bit operations, by the machine's own -/
def ish (f : Int32 → Int32 → Int32) (x y : Int) : Int := (f (Int32.ofInt x) (Int32.ofInt y)).toInt
theorem ish_in (f : Int32 → Int32 → Int32) (x y : Int) : InR (ish f x y) := toInt_in _
theorem iI_ish (f : Int32 → Int32 → Int32) (x y : Int) : Int32.ofInt (ish f x y) = f (Int32.ofInt x) (Int32.ofInt y) := Int32.ofInt_toInt _
def i_and : Int32 → Int32 → Int32 := fun x y => x &&& y
def i_or : Int32 → Int32 → Int32 := fun x y => x ||| y
def i_shl : Int32 → Int32 → Int32 := fun x y => x <<< (y &&& 31)
def i_shr : Int32 → Int32 → Int32 := fun x y => x >>> (y &&& 31)
def i_ushr : Int32 → Int32 → Int32 := fun x y => (x.toUInt32 >>> (y.toUInt32 &&& Int32.toUInt32 31)).toInt32
/-- what a byte, a short keeps of an int -/
def sx8 (x : Int) : Int := (x + 128) % 256 - 128
def sx16 (x : Int) : Int := (x + 32768) % 65536 - 32768
def zx16 (x : Int) : Int := x % 65536
theorem sx8_in (x : Int) : InR (sx8 x) := by unfold InR sx8; omega
theorem sx16_in (x : Int) : InR (sx16 x) := by unfold InR sx16; omega
theorem zx16_in (x : Int) : InR (zx16 x) := by unfold InR zx16; omega
theorem iI_sx8 {x : Int} (hx : InR x) : (Int32.ofInt x).toInt8.toInt32 = Int32.ofInt (sx8 x) := by
  apply Int32.toInt_inj.mp
  rw [Int8.toInt_toInt32, Int32.toInt_toInt8, iI_toInt hx, iI_toInt (sx8_in x)]
  unfold sx8
  rw [Int.bmod_def, show ((2 ^ 8 : Nat) : Int) = 256 from rfl]
  split <;> omega
theorem iI_sx16 {x : Int} (hx : InR x) : (Int32.ofInt x).toInt16.toInt32 = Int32.ofInt (sx16 x) := by
  apply Int32.toInt_inj.mp
  rw [Int16.toInt_toInt32, Int32.toInt_toInt16, iI_toInt hx, iI_toInt (sx16_in x)]
  unfold sx16
  rw [Int.bmod_def, show ((2 ^ 16 : Nat) : Int) = 65536 from rfl]
  split <;> omega
theorem iI_bit {x : Int} (h : x = 0 ∨ x = 1) : vp_nar .boolean (Int32.ofInt x) = Int32.ofInt x := by rcases h with rfl | rfl <;> rfl
-- ===== values, cells, worlds =====
abbrev PV := Int ⊕ (Option Nat ⊕ Int)
abbrev vI (n : Int) : PV := .inl n
abbrev vR (i : Nat) : PV := .inr (.inl (some i))
abbrev vN : PV := .inr (.inl none)
abbrev vL (n : Int) : PV := .inr (.inr n)
def rep (B : Nat) (v : PV) : Value := match v with
  | .inl n => .int (Int32.ofInt n)
  | .inr (.inl none) => .null
  | .inr (.inl (some i)) => .ref (B + i)
  | .inr (.inr n) => .long (Int64.ofInt n)
def okV (v : PV) : Prop := match v with
  | .inl n => InR n
  | .inr (.inl _) => True
  | .inr (.inr n) => InR n
def okVs (l : List PV) : Prop := ∀ v ∈ l, okV v
theorem okVs.cons {v : PV} {l : List PV} (h : okV v) (hl : okVs l) : okVs (v :: l) := fun x hx => by
  rcases List.mem_cons.mp hx with rfl | hx
  · exact h
  · exact hl x hx
theorem okVs.hd {v : PV} {l : List PV} (h : okVs (v :: l)) : okV v := h v List.mem_cons_self
theorem okVs.tl {v : PV} {l : List PV} (h : okVs (v :: l)) : okVs l := fun x hx => h x (List.mem_cons_of_mem _ hx)
/-- a cell's shape: 0: an object (its class, how each field is: 0 an int, 1 null, 2 a reference that moves, r + 3 the cell r); 1: an array of ints, bytes, booleans (by its type; its length); 2: of longs; 3: of references (what each place holds: 0 null, r + 1) -/
abbrev SHP := Nat × Nat × List Nat
def fv (B : Nat) (x : Int) (k : Nat) : Value := match k with
  | 0 => .int (Int32.ofInt x)
  | 1 => .null
  | 2 => if x = 0 then .null else .ref (B + (x.toNat - 1))
  | r + 3 => .ref (B + r)
def fvs (B : Nat) (v : Nat → Int) : Nat → List Nat → List Value
  | _, [] => []
  | i, k :: ks => fv B (v i) k :: fvs B v (i + 1) ks
def rcode (B : Nat) (c : Nat) : Option Nat := if c = 0 then none else some (B + (c - 1))
def sE (B : Nat) (cA : Nat → ClassId) (sh : SHP) (v : Nat → Int) : va_E := match sh with
  | (0, ci, ks) => .inr (ci, fvs B v 0 ks)
  | (1, t, ks) => .inl (cA t, ks.headD 0, .inl (fun j => Int32.ofInt (v j)))
  | (2, t, ks) => .inl (cA t, ks.headD 0, .inr (.inl (fun j => Int64.ofInt (v j))))
  | (_ + 3, t, ks) => .inl (cA t, ks.length, .inr (.inr (.inr (.inr (fun j => rcode B (ks.getD j 0))))))
abbrev MEM := Nat → Nat → Int
abbrev WD := Nat × (Nat → SHP) × MEM
def wL (B : Nat) (cA : Nat → ClassId) (w : WD) : va_W := (List.range w.1).map (fun i => (B + i, sE B cA (w.2.1 i) (w.2.2 i)))
def up1 (v : Nat → Int) (k : Nat) (x : Int) : Nat → Int := fun j => if j = k then x else v j
def up2 (M : MEM) (a k : Nat) (x : Int) : MEM := fun a' k' => if a' = a ∧ k' = k then x else M a' k'
def upS (S : Nat → SHP) (a : Nat) (sh : SHP) : Nat → SHP := fun a' => if a' = a then sh else S a'
def okM (M : MEM) : Prop := ∀ a k, InR (M a k)
theorem okM.up {M : MEM} (h : okM M) {a k : Nat} {x : Int} (hx : InR x) : okM (up2 M a k x) := fun a' k' => by
  unfold up2
  split
  · exact hx
  · exact h a' k'
theorem up2_row (M : MEM) (a k : Nat) (x : Int) : up2 M a k x a = up1 (M a) k x := by
  funext j
  simp [up2, up1]
theorem up2_off {M : MEM} {a k b : Nat} {x : Int} (h : b ≠ a) : up2 M a k x b = M b := by
  funext j
  simp [up2, h]
theorem wL_get {B : Nat} {cA : Nat → ClassId} {n : Nat} {S : Nat → SHP} {M : MEM} {i : Nat} (h : i < n) : (wL B cA (n, S, M))[i]? = some (B + i, sE B cA (S i) (M i)) := by
  simp [wL, h]
theorem wL_len {B : Nat} {cA : Nat → ClassId} {w : WD} : (wL B cA w).length = w.1 := by simp [wL]
theorem wL_D {B : Nat} {cA : Nat → ClassId} {w : WD} : va_D (fun q : Nat => B ≤ q) (wL B cA w) := by
  obtain ⟨n, S, M⟩ := w
  refine ⟨fun i j p q hp hq e => ?_, fun k q hq => ?_⟩
  · have hi : i < n := by have := (List.getElem?_eq_some_iff.mp hp).1; simpa [wL] using this
    have hj : j < n := by have := (List.getElem?_eq_some_iff.mp hq).1; simpa [wL] using this
    rw [wL_get hi] at hp
    rw [wL_get hj] at hq
    cases hp
    cases hq
    have e : B + i = B + j := e
    omega
  · have hk : k < n := by have := (List.getElem?_eq_some_iff.mp hq).1; simpa [wL] using this
    rw [wL_get hk] at hq
    cases hq
    show B ≤ B + k
    omega
theorem wL_set {B : Nat} {cA : Nat → ClassId} {n : Nat} {S S' : Nat → SHP} {M M' : MEM} {i : Nat} (hS : ∀ j, j ≠ i → S' j = S j) (hM : ∀ j, j ≠ i → M' j = M j) :
    (wL B cA (n, S, M)).set i (B + i, sE B cA (S' i) (M' i)) = wL B cA (n, S', M') := by
  apply List.ext_getElem?
  intro j
  rw [List.getElem?_set]
  by_cases hij : i = j
  · subst hij
    by_cases hi : i < n
    · simp [wL, hi]
    · simp [wL, hi]
  · have hji : j ≠ i := fun h => hij h.symm
    by_cases hj : j < n
    · rw [if_neg hij, wL_get hj, wL_get hj, hS j hji, hM j hji]
    · rw [if_neg hij]
      simp [wL, hj]
theorem wL_push {B : Nat} {cA : Nat → ClassId} {n : Nat} {S S' : Nat → SHP} {M M' : MEM} (hS : ∀ j, j ≠ n → S' j = S j) (hM : ∀ j, j ≠ n → M' j = M j) :
    wL B cA (n, S, M) ++ [(B + n, sE B cA (S' n) (M' n))] = wL B cA (n + 1, S', M') := by
  unfold wL
  rw [List.range_succ, List.map_append]
  congr 1
  apply List.map_congr_left
  intro j hj
  have hj : j < n := List.mem_range.mp hj
  have hne : j ≠ n := by omega
  simp [hS j hne, hM j hne]
theorem fvs_len (B : Nat) (v : Nat → Int) : ∀ (ks : List Nat) (i : Nat), (fvs B v i ks).length = ks.length := by
  intro ks
  induction ks with
  | nil => intro i; rfl
  | cons k ks ih => intro i; simp [fvs, ih]
theorem fvs_get (B : Nat) (v : Nat → Int) : ∀ (ks : List Nat) (i k c : Nat), ks[k]? = some c → (fvs B v i ks)[k]? = some (fv B (v (i + k)) c) := by
  intro ks
  induction ks with
  | nil => intro i k c h; cases h
  | cons c0 ks ih =>
    intro i k c h
    cases k with
    | zero => simp at h; subst h; simp [fvs]
    | succ k =>
      have h1 : ks[k]? = some c := by simpa using h
      have := ih (i + 1) k c h1
      simp only [fvs, List.getElem?_cons_succ]
      rw [this, show i + 1 + k = i + (k + 1) by omega]
theorem fvs_put (B : Nat) (v : Nat → Int) (x : Int) : ∀ (ks : List Nat) (i k c c' : Nat), ks[k]? = some c → (fvs B v i ks).set k (fv B x c') = fvs B (up1 v (i + k) x) i (ks.set k c') := by
  intro ks
  induction ks with
  | nil => intro i k c c' h; cases h
  | cons c0 ks ih =>
    intro i k c c' h
    have off : ∀ (ks : List Nat) (i0 j : Nat), j < i0 → fvs B (up1 v j x) i0 ks = fvs B v i0 ks := by
      intro ks
      induction ks with
      | nil => intro i0 j _; rfl
      | cons a ks ih2 =>
        intro i0 j hj
        simp only [fvs]
        rw [ih2 (i0 + 1) j (by omega)]
        simp [up1, show ¬ i0 = j by omega]
    cases k with
    | zero =>
      simp only [fvs, List.set_cons_zero, Nat.add_zero]
      rw [off ks (i + 1) i (by omega)]
      simp [up1]
    | succ k =>
      have h1 : ks[k]? = some c := by simpa using h
      have := ih (i + 1) k c c' h1
      simp only [fvs, List.set_cons_succ]
      rw [this, show i + 1 + k = i + (k + 1) by omega]
      simp [up1, show ¬ i = i + (k + 1) by omega]
theorem list_set_same {α : Type} : ∀ (l : List α) (k : Nat) (c : α), l[k]? = some c → l.set k c = l := by
  intro l
  induction l with
  | nil => intro k c h; cases h
  | cons a l ih =>
    intro k c h
    cases k with
    | zero => simp at h; subst h; rfl
    | succ k => simp only [List.set_cons_succ]; rw [ih k c (by simpa using h)]
end
section
-- ===== methods as data, the judgement WAt =====
/-- a row of a method's table: pc, instruction, the next pc, three numbers, a name -/
abbrev ENT := Nat × Instr × Nat × Nat × Nat × Nat × MethodName
/-- a method: its name, bytes, locals, return type, table -/
abbrev MD := MethodName × ByteArray × Nat × Option FieldType × List ENT
def wch (k : Nat) : List Cond := match k with
  | 0 => k2_sels lw_privs
  | 1 => tables_1_1
  | 2 => tables_1_2
  | 3 => tables_1_3
  | 4 => tables_1_4
  | 5 => tables_1_5
  | 6 => tables_1_6
  | 7 => tables_1_7
  | 8 => tables_1_8
  | _ => []
theorem wch_in : ∀ k, ∀ w ∈ wch k, w ∈ lw_tbl := by
  intro k w h
  have e : lw_tbl = wch 0 ++ (wch 1 ++ (wch 2 ++ (wch 3 ++ (wch 4 ++ (wch 5 ++ (wch 6 ++ (wch 7 ++ wch 8))))))) := rfl
  rw [e]
  simp only [List.mem_append]
  match k, h with
  | 0, h => exact Or.inl h
  | 1, h => exact Or.inr (Or.inl h)
  | 2, h => exact Or.inr (Or.inr (Or.inl h))
  | 3, h => exact Or.inr (Or.inr (Or.inr (Or.inl h)))
  | 4, h => exact Or.inr (Or.inr (Or.inr (Or.inr (Or.inl h))))
  | 5, h => exact Or.inr (Or.inr (Or.inr (Or.inr (Or.inr (Or.inl h)))))
  | 6, h => exact Or.inr (Or.inr (Or.inr (Or.inr (Or.inr (Or.inr (Or.inl h))))))
  | 7, h => exact Or.inr (Or.inr (Or.inr (Or.inr (Or.inr (Or.inr (Or.inr (Or.inl h)))))))
  | 8, h => exact Or.inr (Or.inr (Or.inr (Or.inr (Or.inr (Or.inr (Or.inr (Or.inr h)))))))
  | k + 9, h => exact absurd h List.not_mem_nil
def wat (z : Nat) : Option Cond := (wch (z / 4096))[z % 4096]?
def tblG : List Cond := lw_tbl.filter goodWord
theorem tblG_sub : ∀ w ∈ tblG, w ∈ lw_tbl := fun _ h => (List.mem_filter.mp h).1
theorem tblG_good : GoodIn tblG tblG := fun w h => ⟨h, good_of_word (List.mem_filter.mp h).2⟩
/-- the word at place z is w, and it keeps -/
def wis (z : Nat) (w : Cond) : Bool := decide (wat z = some w) && goodWord w
theorem wis_in {z : Nat} {w : Cond} (h : wis z w = true) : w ∈ tblG := by
  unfold wis at h
  rw [Bool.and_eq_true, decide_eq_true_eq] at h
  exact List.mem_filter.mpr ⟨wch_in _ w (List.mem_of_getElem? h.1), h.2⟩
def ilen (i : Instr) (x : Nat) : Nat := match i with
  | .iload _ | .aload _ | .istore _ | .astore _ | .bipush _ | .newarray _ | .ldc _ => 2
  | .sipush _ | .getfield _ | .putfield _ | .invokevirtual _ | .invokestatic _ | .invokespecial _ | .new _ | .anewarray _ | .iinc _ _ | .goto _ | .ifCond _ _ | .if_icmp _ _ | .ifnonnull _ | .ldc_w _ => 3
  | .tableswitch _ _ _ _ | .lookupswitch _ _ => x
  | _ => 1
def chkI (own : String) (i : Instr) (pc x y z : Nat) (mn : MethodName) : Bool := match i with
  | .getfield idx | .putfield idx => match vwCl[x]? with
    | some q => decide (y < q.2.2) && wis z (.fieldLink own idx (q.2.1 y).1 (q.2.1 y).2.1 (q.2.1 y).2.2.1)
    | none => false
  | .invokevirtual idx | .invokestatic idx => wis z (.methodLink own idx mn)
  | .invokespecial idx => if y = 0 then wis z (.methodLink own idx mn) else wis z (.methodLinkNest own idx mn "DonkeysHour")
  | .goto off | .ifCond _ off | .if_icmp _ off | .ifnonnull off => decide ((pc : Int) + off = (x : Int))
  | .new idx | .anewarray idx => wis z (.classLink own idx mn.cls)
  | .ldc idx | .ldc_w idx => wis z (.constant own idx (Int32.ofInt ((x : Int) - (y : Int))))
  | _ => true
def chkE (md : MD) (e : ENT) : Bool := decide (decode md.2.1 e.1 = .ok (e.2.1, ilen e.2.1 e.2.2.2.1)) && decide (e.2.2.1 = e.1 + ilen e.2.1 e.2.2.2.1) && chkI md.1.cls e.2.1 e.1 e.2.2.2.1 e.2.2.2.2.1 e.2.2.2.2.2.1 e.2.2.2.2.2.2
def lkT (pc : Nat) : List ENT → Option ENT
  | [] => none
  | e :: r => match Nat.beq e.1 pc with
    | true => some e
    | false => lkT pc r
def lk (md : MD) (pc : Nat) : Option ENT := lkT pc md.2.2.2.2
theorem lkT_ok {pc : Nat} {e : ENT} : ∀ {l : List ENT}, lkT pc l = some e → e ∈ l ∧ e.1 = pc := by
  intro l
  induction l with
  | nil => intro h; cases h
  | cons a l ih =>
    intro h
    unfold lkT at h
    split at h
    next hb =>
      cases h
      exact ⟨List.mem_cons_self, Nat.eq_of_beq_eq_true hb⟩
    next => exact ⟨List.mem_cons_of_mem _ (ih h).1, (ih h).2⟩
theorem lk_ok {md : MD} {pc pc0 npc x y z : Nat} {i : Instr} {mn : MethodName} (h : lk md pc = some (pc0, i, npc, x, y, z, mn)) (hg : md.2.2.2.2.all (chkE md) = true) :
    pc0 = pc ∧ decode md.2.1 pc = .ok (i, ilen i x) ∧ npc = pc + ilen i x ∧ chkI md.1.cls i pc x y z mn = true := by
  obtain ⟨h1, h2⟩ := lkT_ok h
  have h2 : pc0 = pc := h2
  subst h2
  have h3 := List.all_eq_true.mp hg _ h1
  unfold chkE at h3
  simp only [Bool.and_eq_true, decide_eq_true_eq] at h3
  exact ⟨rfl, h3.1.1, h3.1.2, h3.2⟩
-- ===== the launch's part, the frame's part =====
/-- launch, the first of the own addresses, classes and slots, the arrays' classes -/
abbrev DT := Launch × Nat × va_G × (Nat → ClassId)
abbrev FT := Program × Env × Room × State × MethodId × Array Value × List Frame × Method × Code × (State → Prop)
def tys (cA : Nat → ClassId) : List (ClassId × FieldType) := [(cA 0, .int), (cA 1, .byte), (cA 2, .boolean), (cA 3, .long), (cA 4, .object "DonkeysHour$Beast"), (cA 5, .object "DonkeysHour$Scene")]
def own (Δ : DT) : Nat → Prop := fun q => Δ.2.1 ≤ q
def FOk (Δ : DT) (Γ : FT) (md : MD) (d : Nat) : Prop :=
  Γ.1.tables.exec = Jvm.exec ∧ Γ.2.2.2.2.2.2.2.2.1.code = md.2.1 ∧ Γ.2.2.2.2.2.2.2.2.1.maxLocals = md.2.2.1 ∧ Γ.2.2.2.2.2.2.2.1.sig.returnType = md.2.2.2.1 ∧ Γ.2.2.2.2.2.2.2.1.locks = false ∧ Γ.2.2.2.2.2.2.2.1.name = md.1.name ∧
  Γ.2.2.2.1.vm.findClass md.1.cls = some Γ.2.2.2.2.1.cls ∧ (∀ w ∈ tblG, w.before Γ.2.2.2.2.2.1 Γ.2.2.2.1 = true) ∧ va_K Δ.2.2.1 vwCl (tys Δ.2.2.2) Γ.2.2.2.1 ∧ Δ.2.1 ≤ Γ.2.2.2.1.heap.size ∧ d ≤ Γ.2.2.1.frames ∧ 40 * d ≤ Γ.2.2.1.locals ∧ md.2.2.2.2.all (chkE md) = true
theorem FOk.exec {Δ : DT} {Γ : FT} {md : MD} {d : Nat} (F : FOk Δ Γ md d) : Γ.1.tables.exec = Jvm.exec := F.1
theorem FOk.bytes {Δ : DT} {Γ : FT} {md : MD} {d : Nat} (F : FOk Δ Γ md d) : Γ.2.2.2.2.2.2.2.2.1.code = md.2.1 := F.2.1
theorem FOk.maxL {Δ : DT} {Γ : FT} {md : MD} {d : Nat} (F : FOk Δ Γ md d) : Γ.2.2.2.2.2.2.2.2.1.maxLocals = md.2.2.1 := F.2.2.1
theorem FOk.ret {Δ : DT} {Γ : FT} {md : MD} {d : Nat} (F : FOk Δ Γ md d) : Γ.2.2.2.2.2.2.2.1.sig.returnType = md.2.2.2.1 := F.2.2.2.1
theorem FOk.locks {Δ : DT} {Γ : FT} {md : MD} {d : Nat} (F : FOk Δ Γ md d) : Γ.2.2.2.2.2.2.2.1.locks = false := F.2.2.2.2.1
theorem FOk.name {Δ : DT} {Γ : FT} {md : MD} {d : Nat} (F : FOk Δ Γ md d) : Γ.2.2.2.2.2.2.2.1.name = md.1.name := F.2.2.2.2.2.1
theorem FOk.own {Δ : DT} {Γ : FT} {md : MD} {d : Nat} (F : FOk Δ Γ md d) : Γ.2.2.2.1.vm.findClass md.1.cls = some Γ.2.2.2.2.1.cls := F.2.2.2.2.2.2.1
theorem FOk.ts {Δ : DT} {Γ : FT} {md : MD} {d : Nat} (F : FOk Δ Γ md d) : ∀ w ∈ tblG, w.before Γ.2.2.2.2.2.1 Γ.2.2.2.1 = true := F.2.2.2.2.2.2.2.1
theorem FOk.kinds {Δ : DT} {Γ : FT} {md : MD} {d : Nat} (F : FOk Δ Γ md d) : va_K Δ.2.2.1 vwCl (tys Δ.2.2.2) Γ.2.2.2.1 := F.2.2.2.2.2.2.2.2.1
theorem FOk.base {Δ : DT} {Γ : FT} {md : MD} {d : Nat} (F : FOk Δ Γ md d) : Δ.2.1 ≤ Γ.2.2.2.1.heap.size := F.2.2.2.2.2.2.2.2.2.1
theorem FOk.fr {Δ : DT} {Γ : FT} {md : MD} {d : Nat} (F : FOk Δ Γ md d) : d ≤ Γ.2.2.1.frames := F.2.2.2.2.2.2.2.2.2.2.1
theorem FOk.lo {Δ : DT} {Γ : FT} {md : MD} {d : Nat} (F : FOk Δ Γ md d) : 40 * d ≤ Γ.2.2.1.locals := F.2.2.2.2.2.2.2.2.2.2.2.1
theorem FOk.good {Δ : DT} {Γ : FT} {md : MD} {d : Nat} (F : FOk Δ Γ md d) : md.2.2.2.2.all (chkE md) = true := F.2.2.2.2.2.2.2.2.2.2.2.2
/-- the locals that are known: no long among them; vN: nothing is known -/
def lvlA (B : Nat) : Nat → List PV → List (Nat × Value)
  | _, [] => []
  | i, v :: vs => match v with
    | .inl n => (i, .int (Int32.ofInt n)) :: lvlA B (i + 1) vs
    | .inr (.inl (some a)) => (i, .ref (B + a)) :: lvlA B (i + 1) vs
    | .inr (.inl none) => lvlA B (i + 1) vs
    | .inr (.inr _) => lvlA B (i + 1) vs
theorem lvlA_mem (B : Nat) : ∀ (L : List PV) (i : Nat) (q : Nat × Value), q ∈ lvlA B i L ↔ ∃ (j : Nat) (v : PV), L[j]? = some v ∧ ((∃ n, v = vI n) ∨ ∃ a, v = vR a) ∧ q = (i + j, rep B v) := by
  intro L
  induction L with
  | nil => intro i q; simp [lvlA]
  | cons v0 vs ih =>
    intro i q
    have tail : (∃ (j : Nat) (v : PV), vs[j]? = some v ∧ ((∃ n, v = vI n) ∨ ∃ a, v = vR a) ∧ q = (i + 1 + j, rep B v)) ↔ ∃ (j : Nat) (v : PV), 0 < j ∧ (v0 :: vs)[j]? = some v ∧ ((∃ n, v = vI n) ∨ ∃ a, v = vR a) ∧ q = (i + j, rep B v) := by
      constructor
      · rintro ⟨j, v, h1, h2, h3⟩
        exact ⟨j + 1, v, by omega, by simpa using h1, h2, by rw [h3, show i + 1 + j = i + (j + 1) by omega]⟩
      · rintro ⟨j, v, h0, h1, h2, h3⟩
        obtain ⟨k, rfl⟩ : ∃ k, j = k + 1 := ⟨j - 1, by omega⟩
        exact ⟨k, v, by simpa using h1, h2, by rw [h3, show i + 1 + k = i + (k + 1) by omega]⟩
    have split0 : (∃ (j : Nat) (v : PV), (v0 :: vs)[j]? = some v ∧ ((∃ n, v = vI n) ∨ ∃ a, v = vR a) ∧ q = (i + j, rep B v)) ↔ ((((∃ n, v0 = vI n) ∨ ∃ a, v0 = vR a) ∧ q = (i, rep B v0)) ∨ ∃ (j : Nat) (v : PV), 0 < j ∧ (v0 :: vs)[j]? = some v ∧ ((∃ n, v = vI n) ∨ ∃ a, v = vR a) ∧ q = (i + j, rep B v)) := by
      constructor
      · rintro ⟨j, v, h1, h2, h3⟩
        rcases Nat.eq_zero_or_pos j with rfl | hj
        · have e : v0 = v := by simpa using h1
          subst e
          exact Or.inl ⟨h2, h3⟩
        · exact Or.inr ⟨j, v, hj, h1, h2, h3⟩
      · rintro (⟨h1, h2⟩ | ⟨j, v, _, h1, h2, h3⟩)
        · exact ⟨0, v0, rfl, h1, h2⟩
        · exact ⟨j, v, h1, h2, h3⟩
    rw [split0, ← tail, ← ih (i + 1) q]
    rcases v0 with n | (_ | a) | n
    · simp [lvlA, rep]
    · simp [lvlA]
    · simp [lvlA, rep]
    · simp [lvlA]
def lvr (B : Nat) (ls : Array Slot) (nL : Nat) (L : List PV) : Prop := lv_has ls nL (lvlA B 0 L)
theorem lvr.get {B : Nat} {ls : Array Slot} {nL : Nat} {L : List PV} (h : lvr B ls nL L) {i : Nat} {v : PV} (hi : L[i]? = some v) (hv : (∃ n, v = vI n) ∨ ∃ a, v = vR a) : ls[i]? = some (.val (rep B v)) :=
  h.2.2 (i, rep B v) ((lvlA_mem B L 0 _).mpr ⟨i, v, hi, hv, by simp⟩)
theorem lvr.set {B : Nat} {ls' : Array Slot} {nL : Nat} {L : List PV} {i : Nat} {v : PV} {x : Value} (hx : ((∃ n, v = vI n) ∨ ∃ a, v = vR a) → x = rep B v) (h : lv_has ls' nL ((i, x) :: (lvlA B 0 L).filter (fun q => !(q.1 == i) && !(q.1 + 1 == i && q.2.category == 2)))) : lvr B ls' nL (L.set i v) := by
  refine ⟨h.1, h.2.1, fun q hq => h.2.2 q ?_⟩
  obtain ⟨j, u, h1, h2, rfl⟩ := (lvlA_mem B _ 0 _).mp hq
  rw [Nat.zero_add]
  rw [List.getElem?_set] at h1
  by_cases hij : i = j
  · subst hij
    rw [if_pos rfl] at h1
    split at h1
    next => cases h1; rw [← hx h2]; exact List.mem_cons_self
    next => cases h1
  · rw [if_neg hij] at h1
    refine List.mem_cons_of_mem _ (List.mem_filter.mpr ⟨(lvlA_mem B L 0 _).mpr ⟨j, u, h1, h2, by simp⟩, ?_⟩)
    have hc : (rep B u).category = 1 := by
      rcases h2 with ⟨n, rfl⟩ | ⟨a, rfl⟩ <;> rfl
    simp [hc, Ne.symm hij]
theorem lvr.set_eq {B : Nat} {ls : Array Slot} {nL : Nat} {L L' : List PV} (h : lvr B ls nL L) (e : L = L') : lvr B ls nL L' := e ▸ h
def WAt (Δ : DT) (Γ : FT) (fl : Bool) (md : MD) (d pc : Nat) (L st : List PV) (w : WD) (cells slots : Nat) : Prop :=
  FOk Δ Γ md d → okVs L → okVs st → okM w.2.2 → ∀ (ls : Array Slot) (H : Heap) (locs : List Loc), lvr Δ.2.1 ls md.2.2.1 L → va_P Δ.2.2.1 vwCl (wL Δ.2.1 Δ.2.2.2 w) H → va_S (own Δ) Γ.2.2.2.1.heap H locs → (fl = true → H.size = Δ.2.1 + w.1) →
    W Γ.1 Δ.1 Γ.2.1 Γ.2.2.1 Γ.2.2.2.1 Γ.2.2.2.2.1 Γ.2.2.2.2.2.1 Γ.2.2.2.2.2.2.1 Γ.2.2.2.2.2.2.2.1 Γ.2.2.2.2.2.2.2.2.1 H locs cells slots Γ.2.2.2.2.2.2.2.2.2 (F0 Γ.2.2.2.2.1 pc ls (st.map (rep Δ.2.1)))
end
section
theorem w_iconst {Δ : DT} {Γ : FT} {fl : Bool} {md : MD} {d pc pc0 npc k1 k2 k3 : Nat} {mn : MethodName} {L st : List PV} {w : WD} {cells slots : Nat} {n : Int} (hi : lk md pc = some (pc0, Instr.iconst n, npc, k1, k2, k3, mn)) (hn : InR n) (k : WAt Δ Γ fl md d npc L (vI n :: st) w cells slots) : WAt Δ Γ fl md d pc L (st) w cells slots := by
  intro F hL hst hM ls H locs hl hP hS hz
  obtain ⟨-, hd, rfl, hq⟩ := lk_ok hi F.good
  exact lv_iconst F.exec F.bytes hd rfl (k F hL (hst.cons hn) hM ls H locs hl hP hS hz)
theorem bip_id {n : Int} (h : -128 ≤ n ∧ n < 128) : (Int8.ofInt n).toInt32 = Int32.ofInt n := by
  apply Int32.toInt_inj.mp
  rw [Int8.toInt_toInt32, Int8.toInt_ofInt_of_le (by omega) (by omega), iI_toInt (by unfold InR; omega)]
theorem sip_id {n : Int} (h : -32768 ≤ n ∧ n < 32768) : (Int16.ofInt n).toInt32 = Int32.ofInt n := by
  apply Int32.toInt_inj.mp
  rw [Int16.toInt_toInt32, Int16.toInt_ofInt_of_le (by omega) (by omega), iI_toInt (by unfold InR; omega)]
theorem w_bipush {Δ : DT} {Γ : FT} {fl : Bool} {md : MD} {d pc pc0 npc k1 k2 k3 : Nat} {mn : MethodName} {L st : List PV} {w : WD} {cells slots : Nat} {n : Int} (hi : lk md pc = some (pc0, Instr.bipush n, npc, k1, k2, k3, mn)) (hn : -128 ≤ n ∧ n < 128) (k : WAt Δ Γ fl md d npc L (vI n :: st) w cells slots) : WAt Δ Γ fl md d pc L (st) w cells slots := by
  intro F hL hst hM ls H locs hl hP hS hz
  obtain ⟨-, hd, rfl, hq⟩ := lk_ok hi F.good
  exact lv_bipush F.exec F.bytes hd (bip_id hn) (k F hL (hst.cons (show InR n by unfold InR; omega)) hM ls H locs hl hP hS hz)
theorem w_sipush {Δ : DT} {Γ : FT} {fl : Bool} {md : MD} {d pc pc0 npc k1 k2 k3 : Nat} {mn : MethodName} {L st : List PV} {w : WD} {cells slots : Nat} {n : Int} (hi : lk md pc = some (pc0, Instr.sipush n, npc, k1, k2, k3, mn)) (hn : -32768 ≤ n ∧ n < 32768) (k : WAt Δ Γ fl md d npc L (vI n :: st) w cells slots) : WAt Δ Γ fl md d pc L (st) w cells slots := by
  intro F hL hst hM ls H locs hl hP hS hz
  obtain ⟨-, hd, rfl, hq⟩ := lk_ok hi F.good
  exact lv_sipush F.exec F.bytes hd (sip_id hn) (k F hL (hst.cons (show InR n by unfold InR; omega)) hM ls H locs hl hP hS hz)
theorem w_ldcw {Δ : DT} {Γ : FT} {fl : Bool} {md : MD} {d pc pc0 npc k1 k2 k3 : Nat} {mn : MethodName} {L st : List PV} {w : WD} {cells slots : Nat} {idx : Nat} (hi : lk md pc = some (pc0, Instr.ldc_w idx, npc, k1, k2, k3, mn)) (hn : InR ((k1 : Int) - (k2 : Int))) (k : WAt Δ Γ fl md d npc L (vI ((k1 : Int) - (k2 : Int)) :: st) w cells slots) : WAt Δ Γ fl md d pc L (st) w cells slots := by
  intro F hL hst hM ls H locs hl hP hS hz
  obtain ⟨-, hd, rfl, hq⟩ := lk_ok hi F.good
  have hc := F.ts _ (wis_in hq)
  exact lv_ldcw F.exec F.bytes F.own hc hd (k F hL (hst.cons hn) hM ls H locs hl hP hS hz)
theorem w_iload_n {Δ : DT} {Γ : FT} {fl : Bool} {md : MD} {d pc pc0 npc k1 k2 k3 : Nat} {mn : MethodName} {L st : List PV} {w : WD} {cells slots : Nat} {j : Fin 4} {x : Int} (hi : lk md pc = some (pc0, Instr.iload_n j, npc, k1, k2, k3, mn)) (hx : L[(j : Nat)]? = some (vI x)) (k : WAt Δ Γ fl md d npc L (vI x :: st) w cells slots) : WAt Δ Γ fl md d pc L (st) w cells slots := by
  intro F hL hst hM ls H locs hl hP hS hz
  obtain ⟨-, hd, rfl, hq⟩ := lk_ok hi F.good
  exact lv_iload_n F.exec F.bytes hd rfl (hl.get hx (Or.inl ⟨x, rfl⟩)) (k F hL (hst.cons (hL _ (List.mem_of_getElem? hx))) hM ls H locs hl hP hS hz)
theorem w_iload {Δ : DT} {Γ : FT} {fl : Bool} {md : MD} {d pc pc0 npc k1 k2 k3 : Nat} {mn : MethodName} {L st : List PV} {w : WD} {cells slots : Nat} {i : Nat} {x : Int} (hi : lk md pc = some (pc0, Instr.iload i, npc, k1, k2, k3, mn)) (hx : L[i]? = some (vI x)) (k : WAt Δ Γ fl md d npc L (vI x :: st) w cells slots) : WAt Δ Γ fl md d pc L (st) w cells slots := by
  intro F hL hst hM ls H locs hl hP hS hz
  obtain ⟨-, hd, rfl, hq⟩ := lk_ok hi F.good
  exact lv_iload F.exec F.bytes hd (hl.get hx (Or.inl ⟨x, rfl⟩)) (k F hL (hst.cons (hL _ (List.mem_of_getElem? hx))) hM ls H locs hl hP hS hz)
theorem w_aload_n {Δ : DT} {Γ : FT} {fl : Bool} {md : MD} {d pc pc0 npc k1 k2 k3 : Nat} {mn : MethodName} {L st : List PV} {w : WD} {cells slots : Nat} {j : Fin 4} {x : Nat} (hi : lk md pc = some (pc0, Instr.aload_n j, npc, k1, k2, k3, mn)) (hx : L[(j : Nat)]? = some (vR x)) (k : WAt Δ Γ fl md d npc L (vR x :: st) w cells slots) : WAt Δ Γ fl md d pc L (st) w cells slots := by
  intro F hL hst hM ls H locs hl hP hS hz
  obtain ⟨-, hd, rfl, hq⟩ := lk_ok hi F.good
  exact lv_aload_n F.exec F.bytes hd rfl (hl.get hx (Or.inr ⟨x, rfl⟩)) (k F hL (hst.cons (hL _ (List.mem_of_getElem? hx))) hM ls H locs hl hP hS hz)
theorem w_aload {Δ : DT} {Γ : FT} {fl : Bool} {md : MD} {d pc pc0 npc k1 k2 k3 : Nat} {mn : MethodName} {L st : List PV} {w : WD} {cells slots : Nat} {i : Nat} {x : Nat} (hi : lk md pc = some (pc0, Instr.aload i, npc, k1, k2, k3, mn)) (hx : L[i]? = some (vR x)) (k : WAt Δ Γ fl md d npc L (vR x :: st) w cells slots) : WAt Δ Γ fl md d pc L (st) w cells slots := by
  intro F hL hst hM ls H locs hl hP hS hz
  obtain ⟨-, hd, rfl, hq⟩ := lk_ok hi F.good
  exact lv_aload F.exec F.bytes hd (hl.get hx (Or.inr ⟨x, rfl⟩)) (k F hL (hst.cons (hL _ (List.mem_of_getElem? hx))) hM ls H locs hl hP hS hz)
theorem okVs.set {L : List PV} (h : okVs L) {i : Nat} {v : PV} (hv : okV v) : okVs (L.set i v) := fun x hx => by
  rcases List.mem_or_eq_of_mem_set hx with h1 | rfl
  · exact h x h1
  · exact hv
theorem w_istore_n {Δ : DT} {Γ : FT} {fl : Bool} {md : MD} {d pc pc0 npc k1 k2 k3 : Nat} {mn : MethodName} {L st : List PV} {w : WD} {cells slots : Nat} {j : Fin 4} {x : Int} {L' : List PV} (hi : lk md pc = some (pc0, Instr.istore_n j, npc, k1, k2, k3, mn)) (hn : (j : Nat) < md.2.2.1) (hs : L.set (j : Nat) (vI x) = L') (k : WAt Δ Γ fl md d npc L' (st) w cells slots) : WAt Δ Γ fl md d pc L (vI x :: st) w cells slots := by
  intro F hL hst hM ls H locs hl hP hS hz
  obtain ⟨-, hd, rfl, hq⟩ := lk_ok hi F.good
  subst hs
  exact lv_istore_n F.exec F.bytes hd rfl hl hn rfl (fun ls' hl' => k F (hL.set hst.hd) hst.tl hM ls' H locs (lvr.set (fun _ => rfl) hl') hP hS hz)
theorem w_istore {Δ : DT} {Γ : FT} {fl : Bool} {md : MD} {d pc pc0 npc k1 k2 k3 : Nat} {mn : MethodName} {L st : List PV} {w : WD} {cells slots : Nat} {i : Nat} {x : Int} {L' : List PV} (hi : lk md pc = some (pc0, Instr.istore i, npc, k1, k2, k3, mn)) (hn : i < md.2.2.1) (hs : L.set i (vI x) = L') (k : WAt Δ Γ fl md d npc L' (st) w cells slots) : WAt Δ Γ fl md d pc L (vI x :: st) w cells slots := by
  intro F hL hst hM ls H locs hl hP hS hz
  obtain ⟨-, hd, rfl, hq⟩ := lk_ok hi F.good
  subst hs
  exact lv_istore F.exec F.bytes hd hl hn rfl (fun ls' hl' => k F (hL.set hst.hd) hst.tl hM ls' H locs (lvr.set (fun _ => rfl) hl') hP hS hz)
theorem w_astore_n {Δ : DT} {Γ : FT} {fl : Bool} {md : MD} {d pc pc0 npc k1 k2 k3 : Nat} {mn : MethodName} {L st : List PV} {w : WD} {cells slots : Nat} {j : Fin 4} {x : Nat} {L' : List PV} (hi : lk md pc = some (pc0, Instr.astore_n j, npc, k1, k2, k3, mn)) (hn : (j : Nat) < md.2.2.1) (hs : L.set (j : Nat) (vR x) = L') (k : WAt Δ Γ fl md d npc L' (st) w cells slots) : WAt Δ Γ fl md d pc L (vR x :: st) w cells slots := by
  intro F hL hst hM ls H locs hl hP hS hz
  obtain ⟨-, hd, rfl, hq⟩ := lk_ok hi F.good
  subst hs
  exact lv_astore_n F.exec F.bytes hd rfl hl hn rfl (fun ls' hl' => k F (hL.set hst.hd) hst.tl hM ls' H locs (lvr.set (fun _ => rfl) hl') hP hS hz)
theorem w_astore {Δ : DT} {Γ : FT} {fl : Bool} {md : MD} {d pc pc0 npc k1 k2 k3 : Nat} {mn : MethodName} {L st : List PV} {w : WD} {cells slots : Nat} {i : Nat} {x : Nat} {L' : List PV} (hi : lk md pc = some (pc0, Instr.astore i, npc, k1, k2, k3, mn)) (hn : i < md.2.2.1) (hs : L.set i (vR x) = L') (k : WAt Δ Γ fl md d npc L' (st) w cells slots) : WAt Δ Γ fl md d pc L (vR x :: st) w cells slots := by
  intro F hL hst hM ls H locs hl hP hS hz
  obtain ⟨-, hd, rfl, hq⟩ := lk_ok hi F.good
  subst hs
  exact lv_astore F.exec F.bytes hd hl hn rfl (fun ls' hl' => k F (hL.set hst.hd) hst.tl hM ls' H locs (lvr.set (fun _ => rfl) hl') hP hS hz)
theorem w_iinc {Δ : DT} {Γ : FT} {fl : Bool} {md : MD} {d pc pc0 npc k1 k2 k3 : Nat} {mn : MethodName} {L st : List PV} {w : WD} {cells slots : Nat} {i : Nat} {n x : Int} {L' : List PV} (hi : lk md pc = some (pc0, Instr.iinc i n, npc, k1, k2, k3, mn)) (hx : L[i]? = some (vI x)) (hn : i < md.2.2.1) (hs : L.set i (vI (wr (x + n))) = L') (k : WAt Δ Γ fl md d npc L' (st) w cells slots) : WAt Δ Γ fl md d pc L (st) w cells slots := by
  intro F hL hst hM ls H locs hl hP hS hz
  obtain ⟨-, hd, rfl, hq⟩ := lk_ok hi F.good
  subst hs
  have hm : (i, Value.int (Int32.ofInt x)) ∈ lvlA Δ.2.1 0 L := (lvlA_mem _ L 0 _).mpr ⟨i, vI x, hx, Or.inl ⟨x, rfl⟩, by simp [rep]⟩
  obtain ⟨j, hj⟩ := List.getElem?_of_mem hm
  exact lv_iinc F.exec F.bytes hd hl hj (v := Int32.ofInt (wr (x + n))) (iI_add x n) hn rfl (fun ls' hl' => k F (hL.set (wr_in _)) hst hM ls' H locs (lvr.set (fun _ => rfl) hl') hP hS hz)
theorem w_iadd {Δ : DT} {Γ : FT} {fl : Bool} {md : MD} {d pc pc0 npc k1 k2 k3 : Nat} {mn : MethodName} {L st : List PV} {w : WD} {cells slots : Nat} {x y : Int} (hi : lk md pc = some (pc0, Instr.iadd, npc, k1, k2, k3, mn)) (k : WAt Δ Γ fl md d npc L (vI (wr (x + y)) :: st) w cells slots) : WAt Δ Γ fl md d pc L (vI y :: vI x :: st) w cells slots := by
  intro F hL hst hM ls H locs hl hP hS hz
  obtain ⟨-, hd, rfl, hq⟩ := lk_ok hi F.good
  refine lv_iadd F.exec F.bytes hd ?_
  rw [iI_add x y]
  exact k F hL (hst.tl.tl.cons (wr_in _)) hM ls H locs hl hP hS hz
theorem w_isub {Δ : DT} {Γ : FT} {fl : Bool} {md : MD} {d pc pc0 npc k1 k2 k3 : Nat} {mn : MethodName} {L st : List PV} {w : WD} {cells slots : Nat} {x y : Int} (hi : lk md pc = some (pc0, Instr.isub, npc, k1, k2, k3, mn)) (k : WAt Δ Γ fl md d npc L (vI (wr (x - y)) :: st) w cells slots) : WAt Δ Γ fl md d pc L (vI y :: vI x :: st) w cells slots := by
  intro F hL hst hM ls H locs hl hP hS hz
  obtain ⟨-, hd, rfl, hq⟩ := lk_ok hi F.good
  refine lv_isub F.exec F.bytes hd ?_
  rw [iI_sub x y]
  exact k F hL (hst.tl.tl.cons (wr_in _)) hM ls H locs hl hP hS hz
theorem w_imul {Δ : DT} {Γ : FT} {fl : Bool} {md : MD} {d pc pc0 npc k1 k2 k3 : Nat} {mn : MethodName} {L st : List PV} {w : WD} {cells slots : Nat} {x y : Int} (hi : lk md pc = some (pc0, Instr.imul, npc, k1, k2, k3, mn)) (k : WAt Δ Γ fl md d npc L (vI (wr (x * y)) :: st) w cells slots) : WAt Δ Γ fl md d pc L (vI y :: vI x :: st) w cells slots := by
  intro F hL hst hM ls H locs hl hP hS hz
  obtain ⟨-, hd, rfl, hq⟩ := lk_ok hi F.good
  refine lv_imul F.exec F.bytes hd ?_
  rw [iI_mul x y]
  exact k F hL (hst.tl.tl.cons (wr_in _)) hM ls H locs hl hP hS hz
theorem ne0 {y : Int} (hy : InR y) (h : y ≠ 0) : ¬ Int32.ofInt y = 0 := fun e => h ((iI_inj hy (by unfold InR; omega)).mp (e.trans iI_0.symm))
theorem w_idiv {Δ : DT} {Γ : FT} {fl : Bool} {md : MD} {d pc pc0 npc k1 k2 k3 : Nat} {mn : MethodName} {L st : List PV} {w : WD} {cells slots : Nat} {x y : Int} (hi : lk md pc = some (pc0, Instr.idiv, npc, k1, k2, k3, mn)) (hy : y ≠ 0) (k : WAt Δ Γ fl md d npc L (vI (wr (x.tdiv y)) :: st) w cells slots) : WAt Δ Γ fl md d pc L (vI y :: vI x :: st) w cells slots := by
  intro F hL hst hM ls H locs hl hP hS hz
  obtain ⟨-, hd, rfl, hq⟩ := lk_ok hi F.good
  refine lv_idiv F.exec F.bytes hd (ne0 hst.hd hy) ?_
  rw [iI_div hst.tl.hd hst.hd]
  exact k F hL (hst.tl.tl.cons (wr_in _)) hM ls H locs hl hP hS hz
theorem w_irem {Δ : DT} {Γ : FT} {fl : Bool} {md : MD} {d pc pc0 npc k1 k2 k3 : Nat} {mn : MethodName} {L st : List PV} {w : WD} {cells slots : Nat} {x y : Int} (hi : lk md pc = some (pc0, Instr.irem, npc, k1, k2, k3, mn)) (hy : y ≠ 0) (k : WAt Δ Γ fl md d npc L (vI (x.tmod y) :: st) w cells slots) : WAt Δ Γ fl md d pc L (vI y :: vI x :: st) w cells slots := by
  intro F hL hst hM ls H locs hl hP hS hz
  obtain ⟨-, hd, rfl, hq⟩ := lk_ok hi F.good
  refine lv_irem F.exec F.bytes hd (ne0 hst.hd hy) ?_
  rw [iI_rem hst.tl.hd hst.hd]
  exact k F hL (hst.tl.tl.cons (tmod_in hst.tl.hd)) hM ls H locs hl hP hS hz
theorem w_ineg {Δ : DT} {Γ : FT} {fl : Bool} {md : MD} {d pc pc0 npc k1 k2 k3 : Nat} {mn : MethodName} {L st : List PV} {w : WD} {cells slots : Nat} {x : Int} (hi : lk md pc = some (pc0, Instr.ineg, npc, k1, k2, k3, mn)) (k : WAt Δ Γ fl md d npc L (vI (wr (-x)) :: st) w cells slots) : WAt Δ Γ fl md d pc L (vI x :: st) w cells slots := by
  intro F hL hst hM ls H locs hl hP hS hz
  obtain ⟨-, hd, rfl, hq⟩ := lk_ok hi F.good
  refine lv_ineg F.exec F.bytes hd ?_
  rw [iI_neg]
  exact k F hL (hst.tl.cons (wr_in _)) hM ls H locs hl hP hS hz
theorem w_iand {Δ : DT} {Γ : FT} {fl : Bool} {md : MD} {d pc pc0 npc k1 k2 k3 : Nat} {mn : MethodName} {L st : List PV} {w : WD} {cells slots : Nat} {x y : Int} (hi : lk md pc = some (pc0, Instr.iand, npc, k1, k2, k3, mn)) (k : WAt Δ Γ fl md d npc L (vI (ish i_and x y) :: st) w cells slots) : WAt Δ Γ fl md d pc L (vI y :: vI x :: st) w cells slots := by
  intro F hL hst hM ls H locs hl hP hS hz
  obtain ⟨-, hd, rfl, hq⟩ := lk_ok hi F.good
  refine lv_iand F.exec F.bytes hd ?_
  have h := k F hL (hst.tl.tl.cons (ish_in i_and x y)) hM ls H locs hl hP hS hz
  simp only [List.map_cons, rep, iI_ish, i_and] at h
  exact h
theorem w_ior {Δ : DT} {Γ : FT} {fl : Bool} {md : MD} {d pc pc0 npc k1 k2 k3 : Nat} {mn : MethodName} {L st : List PV} {w : WD} {cells slots : Nat} {x y : Int} (hi : lk md pc = some (pc0, Instr.ior, npc, k1, k2, k3, mn)) (k : WAt Δ Γ fl md d npc L (vI (ish i_or x y) :: st) w cells slots) : WAt Δ Γ fl md d pc L (vI y :: vI x :: st) w cells slots := by
  intro F hL hst hM ls H locs hl hP hS hz
  obtain ⟨-, hd, rfl, hq⟩ := lk_ok hi F.good
  refine lv_ior F.exec F.bytes hd ?_
  have h := k F hL (hst.tl.tl.cons (ish_in i_or x y)) hM ls H locs hl hP hS hz
  simp only [List.map_cons, rep, iI_ish, i_or] at h
  exact h
theorem w_ishl {Δ : DT} {Γ : FT} {fl : Bool} {md : MD} {d pc pc0 npc k1 k2 k3 : Nat} {mn : MethodName} {L st : List PV} {w : WD} {cells slots : Nat} {x y : Int} (hi : lk md pc = some (pc0, Instr.ishl, npc, k1, k2, k3, mn)) (k : WAt Δ Γ fl md d npc L (vI (ish i_shl x y) :: st) w cells slots) : WAt Δ Γ fl md d pc L (vI y :: vI x :: st) w cells slots := by
  intro F hL hst hM ls H locs hl hP hS hz
  obtain ⟨-, hd, rfl, hq⟩ := lk_ok hi F.good
  refine lv_ishl F.exec F.bytes hd ?_
  have h := k F hL (hst.tl.tl.cons (ish_in i_shl x y)) hM ls H locs hl hP hS hz
  simp only [List.map_cons, rep, iI_ish, i_shl] at h
  exact h
theorem w_ishr {Δ : DT} {Γ : FT} {fl : Bool} {md : MD} {d pc pc0 npc k1 k2 k3 : Nat} {mn : MethodName} {L st : List PV} {w : WD} {cells slots : Nat} {x y : Int} (hi : lk md pc = some (pc0, Instr.ishr, npc, k1, k2, k3, mn)) (k : WAt Δ Γ fl md d npc L (vI (ish i_shr x y) :: st) w cells slots) : WAt Δ Γ fl md d pc L (vI y :: vI x :: st) w cells slots := by
  intro F hL hst hM ls H locs hl hP hS hz
  obtain ⟨-, hd, rfl, hq⟩ := lk_ok hi F.good
  refine lv_ishr F.exec F.bytes hd ?_
  have h := k F hL (hst.tl.tl.cons (ish_in i_shr x y)) hM ls H locs hl hP hS hz
  simp only [List.map_cons, rep, iI_ish, i_shr] at h
  exact h
theorem w_iushr {Δ : DT} {Γ : FT} {fl : Bool} {md : MD} {d pc pc0 npc k1 k2 k3 : Nat} {mn : MethodName} {L st : List PV} {w : WD} {cells slots : Nat} {x y : Int} (hi : lk md pc = some (pc0, Instr.iushr, npc, k1, k2, k3, mn)) (k : WAt Δ Γ fl md d npc L (vI (ish i_ushr x y) :: st) w cells slots) : WAt Δ Γ fl md d pc L (vI y :: vI x :: st) w cells slots := by
  intro F hL hst hM ls H locs hl hP hS hz
  obtain ⟨-, hd, rfl, hq⟩ := lk_ok hi F.good
  exact lv_iushr F.exec F.bytes hd (iI_ish i_ushr x y).symm (k F hL (hst.tl.tl.cons (ish_in i_ushr x y)) hM ls H locs hl hP hS hz)
theorem w_i2b {Δ : DT} {Γ : FT} {fl : Bool} {md : MD} {d pc pc0 npc k1 k2 k3 : Nat} {mn : MethodName} {L st : List PV} {w : WD} {cells slots : Nat} {x : Int} (hi : lk md pc = some (pc0, Instr.i2b, npc, k1, k2, k3, mn)) (k : WAt Δ Γ fl md d npc L (vI (sx8 x) :: st) w cells slots) : WAt Δ Γ fl md d pc L (vI x :: st) w cells slots := by
  intro F hL hst hM ls H locs hl hP hS hz
  obtain ⟨-, hd, rfl, hq⟩ := lk_ok hi F.good
  exact lv_i2b F.exec F.bytes hd (iI_sx8 hst.hd) (k F hL (hst.tl.cons (sx8_in x)) hM ls H locs hl hP hS hz)
theorem w_i2s {Δ : DT} {Γ : FT} {fl : Bool} {md : MD} {d pc pc0 npc k1 k2 k3 : Nat} {mn : MethodName} {L st : List PV} {w : WD} {cells slots : Nat} {x : Int} (hi : lk md pc = some (pc0, Instr.i2s, npc, k1, k2, k3, mn)) (k : WAt Δ Γ fl md d npc L (vI (sx16 x) :: st) w cells slots) : WAt Δ Γ fl md d pc L (vI x :: st) w cells slots := by
  intro F hL hst hM ls H locs hl hP hS hz
  obtain ⟨-, hd, rfl, hq⟩ := lk_ok hi F.good
  exact lv_i2s F.exec F.bytes hd (iI_sx16 hst.hd) (k F hL (hst.tl.cons (sx16_in x)) hM ls H locs hl hP hS hz)
theorem rep_cat {B : Nat} {v : PV} (h : ∀ n, v ≠ vL n) : (rep B v).category = 1 := by
  rcases v with n | (_ | a) | n
  · rfl
  · rfl
  · rfl
  · exact absurd rfl (h n)
theorem w_dup {Δ : DT} {Γ : FT} {fl : Bool} {md : MD} {d pc pc0 npc k1 k2 k3 : Nat} {mn : MethodName} {L st : List PV} {w : WD} {cells slots : Nat} {v : PV} (hi : lk md pc = some (pc0, Instr.dup, npc, k1, k2, k3, mn)) (hv : ∀ n, v ≠ vL n) (k : WAt Δ Γ fl md d npc L (v :: v :: st) w cells slots) : WAt Δ Γ fl md d pc L (v :: st) w cells slots := by
  intro F hL hst hM ls H locs hl hP hS hz
  obtain ⟨-, hd, rfl, hq⟩ := lk_ok hi F.good
  exact lv_dup F.exec F.bytes hd (rep_cat hv) (k F hL (hst.cons hst.hd) hM ls H locs hl hP hS hz)
theorem w_dup2 {Δ : DT} {Γ : FT} {fl : Bool} {md : MD} {d pc pc0 npc k1 k2 k3 : Nat} {mn : MethodName} {L st : List PV} {w : WD} {cells slots : Nat} {v u : PV} (hi : lk md pc = some (pc0, Instr.dup2, npc, k1, k2, k3, mn)) (hv : ∀ n, v ≠ vL n) (hu : ∀ n, u ≠ vL n) (k : WAt Δ Γ fl md d npc L (v :: u :: v :: u :: st) w cells slots) : WAt Δ Γ fl md d pc L (v :: u :: st) w cells slots := by
  intro F hL hst hM ls H locs hl hP hS hz
  obtain ⟨-, hd, rfl, hq⟩ := lk_ok hi F.good
  exact lv_dup2_11 F.exec F.bytes hd (rep_cat hv) (rep_cat hu) (k F hL ((hst.cons hst.tl.hd).cons hst.hd) hM ls H locs hl hP hS hz)
theorem w_dup_x1 {Δ : DT} {Γ : FT} {fl : Bool} {md : MD} {d pc pc0 npc k1 k2 k3 : Nat} {mn : MethodName} {L st : List PV} {w : WD} {cells slots : Nat} {v u : PV} (hi : lk md pc = some (pc0, Instr.dup_x1, npc, k1, k2, k3, mn)) (hv : ∀ n, v ≠ vL n) (hu : ∀ n, u ≠ vL n) (k : WAt Δ Γ fl md d npc L (v :: u :: v :: st) w cells slots) : WAt Δ Γ fl md d pc L (v :: u :: st) w cells slots := by
  intro F hL hst hM ls H locs hl hP hS hz
  obtain ⟨-, hd, rfl, hq⟩ := lk_ok hi F.good
  exact lv_dup_x1 F.exec F.bytes hd (rep_cat hv) (rep_cat hu) (k F hL (((hst.tl.tl.cons hst.hd).cons hst.tl.hd).cons hst.hd) hM ls H locs hl hP hS hz)
theorem w_pop {Δ : DT} {Γ : FT} {fl : Bool} {md : MD} {d pc pc0 npc k1 k2 k3 : Nat} {mn : MethodName} {L st : List PV} {w : WD} {cells slots : Nat} {v : PV} (hi : lk md pc = some (pc0, Instr.pop, npc, k1, k2, k3, mn)) (hv : ∀ n, v ≠ vL n) (k : WAt Δ Γ fl md d npc L (st) w cells slots) : WAt Δ Γ fl md d pc L (v :: st) w cells slots := by
  intro F hL hst hM ls H locs hl hP hS hz
  obtain ⟨-, hd, rfl, hq⟩ := lk_ok hi F.good
  exact lv_pop F.exec F.bytes hd (rep_cat hv) (k F hL hst.tl hM ls H locs hl hP hS hz)
theorem w_null {Δ : DT} {Γ : FT} {fl : Bool} {md : MD} {d pc pc0 npc k1 k2 k3 : Nat} {mn : MethodName} {L st : List PV} {w : WD} {cells slots : Nat}  (hi : lk md pc = some (pc0, Instr.aconst_null, npc, k1, k2, k3, mn)) (k : WAt Δ Γ fl md d npc L (vN :: st) w cells slots) : WAt Δ Γ fl md d pc L (st) w cells slots := by
  intro F hL hst hM ls H locs hl hP hS hz
  obtain ⟨-, hd, rfl, hq⟩ := lk_ok hi F.good
  exact lv_null F.exec F.bytes hd (k F hL (hst.cons (show okV vN from trivial)) hM ls H locs hl hP hS hz)
theorem tgt_of {pc x : Nat} {off : Int} (h : decide ((pc : Int) + off = (x : Int)) = true) : (pc : Int) + off = (x : Int) := of_decide_eq_true h
theorem w_goto {Δ : DT} {Γ : FT} {fl : Bool} {md : MD} {d pc pc0 npc k1 k2 k3 : Nat} {mn : MethodName} {L st : List PV} {w : WD} {cells slots : Nat} {off : Int} (hi : lk md pc = some (pc0, Instr.goto off, npc, k1, k2, k3, mn)) (k : WAt Δ Γ fl md d k1 L st w cells slots) : WAt Δ Γ fl md d pc L (st) w cells slots := by
  intro F hL hst hM ls H locs hl hP hS hz
  obtain ⟨-, hd, rfl, hq⟩ := lk_ok hi F.good
  exact lv_goto F.exec F.bytes hd (tgt_of hq) (k F hL hst hM ls H locs hl hP hS hz)
theorem w_icmp_eq {Δ : DT} {Γ : FT} {fl : Bool} {md : MD} {d pc pc0 npc k1 k2 k3 : Nat} {mn : MethodName} {L st : List PV} {w : WD} {cells slots : Nat} {off : Int} {x y : Int} (hi : lk md pc = some (pc0, Instr.if_icmp .eq off, npc, k1, k2, k3, mn)) (kt : x = y → WAt Δ Γ fl md d k1 L st w cells slots) (kf : ¬ (x = y) → WAt Δ Γ fl md d npc L (st) w cells slots) : WAt Δ Γ fl md d pc L (vI y :: vI x :: st) w cells slots := by
  intro F hL hst hM ls H locs hl hP hS hz
  obtain ⟨-, hd, rfl, hq⟩ := lk_ok hi F.good
  have hx : InR x := hst.tl.hd
  have hy : InR y := hst.hd
  exact lv_icmp_eq F.exec F.bytes hd (tgt_of hq) (fun h => kt ((iI_inj hx hy).mp h) F hL hst.tl.tl hM ls H locs hl hP hS hz) (fun h => kf (fun q => h ((iI_inj hx hy).mpr q)) F hL hst.tl.tl hM ls H locs hl hP hS hz)
theorem w_icmp_ne {Δ : DT} {Γ : FT} {fl : Bool} {md : MD} {d pc pc0 npc k1 k2 k3 : Nat} {mn : MethodName} {L st : List PV} {w : WD} {cells slots : Nat} {off : Int} {x y : Int} (hi : lk md pc = some (pc0, Instr.if_icmp .ne off, npc, k1, k2, k3, mn)) (kt : ¬ x = y → WAt Δ Γ fl md d k1 L st w cells slots) (kf : x = y → WAt Δ Γ fl md d npc L (st) w cells slots) : WAt Δ Γ fl md d pc L (vI y :: vI x :: st) w cells slots := by
  intro F hL hst hM ls H locs hl hP hS hz
  obtain ⟨-, hd, rfl, hq⟩ := lk_ok hi F.good
  have hx : InR x := hst.tl.hd
  have hy : InR y := hst.hd
  exact lv_icmp_ne F.exec F.bytes hd (tgt_of hq) (fun h => kt (fun q => h ((iI_inj hx hy).mpr q)) F hL hst.tl.tl hM ls H locs hl hP hS hz) (fun h => kf ((iI_inj hx hy).mp h) F hL hst.tl.tl hM ls H locs hl hP hS hz)
theorem w_icmp_lt {Δ : DT} {Γ : FT} {fl : Bool} {md : MD} {d pc pc0 npc k1 k2 k3 : Nat} {mn : MethodName} {L st : List PV} {w : WD} {cells slots : Nat} {off : Int} {x y : Int} (hi : lk md pc = some (pc0, Instr.if_icmp .lt off, npc, k1, k2, k3, mn)) (kt : x < y → WAt Δ Γ fl md d k1 L st w cells slots) (kf : ¬ (x < y) → WAt Δ Γ fl md d npc L (st) w cells slots) : WAt Δ Γ fl md d pc L (vI y :: vI x :: st) w cells slots := by
  intro F hL hst hM ls H locs hl hP hS hz
  obtain ⟨-, hd, rfl, hq⟩ := lk_ok hi F.good
  have hx : InR x := hst.tl.hd
  have hy : InR y := hst.hd
  exact lv_icmp_lt F.exec F.bytes hd (tgt_of hq) (fun h => kt ((iI_lt hx hy).mp h) F hL hst.tl.tl hM ls H locs hl hP hS hz) (fun h => kf (fun q => h ((iI_lt hx hy).mpr q)) F hL hst.tl.tl hM ls H locs hl hP hS hz)
theorem w_icmp_ge {Δ : DT} {Γ : FT} {fl : Bool} {md : MD} {d pc pc0 npc k1 k2 k3 : Nat} {mn : MethodName} {L st : List PV} {w : WD} {cells slots : Nat} {off : Int} {x y : Int} (hi : lk md pc = some (pc0, Instr.if_icmp .ge off, npc, k1, k2, k3, mn)) (kt : y ≤ x → WAt Δ Γ fl md d k1 L st w cells slots) (kf : ¬ (y ≤ x) → WAt Δ Γ fl md d npc L (st) w cells slots) : WAt Δ Γ fl md d pc L (vI y :: vI x :: st) w cells slots := by
  intro F hL hst hM ls H locs hl hP hS hz
  obtain ⟨-, hd, rfl, hq⟩ := lk_ok hi F.good
  have hx : InR x := hst.tl.hd
  have hy : InR y := hst.hd
  exact lv_icmp_ge F.exec F.bytes hd (tgt_of hq) (fun h => kt ((iI_le hy hx).mp h) F hL hst.tl.tl hM ls H locs hl hP hS hz) (fun h => kf (fun q => h ((iI_le hy hx).mpr q)) F hL hst.tl.tl hM ls H locs hl hP hS hz)
theorem w_icmp_gt {Δ : DT} {Γ : FT} {fl : Bool} {md : MD} {d pc pc0 npc k1 k2 k3 : Nat} {mn : MethodName} {L st : List PV} {w : WD} {cells slots : Nat} {off : Int} {x y : Int} (hi : lk md pc = some (pc0, Instr.if_icmp .gt off, npc, k1, k2, k3, mn)) (kt : y < x → WAt Δ Γ fl md d k1 L st w cells slots) (kf : ¬ (y < x) → WAt Δ Γ fl md d npc L (st) w cells slots) : WAt Δ Γ fl md d pc L (vI y :: vI x :: st) w cells slots := by
  intro F hL hst hM ls H locs hl hP hS hz
  obtain ⟨-, hd, rfl, hq⟩ := lk_ok hi F.good
  have hx : InR x := hst.tl.hd
  have hy : InR y := hst.hd
  exact lv_icmp_gt F.exec F.bytes hd (tgt_of hq) (fun h => kt ((iI_lt hy hx).mp h) F hL hst.tl.tl hM ls H locs hl hP hS hz) (fun h => kf (fun q => h ((iI_lt hy hx).mpr q)) F hL hst.tl.tl hM ls H locs hl hP hS hz)
theorem w_icmp_le {Δ : DT} {Γ : FT} {fl : Bool} {md : MD} {d pc pc0 npc k1 k2 k3 : Nat} {mn : MethodName} {L st : List PV} {w : WD} {cells slots : Nat} {off : Int} {x y : Int} (hi : lk md pc = some (pc0, Instr.if_icmp .le off, npc, k1, k2, k3, mn)) (kt : x ≤ y → WAt Δ Γ fl md d k1 L st w cells slots) (kf : ¬ (x ≤ y) → WAt Δ Γ fl md d npc L (st) w cells slots) : WAt Δ Γ fl md d pc L (vI y :: vI x :: st) w cells slots := by
  intro F hL hst hM ls H locs hl hP hS hz
  obtain ⟨-, hd, rfl, hq⟩ := lk_ok hi F.good
  have hx : InR x := hst.tl.hd
  have hy : InR y := hst.hd
  exact lv_icmp_le F.exec F.bytes hd (tgt_of hq) (fun h => kt ((iI_le hx hy).mp h) F hL hst.tl.tl hM ls H locs hl hP hS hz) (fun h => kf (fun q => h ((iI_le hx hy).mpr q)) F hL hst.tl.tl hM ls H locs hl hP hS hz)
theorem w_if_eq {Δ : DT} {Γ : FT} {fl : Bool} {md : MD} {d pc pc0 npc k1 k2 k3 : Nat} {mn : MethodName} {L st : List PV} {w : WD} {cells slots : Nat} {off : Int} {x : Int} (hi : lk md pc = some (pc0, Instr.ifCond .eq off, npc, k1, k2, k3, mn)) (kt : x = 0 → WAt Δ Γ fl md d k1 L st w cells slots) (kf : ¬ (x = 0) → WAt Δ Γ fl md d npc L (st) w cells slots) : WAt Δ Γ fl md d pc L (vI x :: st) w cells slots := by
  intro F hL hst hM ls H locs hl hP hS hz
  obtain ⟨-, hd, rfl, hq⟩ := lk_ok hi F.good
  have hx : InR x := hst.hd
  have hy : InR 0 := by unfold InR; omega
  exact lv_if_eq F.exec F.bytes hd (tgt_of hq) (fun h => kt ((iI_inj hx hy).mp h) F hL hst.tl hM ls H locs hl hP hS hz) (fun h => kf (fun q => h ((iI_inj hx hy).mpr q)) F hL hst.tl hM ls H locs hl hP hS hz)
theorem w_if_ne {Δ : DT} {Γ : FT} {fl : Bool} {md : MD} {d pc pc0 npc k1 k2 k3 : Nat} {mn : MethodName} {L st : List PV} {w : WD} {cells slots : Nat} {off : Int} {x : Int} (hi : lk md pc = some (pc0, Instr.ifCond .ne off, npc, k1, k2, k3, mn)) (kt : ¬ x = 0 → WAt Δ Γ fl md d k1 L st w cells slots) (kf : x = 0 → WAt Δ Γ fl md d npc L (st) w cells slots) : WAt Δ Γ fl md d pc L (vI x :: st) w cells slots := by
  intro F hL hst hM ls H locs hl hP hS hz
  obtain ⟨-, hd, rfl, hq⟩ := lk_ok hi F.good
  have hx : InR x := hst.hd
  have hy : InR 0 := by unfold InR; omega
  exact lv_if_ne F.exec F.bytes hd (tgt_of hq) (fun h => kt (fun q => h ((iI_inj hx hy).mpr q)) F hL hst.tl hM ls H locs hl hP hS hz) (fun h => kf ((iI_inj hx hy).mp h) F hL hst.tl hM ls H locs hl hP hS hz)
theorem w_if_lt {Δ : DT} {Γ : FT} {fl : Bool} {md : MD} {d pc pc0 npc k1 k2 k3 : Nat} {mn : MethodName} {L st : List PV} {w : WD} {cells slots : Nat} {off : Int} {x : Int} (hi : lk md pc = some (pc0, Instr.ifCond .lt off, npc, k1, k2, k3, mn)) (kt : x < 0 → WAt Δ Γ fl md d k1 L st w cells slots) (kf : ¬ (x < 0) → WAt Δ Γ fl md d npc L (st) w cells slots) : WAt Δ Γ fl md d pc L (vI x :: st) w cells slots := by
  intro F hL hst hM ls H locs hl hP hS hz
  obtain ⟨-, hd, rfl, hq⟩ := lk_ok hi F.good
  have hx : InR x := hst.hd
  have hy : InR 0 := by unfold InR; omega
  exact lv_if_lt F.exec F.bytes hd (tgt_of hq) (fun h => kt ((iI_lt hx hy).mp h) F hL hst.tl hM ls H locs hl hP hS hz) (fun h => kf (fun q => h ((iI_lt hx hy).mpr q)) F hL hst.tl hM ls H locs hl hP hS hz)
theorem w_if_ge {Δ : DT} {Γ : FT} {fl : Bool} {md : MD} {d pc pc0 npc k1 k2 k3 : Nat} {mn : MethodName} {L st : List PV} {w : WD} {cells slots : Nat} {off : Int} {x : Int} (hi : lk md pc = some (pc0, Instr.ifCond .ge off, npc, k1, k2, k3, mn)) (kt : 0 ≤ x → WAt Δ Γ fl md d k1 L st w cells slots) (kf : ¬ (0 ≤ x) → WAt Δ Γ fl md d npc L (st) w cells slots) : WAt Δ Γ fl md d pc L (vI x :: st) w cells slots := by
  intro F hL hst hM ls H locs hl hP hS hz
  obtain ⟨-, hd, rfl, hq⟩ := lk_ok hi F.good
  have hx : InR x := hst.hd
  have hy : InR 0 := by unfold InR; omega
  exact lv_if_ge F.exec F.bytes hd (tgt_of hq) (fun h => kt ((iI_le hy hx).mp h) F hL hst.tl hM ls H locs hl hP hS hz) (fun h => kf (fun q => h ((iI_le hy hx).mpr q)) F hL hst.tl hM ls H locs hl hP hS hz)
theorem w_if_gt {Δ : DT} {Γ : FT} {fl : Bool} {md : MD} {d pc pc0 npc k1 k2 k3 : Nat} {mn : MethodName} {L st : List PV} {w : WD} {cells slots : Nat} {off : Int} {x : Int} (hi : lk md pc = some (pc0, Instr.ifCond .gt off, npc, k1, k2, k3, mn)) (kt : 0 < x → WAt Δ Γ fl md d k1 L st w cells slots) (kf : ¬ (0 < x) → WAt Δ Γ fl md d npc L (st) w cells slots) : WAt Δ Γ fl md d pc L (vI x :: st) w cells slots := by
  intro F hL hst hM ls H locs hl hP hS hz
  obtain ⟨-, hd, rfl, hq⟩ := lk_ok hi F.good
  have hx : InR x := hst.hd
  have hy : InR 0 := by unfold InR; omega
  exact lv_if_gt F.exec F.bytes hd (tgt_of hq) (fun h => kt ((iI_lt hy hx).mp h) F hL hst.tl hM ls H locs hl hP hS hz) (fun h => kf (fun q => h ((iI_lt hy hx).mpr q)) F hL hst.tl hM ls H locs hl hP hS hz)
theorem w_if_le {Δ : DT} {Γ : FT} {fl : Bool} {md : MD} {d pc pc0 npc k1 k2 k3 : Nat} {mn : MethodName} {L st : List PV} {w : WD} {cells slots : Nat} {off : Int} {x : Int} (hi : lk md pc = some (pc0, Instr.ifCond .le off, npc, k1, k2, k3, mn)) (kt : x ≤ 0 → WAt Δ Γ fl md d k1 L st w cells slots) (kf : ¬ (x ≤ 0) → WAt Δ Γ fl md d npc L (st) w cells slots) : WAt Δ Γ fl md d pc L (vI x :: st) w cells slots := by
  intro F hL hst hM ls H locs hl hP hS hz
  obtain ⟨-, hd, rfl, hq⟩ := lk_ok hi F.good
  have hx : InR x := hst.hd
  have hy : InR 0 := by unfold InR; omega
  exact lv_if_le F.exec F.bytes hd (tgt_of hq) (fun h => kt ((iI_le hx hy).mp h) F hL hst.tl hM ls H locs hl hP hS hz) (fun h => kf (fun q => h ((iI_le hx hy).mpr q)) F hL hst.tl hM ls H locs hl hP hS hz)
theorem w_nonnull {Δ : DT} {Γ : FT} {fl : Bool} {md : MD} {d pc pc0 npc k1 k2 k3 : Nat} {mn : MethodName} {L st : List PV} {w : WD} {cells slots : Nat} {off : Int} {a : Nat} (hi : lk md pc = some (pc0, Instr.ifnonnull off, npc, k1, k2, k3, mn)) (k : WAt Δ Γ fl md d k1 L st w cells slots) : WAt Δ Γ fl md d pc L (vR a :: st) w cells slots := by
  intro F hL hst hM ls H locs hl hP hS hz
  obtain ⟨-, hd, rfl, hq⟩ := lk_ok hi F.good
  exact lv_ifnonnull F.exec F.bytes hd (tgt_of hq) (k F hL hst.tl hM ls H locs hl hP hS hz)
theorem w_nonnullN {Δ : DT} {Γ : FT} {fl : Bool} {md : MD} {d pc pc0 npc k1 k2 k3 : Nat} {mn : MethodName} {L st : List PV} {w : WD} {cells slots : Nat} {off : Int} (hi : lk md pc = some (pc0, Instr.ifnonnull off, npc, k1, k2, k3, mn)) (k : WAt Δ Γ fl md d npc L (st) w cells slots) : WAt Δ Γ fl md d pc L (vN :: st) w cells slots := by
  intro F hL hst hM ls H locs hl hP hS hz
  obtain ⟨-, hd, rfl, hq⟩ := lk_ok hi F.good
  exact lv_ifnonnullN F.exec F.bytes hd (k F hL hst.tl hM ls H locs hl hP hS hz)
theorem w_tabIn {Δ : DT} {Γ : FT} {fl : Bool} {md : MD} {d pc pc0 npc k1 k2 k3 : Nat} {mn : MethodName} {L st : List PV} {w : WD} {cells slots : Nat} {dflt lo hi' off : Int} {offs : Array Int} {x : Int} {tgt : Nat} (hi : lk md pc = some (pc0, Instr.tableswitch dflt lo hi' offs, npc, k1, k2, k3, mn)) (h1 : lo ≤ x) (h2 : x ≤ hi') (ho : offs[(x - lo).toNat]? = some off) (ht : (pc : Int) + off = (tgt : Int)) (k : WAt Δ Γ fl md d tgt L st w cells slots) : WAt Δ Γ fl md d pc L (vI x :: st) w cells slots := by
  intro F hL hst hM ls H locs hl hP hS hz
  obtain ⟨-, hd, rfl, hq⟩ := lk_ok hi F.good
  have hx : InR x := hst.hd
  exact lv_tableIn F.exec F.bytes hd (by rw [iI_toInt hx]; omega) (by rw [iI_toInt hx]; omega) (by rw [iI_toInt hx]; exact ho) ht (k F hL hst.tl hM ls H locs hl hP hS hz)
theorem w_tabOut {Δ : DT} {Γ : FT} {fl : Bool} {md : MD} {d pc pc0 npc k1 k2 k3 : Nat} {mn : MethodName} {L st : List PV} {w : WD} {cells slots : Nat} {dflt lo hi' : Int} {offs : Array Int} {x : Int} {tgt : Nat} (hi : lk md pc = some (pc0, Instr.tableswitch dflt lo hi' offs, npc, k1, k2, k3, mn)) (h : x < lo ∨ hi' < x) (ht : (pc : Int) + dflt = (tgt : Int)) (k : WAt Δ Γ fl md d tgt L st w cells slots) : WAt Δ Γ fl md d pc L (vI x :: st) w cells slots := by
  intro F hL hst hM ls H locs hl hP hS hz
  obtain ⟨-, hd, rfl, hq⟩ := lk_ok hi F.good
  have hx : InR x := hst.hd
  exact lv_tableOut F.exec F.bytes hd (by rw [iI_toInt hx]; omega) ht (k F hL hst.tl hM ls H locs hl hP hS hz)
theorem w_lookup {Δ : DT} {Γ : FT} {fl : Bool} {md : MD} {d pc pc0 npc k1 k2 k3 : Nat} {mn : MethodName} {L st : List PV} {w : WD} {cells slots : Nat} {dflt off : Int} {ps : Array (Int × Int)} {x : Int} {tgt : Nat} (hi : lk md pc = some (pc0, Instr.lookupswitch dflt ps, npc, k1, k2, k3, mn)) (hp : (ps.toList.zip (ps.toList.drop 1)).all (fun (a, next) => a.1 < next.1) = true) (ho : Op.lookupswitch.offset ps.toList dflt x = off) (ht : (pc : Int) + off = (tgt : Int)) (k : WAt Δ Γ fl md d tgt L st w cells slots) : WAt Δ Γ fl md d pc L (vI x :: st) w cells slots := by
  intro F hL hst hM ls H locs hl hP hS hz
  obtain ⟨-, hd, rfl, hq⟩ := lk_ok hi F.good
  have hx : InR x := hst.hd
  exact lv_lookup F.exec F.bytes hd hp (by rw [iI_toInt hx]; exact ho) ht (k F hL hst.tl hM ls H locs hl hP hS hz)
end
section
-- ===== the classes, by program =====
def clz : List (List Nat) := [[4294, 4296, 4298, 4300, 4302], [4203, 4205, 4207, 4209, 4211, 4213], [4172, 4174, 4176, 4178, 4180], [4322, 4324, 4326, 4328, 4330, 4332, 4334], [4248, 4250], [8259, 8261, 8263, 8265, 8267, 8269, 8271, 8273, 8275, 8277, 8279], [8226, 8228, 8230], [4265, 4267, 4269, 4271, 4273, 4275], [8204, 8206, 8208, 8210], [4227, 4229, 4231, 4233, 4235, 4237], [4142, 4144, 4146, 4148], [8297, 8299, 8301, 8303, 8305, 8307, 8309, 8311, 8313, 8315, 8317, 8319, 8321, 8323, 8325], [24648, 24650, 24652, 24654, 24656, 24658, 24660, 24662, 24664, 24666, 24668, 24670, 24672, 24674, 24676, 24678, 24680, 24682, 24684, 24686, 24688, 24690, 24692, 24694, 24696, 24698, 24700, 24702, 24704, 24706, 24708, 24710, 24712, 24714, 24716, 24718, 24720, 24722, 24724, 24726, 24728, 24730, 24732, 24734, 24736, 24738, 24740, 24742, 24744, 24746, 24748, 24750, 24752, 24754, 24756]]
def clchk : Bool := (List.range 13).all fun ci => match vwCl[ci]? with
  | some q => (List.range q.2.2).all fun k => wis ((clz.getD ci []).getD k 0) (u_lay q.1 q.2.1 k)
  | none => false
set_option maxRecDepth 100000 in
theorem clchk_ok : clchk = true := by decide +kernel
theorem cl_lt {ci : Nat} {q : vw_C} (h : vwCl[ci]? = some q) : ci < 13 := (List.getElem?_eq_some_iff.mp h).1
theorem cl_in {ci : Nat} {C : String} {T : u_T} {N : Nat} (hc : vwCl[ci]? = some (C, T, N)) : ∀ w ∈ u_ws C T N, w ∈ tblG := by
  intro w hw
  obtain ⟨k, hk, rfl⟩ := List.mem_map.mp hw
  have h := List.all_eq_true.mp clchk_ok ci (List.mem_range.mpr (cl_lt hc))
  rw [hc] at h
  exact wis_in (List.all_eq_true.mp h k hk)
theorem cl_ty {ci : Nat} {C : String} {T : u_T} {N : Nat} (hc : vwCl[ci]? = some (C, T, N)) : ∃ ty0 : Nat → FieldType, (∀ k, k < N → parseFieldDescriptor (T k).2.2.1 = some (ty0 k)) ∧ ∀ a, a < N → ∀ b, b < N → a ≠ b → (T a).2.1 ≠ (T b).2.1 := by
  match ci, hc with
  | 0, hc => cases hc; exact ⟨tyX0, tyX0_ok, nmX0⟩
  | 1, hc => cases hc; exact ⟨tyX1, tyX1_ok, nmX1⟩
  | 2, hc => cases hc; exact ⟨tyX2, tyX2_ok, nmX2⟩
  | 3, hc => cases hc; exact ⟨tyX3, tyX3_ok, nmX3⟩
  | 4, hc => cases hc; exact ⟨tyX4, tyX4_ok, nmX4⟩
  | 5, hc => cases hc; exact ⟨tyX5, tyX5_ok, nmX5⟩
  | 6, hc => cases hc; exact ⟨tyX6, tyX6_ok, nmX6⟩
  | 7, hc => cases hc; exact ⟨tyX7, tyX7_ok, nmX7⟩
  | 8, hc => cases hc; exact ⟨tyX8, tyX8_ok, nmX8⟩
  | 9, hc => cases hc; exact ⟨tyX9, tyX9_ok, nmX9⟩
  | 10, hc => cases hc; exact ⟨tyX10, tyX10_ok, nmX10⟩
  | 11, hc => cases hc; exact ⟨tyX11, tyX11_ok, nmX11⟩
  | 12, hc => cases hc; exact ⟨tyX12, tyX12_ok, nmX12⟩
  | k + 13, hc => exact absurd (cl_lt hc) (by omega)
/-- a field's type as it is written, and whether it is final -/
def fds (ci k : Nat) : Option (String × Bool) := (vwCl[ci]?).map fun q => ((q.2.1 k).2.2.1, (q.2.1 k).2.2.2)
theorem pfd_I : parseFieldDescriptor "I" = some .int := by decide +kernel
theorem pfd_Z : parseFieldDescriptor "Z" = some .boolean := by decide +kernel
theorem pfd_aI : parseFieldDescriptor "[I" = some (.array .int) := by decide +kernel
theorem pfd_aB : parseFieldDescriptor "[B" = some (.array .byte) := by decide +kernel
theorem chk_fld {md : MD} {i : Instr} {idx pc x y z : Nat} {mn : MethodName} (hi : i = .getfield idx ∨ i = .putfield idx) (h : chkI md.1.cls i pc x y z mn = true) : ∃ (C : String) (T : u_T) (N : Nat), vwCl[x]? = some (C, T, N) ∧ y < N ∧ Cond.fieldLink md.1.cls idx (T y).1 (T y).2.1 (T y).2.2.1 ∈ tblG := by
  have h2 : (match vwCl[x]? with
    | some q => decide (y < q.2.2) && wis z (.fieldLink md.1.cls idx (q.2.1 y).1 (q.2.1 y).2.1 (q.2.1 y).2.2.1)
    | none => false) = true := by rcases hi with rfl | rfl <;> exact h
  split at h2
  next q hc =>
    obtain ⟨C, T, N⟩ := q
    rw [Bool.and_eq_true, decide_eq_true_eq] at h2
    exact ⟨C, T, N, hc, h2.1, wis_in h2.2⟩
  next => cases h2
theorem w_get0 {Δ : DT} {Γ : FT} {fl : Bool} {md : MD} {d pc pc0 npc k1 k2 k3 : Nat} {mn : MethodName} {L st : List PV} {n : Nat} {S : Nat → SHP} {M : MEM} {cells slots : Nat} {idx a c : Nat} {ks : List Nat} {v : PV} (hi : lk md pc = some (pc0, Instr.getfield idx, npc, k1, k2, k3, mn)) (ha : a < n) (hs : S a = (0, k1, ks)) (hc : ks[k2]? = some c) (hv : rep Δ.2.1 v = fv Δ.2.1 (M a k2) c) (hok : okM M → okV v) (k : WAt Δ Γ fl md d npc L (v :: st) (n, S, M) cells slots) : WAt Δ Γ fl md d pc L (vR a :: st) (n, S, M) cells slots := by
  intro F hL hst hM ls H locs hl hP hS hz
  obtain ⟨-, hd, rfl, hq⟩ := lk_ok hi F.good
  obtain ⟨C, T, N, hcl, hk, hw⟩ := chk_fld (Or.inl rfl) hq
  refine va_get (D := Δ.2.2.1) (ci := k1) (fs := fvs Δ.2.1 (M a) 0 ks) (v := rep Δ.2.1 v) F.exec F.bytes F.ts (cl_in hcl) F.own F.kinds hP a (by rw [wL_get ha, hs]; rfl) hcl k2 hk (F.ts _ hw) (fun _ h => h) ?_ hd (k F hL (hst.tl.cons (hok hM)) hM ls H locs hl hP hS hz)
  rw [fvs_get _ _ ks 0 k2 c hc, hv, Nat.zero_add]
theorem w_getI {Δ : DT} {Γ : FT} {fl : Bool} {md : MD} {d pc pc0 npc k1 k2 k3 : Nat} {mn : MethodName} {L st : List PV} {n : Nat} {S : Nat → SHP} {M : MEM} {cells slots : Nat} {idx a : Nat} {ks : List Nat} (hi : lk md pc = some (pc0, Instr.getfield idx, npc, k1, k2, k3, mn)) (ha : a < n) (hs : S a = (0, k1, ks)) (hc : ks[k2]? = some 0) (k : WAt Δ Γ fl md d npc L (vI (M a k2) :: st) (n, S, M) cells slots) : WAt Δ Γ fl md d pc L (vR a :: st) (n, S, M) cells slots := w_get0 (v := vI (M a k2)) hi ha hs hc rfl (fun h => h a k2) k
theorem w_getR {Δ : DT} {Γ : FT} {fl : Bool} {md : MD} {d pc pc0 npc k1 k2 k3 : Nat} {mn : MethodName} {L st : List PV} {n : Nat} {S : Nat → SHP} {M : MEM} {cells slots : Nat} {idx a r : Nat} {ks : List Nat} (hi : lk md pc = some (pc0, Instr.getfield idx, npc, k1, k2, k3, mn)) (ha : a < n) (hs : S a = (0, k1, ks)) (hc : ks[k2]? = some (r + 3)) (k : WAt Δ Γ fl md d npc L (vR r :: st) (n, S, M) cells slots) : WAt Δ Γ fl md d pc L (vR a :: st) (n, S, M) cells slots := w_get0 (v := vR r) hi ha hs hc rfl (fun _ => trivial) k
theorem w_getD {Δ : DT} {Γ : FT} {fl : Bool} {md : MD} {d pc pc0 npc k1 k2 k3 : Nat} {mn : MethodName} {L st : List PV} {n : Nat} {S : Nat → SHP} {M : MEM} {cells slots : Nat} {idx a r : Nat} {ks : List Nat} (hi : lk md pc = some (pc0, Instr.getfield idx, npc, k1, k2, k3, mn)) (ha : a < n) (hs : S a = (0, k1, ks)) (hc : ks[k2]? = some 2) (hr : M a k2 = ((r : Int) + 1)) (k : WAt Δ Γ fl md d npc L (vR r :: st) (n, S, M) cells slots) : WAt Δ Γ fl md d pc L (vR a :: st) (n, S, M) cells slots := w_get0 (v := vR r) hi ha hs hc (by unfold fv rep; simp only; rw [hr, if_neg (by omega), show ((r : Int) + 1).toNat - 1 = r by omega]) (fun _ => trivial) k
theorem w_getN {Δ : DT} {Γ : FT} {fl : Bool} {md : MD} {d pc pc0 npc k1 k2 k3 : Nat} {mn : MethodName} {L st : List PV} {n : Nat} {S : Nat → SHP} {M : MEM} {cells slots : Nat} {idx a : Nat} {ks : List Nat} (hi : lk md pc = some (pc0, Instr.getfield idx, npc, k1, k2, k3, mn)) (ha : a < n) (hs : S a = (0, k1, ks)) (hc : ks[k2]? = some 2) (hr : M a k2 = 0) (k : WAt Δ Γ fl md d npc L (vN :: st) (n, S, M) cells slots) : WAt Δ Γ fl md d pc L (vR a :: st) (n, S, M) cells slots := w_get0 (v := vN) hi ha hs hc (by unfold fv rep; simp only; rw [hr, if_pos rfl]) (fun _ => trivial) k
section PUTS
variable {p : Program} {l : Launch} {e : Env} {R : Room} {s : State} {m : MethodId} {args : Array Value} {below : List Frame} {meth : Method} {c : Code} {H : Heap} {locs : List Loc} {cells slots : Nat} {Q : State → Prop}
variable {cc : ByteArray} {pc : Nat} {ls : Array Slot} {rest : List Value} {D : va_G} {cl : List vw_C} {A : Nat → Prop} {a : Nat} {tys : List (ClassId × FieldType)} {ws : va_W} {H0 : Heap}
/-- a field is written: what it leaves of the heap's size, too (along the kit's own rows for the two kinds of field) -/
theorem x_put (hexec : p.tables.exec = Jvm.exec) (hb : c.code = cc) {own C : String} {T : u_T} {N ci index : Nat} {Ts : List Cond} (hts : ∀ w ∈ Ts, w.before args s = true) (hin : ∀ w ∈ u_ws C T N, w ∈ Ts) (ty0 : Nat → FieldType) (hty : ∀ k, k < N → parseFieldDescriptor (T k).2.2.1 = some (ty0 k)) (hnm : ∀ a, a < N → ∀ b, b < N → a ≠ b → (T a).2.1 ≠ (T b).2.1) (hown : s.vm.findClass own = some m.cls) (hK : va_K D cl tys s) (hP : va_P D cl ws H) (hD : va_D A ws) (hS0 : va_S A H0 H locs) (q0 : Nat) {fs : List Value} (he : ws[q0]? = some (a, .inr (ci, fs))) (hc : cl[ci]? = some (C, T, N)) (k : Nat) (hk : k < N) (hlink : (Cond.fieldLink own index (T k).1 (T k).2.1 (T k).2.2.1).before args s = true) (hfin : (T k).2.2.2 = false ∨ ((T k).2.2.2 = true ∧ meth.name = "<init>" ∧ (T k).1 = own)) {ty : FieldType} {v : Value} (hd : parseFieldDescriptor (T k).2.2.1 = some ty) (hn : narrow ty v = v) (hfit : fits ty v = true) (hl : k < fs.length)
    (hdg : decode cc pc = .ok (.putfield index, 3)) (kk : ∀ (H1 : Heap) (locs1 : List Loc), va_P D cl (ws.set q0 (a, .inr (ci, fs.set k v))) H1 → va_S A H0 H1 locs1 → H1.size = H.size → W p l e R s m args below meth c H1 locs1 cells slots Q (F0 m (pc + 3) ls rest)) : W p l e R s m args below meth c H locs cells slots Q (F0 m pc ls (v :: .ref a :: rest)) := by
  have hap := va_apart (own := own) hts hin ty0 hty hnm hK hc
  obtain ⟨r, h1, cell, q1, q2, q3, q4⟩ := hP q0 _ he
  have hr : r = (C, T, N) := Option.some.inj (h1.symm.trans hc)
  subst hr
  obtain ⟨hS, hfc, kC, hkC, hkind⟩ := hK.1 ci _ hc
  obtain ⟨cf, kf, fi, f, hi, hsl⟩ := hS k hk
  have hlay := hts _ (hin _ (u_in_lay hk))
  have hst := (u_facts hfc hkC (u_lays hts hin hk) hi).1
  have go : ∀ H' : Heap, H'[a]? = some (cell.setSlot (D.2 ci k) v) → H'.size = H.size → (∀ q, q ≠ a → H'[q]? = H[q]?) → W p l e R s m args below meth c H' (locs ++ [⟨a, D.2 ci k⟩]) cells slots Q (F0 m (pc + 3) ls rest) := fun H' e1 e2 e3 =>
    kk H' _ (hP.set hD he ⟨_, hc, t_OB.to (V := updV (vp_V fs) k v) ⟨_, e1, q2, q3, t_set q4 hap hk v⟩ (fun j _ => vp_updV_set hl v j)⟩ e3) (hS0.put e2 e3 (hD.2 q0 _ he)) e2
  rcases hfin with hfin | ⟨hfin, hin2, hdecl⟩
  · unfold u_lay at hlay
    rw [if_neg (by rw [hfin]; decide)] at hlay
    have h6 := u_store hfc hkC hkind hlay hi hd hn hfit
    refine W.putK hexec hb (f := f) ⟨hown, hlink, ⟨_, _, _, hi⟩, hst⟩ (by rw [q2]; exact h6) q1 q3 (by rw [hsl]; exact k2_hasslot (q4 k hk)) rfl rfl hdg fun H' e1 e2 e3 => ?_
    rw [hsl] at e1 ⊢
    exact go H' e1 e2 e3
  · unfold u_lay at hlay
    rw [if_pos hfin] at hlay
    have hcf : m.cls = cf := by
      obtain ⟨_, _, c', _, _, _, -, -, hf', -, -, -, hown2, -⟩ := Cond.laysFinal_spec hlay
      have e1 : c' = cf := by have := hi.symm.trans hf'; simp at this; exact this.1.symm
      rw [hdecl] at hown2
      rw [← e1]; exact Option.some.inj (hown.symm.trans hown2)
    have h6 := u_fits hfc hkC hkind (Or.inr hlay) hi hd hn hfit
    refine W.putFinK hexec hb hown hlink hi hst hcf hin2 (by rw [q2]; exact h6) q1 q3 (by rw [hsl]; exact k2_hasslot (q4 k hk)) rfl rfl hdg fun H' e1 e2 e3 => ?_
    rw [hsl] at e1 ⊢
    exact go H' e1 e2 e3
end PUTS
theorem w_put0 {Δ : DT} {Γ : FT} {fl : Bool} {md : MD} {d pc pc0 npc k1 k2 k3 : Nat} {mn : MethodName} {L st : List PV} {n : Nat} {S : Nat → SHP} {M : MEM} {cells slots : Nat} {idx a c c' : Nat} {ks : List Nat} {v : PV} {x : Int} {ty : FieldType} {ds : String} {fin : Bool} {S' : Nat → SHP} (hi : lk md pc = some (pc0, Instr.putfield idx, npc, k1, k2, k3, mn)) (ha : a < n) (hs : S a = (0, k1, ks)) (hc : ks[k2]? = some c) (hv : rep Δ.2.1 v = fv Δ.2.1 x c') (hok : okM M → okV v → okM (up2 M a k2 x)) (hT : fds k1 k2 = some (ds, fin)) (hfi : fin = false ∨ (md.1.name = "<init>" ∧ (vwCl[k1]?).map (fun q => (q.2.1 k2).1) = some md.1.cls)) (hds : parseFieldDescriptor ds = some ty) (hn : narrow ty (rep Δ.2.1 v) = rep Δ.2.1 v) (hfit : fits ty (rep Δ.2.1 v) = true) (hS1 : S' a = (0, k1, ks.set k2 c')) (hS2 : ∀ j, j ≠ a → S' j = S j) (k : WAt Δ Γ fl md d npc L (st) (n, S', up2 M a k2 x) cells slots) : WAt Δ Γ fl md d pc L (v :: vR a :: st) (n, S, M) cells slots := by
  intro F hL hst hM ls H locs hl hP hS hz
  obtain ⟨-, hd, rfl, hq⟩ := lk_ok hi F.good
  obtain ⟨C, T, N, hcl, hk, hw⟩ := chk_fld (Or.inr rfl) hq
  obtain ⟨ty0, hty, hnm⟩ := cl_ty hcl
  have hT2 : (T k2).2.2.1 = ds ∧ (T k2).2.2.2 = fin := by
    unfold fds at hT
    rw [hcl] at hT
    have e := Option.some.inj hT
    exact ⟨(Prod.mk.inj e).1, (Prod.mk.inj e).2⟩
  have hfin : (T k2).2.2.2 = false ∨ ((T k2).2.2.2 = true ∧ Γ.2.2.2.2.2.2.2.1.name = "<init>" ∧ (T k2).1 = md.1.cls) := by
    rw [hT2.2]
    rcases hfi with rfl | ⟨h1, h2⟩
    · exact Or.inl rfl
    · rw [hcl] at h2
      cases fin with
      | false => exact Or.inl rfl
      | true => exact Or.inr ⟨rfl, F.name.trans h1, Option.some.inj h2⟩
  have hlen : k2 < (fvs Δ.2.1 (M a) 0 ks).length := by rw [fvs_len]; exact (List.getElem?_eq_some_iff.mp hc).1
  refine x_put (D := Δ.2.2.1) (ci := k1) (fs := fvs Δ.2.1 (M a) 0 ks) (v := rep Δ.2.1 v) (ty := ty) F.exec F.bytes F.ts (cl_in hcl) ty0 hty hnm F.own F.kinds hP wL_D hS a (by rw [wL_get ha, hs]; rfl) hcl k2 hk (F.ts _ hw) hfin (by rw [hT2.1]; exact hds) hn hfit hlen hd (fun H1 locs1 hP1 hS1' hz1 => ?_)
  have e : (wL Δ.2.1 Δ.2.2.2 (n, S, M)).set a (Δ.2.1 + a, .inr (k1, (fvs Δ.2.1 (M a) 0 ks).set k2 (rep Δ.2.1 v))) = wL Δ.2.1 Δ.2.2.2 (n, S', up2 M a k2 x) := by
    rw [← wL_set (S := S) (S' := S') (M := M) (M' := up2 M a k2 x) (i := a) hS2 (fun j hj => up2_off hj), hS1, up2_row, hv, fvs_put _ _ x ks 0 k2 c c' hc, Nat.zero_add]
    rfl
  rw [e] at hP1
  exact k F hL hst.tl.tl (hok hM hst.hd) ls H1 locs1 hl hP1 hS1' (fun h => hz1.trans (hz h))
theorem w_putI {Δ : DT} {Γ : FT} {fl : Bool} {md : MD} {d pc pc0 npc k1 k2 k3 : Nat} {mn : MethodName} {L st : List PV} {n : Nat} {S : Nat → SHP} {M : MEM} {cells slots : Nat} {idx a : Nat} {ks : List Nat} {x : Int} (hi : lk md pc = some (pc0, Instr.putfield idx, npc, k1, k2, k3, mn)) (ha : a < n) (hs : S a = (0, k1, ks)) (hc : ks[k2]? = some 0) (hT : fds k1 k2 = some ("I", false)) (k : WAt Δ Γ fl md d npc L (st) (n, S, up2 M a k2 x) cells slots) : WAt Δ Γ fl md d pc L (vI x :: vR a :: st) (n, S, M) cells slots :=
  w_put0 (v := vI x) hi ha hs hc rfl (fun h hx => h.up hx) hT (Or.inl rfl) pfd_I rfl rfl (by rw [list_set_same ks k2 0 hc]; exact hs) (fun _ _ => rfl) k
theorem w_putZ {Δ : DT} {Γ : FT} {fl : Bool} {md : MD} {d pc pc0 npc k1 k2 k3 : Nat} {mn : MethodName} {L st : List PV} {n : Nat} {S : Nat → SHP} {M : MEM} {cells slots : Nat} {idx a : Nat} {ks : List Nat} {x : Int} (hi : lk md pc = some (pc0, Instr.putfield idx, npc, k1, k2, k3, mn)) (ha : a < n) (hs : S a = (0, k1, ks)) (hc : ks[k2]? = some 0) (hT : fds k1 k2 = some ("Z", false)) (hx : x = 0 ∨ x = 1) (k : WAt Δ Γ fl md d npc L (st) (n, S, up2 M a k2 x) cells slots) : WAt Δ Γ fl md d pc L (vI x :: vR a :: st) (n, S, M) cells slots :=
  w_put0 (v := vI x) hi ha hs hc rfl (fun h hx => h.up hx) hT (Or.inl rfl) pfd_Z (by rcases hx with rfl | rfl <;> rfl) (by rcases hx with rfl | rfl <;> rfl) (by rw [list_set_same ks k2 0 hc]; exact hs) (fun _ _ => rfl) k
theorem w_putD {Δ : DT} {Γ : FT} {fl : Bool} {md : MD} {d pc pc0 npc k1 k2 k3 : Nat} {mn : MethodName} {L st : List PV} {n : Nat} {S : Nat → SHP} {M : MEM} {cells slots : Nat} {idx a r : Nat} {ks : List Nat} {ty : FieldType} {ds : String} (hi : lk md pc = some (pc0, Instr.putfield idx, npc, k1, k2, k3, mn)) (ha : a < n) (hs : S a = (0, k1, ks)) (hc : ks[k2]? = some 2) (hT : fds k1 k2 = some (ds, false)) (hds : parseFieldDescriptor ds = some (.array ty)) (hr : InR ((r : Int) + 1)) (k : WAt Δ Γ fl md d npc L (st) (n, S, up2 M a k2 ((r : Int) + 1)) cells slots) : WAt Δ Γ fl md d pc L (vR r :: vR a :: st) (n, S, M) cells slots :=
  w_put0 (v := vR r) (c' := 2) hi ha hs hc (by unfold fv rep; simp only; rw [if_neg (by omega), show ((r : Int) + 1).toNat - 1 = r by omega]) (fun h _ => h.up hr) hT (Or.inl rfl) hds rfl rfl (by rw [list_set_same ks k2 2 hc]; exact hs) (fun _ _ => rfl) k
theorem w_putN {Δ : DT} {Γ : FT} {fl : Bool} {md : MD} {d pc pc0 npc k1 k2 k3 : Nat} {mn : MethodName} {L st : List PV} {n : Nat} {S : Nat → SHP} {M : MEM} {cells slots : Nat} {idx a : Nat} {ks : List Nat} {ty : FieldType} {ds : String} (hi : lk md pc = some (pc0, Instr.putfield idx, npc, k1, k2, k3, mn)) (ha : a < n) (hs : S a = (0, k1, ks)) (hc : ks[k2]? = some 2) (hT : fds k1 k2 = some (ds, false)) (hds : parseFieldDescriptor ds = some (.array ty)) (k : WAt Δ Γ fl md d npc L (st) (n, S, up2 M a k2 0) cells slots) : WAt Δ Γ fl md d pc L (vN :: vR a :: st) (n, S, M) cells slots :=
  w_put0 (v := vN) (c' := 2) hi ha hs hc (by unfold fv rep; simp) (fun h _ => h.up (by unfold InR; omega)) hT (Or.inl rfl) hds rfl rfl (by rw [list_set_same ks k2 2 hc]; exact hs) (fun _ _ => rfl) k
theorem w_iald {Δ : DT} {Γ : FT} {fl : Bool} {md : MD} {d pc pc0 npc k1 k2 k3 : Nat} {mn : MethodName} {L st : List PV} {n : Nat} {S : Nat → SHP} {M : MEM} {cells slots : Nat} {a len : Nat} {i : Int} (hi : lk md pc = some (pc0, Instr.iaload, npc, k1, k2, k3, mn)) (ha : a < n) (hs : S a = (1, 0, [len])) (h0 : 0 ≤ i) (h1 : i < len) (k : WAt Δ Γ fl md d npc L (vI (M a i.toNat) :: st) (n, S, M) cells slots) : WAt Δ Γ fl md d pc L (vI i :: vR a :: st) (n, S, M) cells slots := by
  intro F hL hst hM ls H locs hl hP hS hz
  obtain ⟨-, hd, rfl, hq⟩ := lk_ok hi F.good
  have hi' : InR i := hst.hd
  refine va_iald (cA := Δ.2.2.2 0) (n := len) (f := fun j => Int32.ofInt (M a j)) F.exec F.bytes F.kinds hP a 0 (by rw [wL_get ha, hs]; rfl) rfl (iI_vp hi' h0 h1) hd ?_
  rw [iI_clamp hi']
  exact k F hL (hst.tl.tl.cons (hM a i.toNat)) hM ls H locs hl hP hS hz
theorem w_bald {Δ : DT} {Γ : FT} {fl : Bool} {md : MD} {d pc pc0 npc k1 k2 k3 : Nat} {mn : MethodName} {L st : List PV} {n : Nat} {S : Nat → SHP} {M : MEM} {cells slots : Nat} {a len : Nat} {i : Int} (hi : lk md pc = some (pc0, Instr.baload, npc, k1, k2, k3, mn)) (ha : a < n) (hs : S a = (1, 1, [len])) (h0 : 0 ≤ i) (h1 : i < len) (k : WAt Δ Γ fl md d npc L (vI (M a i.toNat) :: st) (n, S, M) cells slots) : WAt Δ Γ fl md d pc L (vI i :: vR a :: st) (n, S, M) cells slots := by
  intro F hL hst hM ls H locs hl hP hS hz
  obtain ⟨-, hd, rfl, hq⟩ := lk_ok hi F.good
  have hi' : InR i := hst.hd
  refine va_bald (cA := Δ.2.2.2 1) (n := len) (f := fun j => Int32.ofInt (M a j)) F.exec F.bytes F.kinds hP a 1 (by rw [wL_get ha, hs]; rfl) rfl (iI_vp hi' h0 h1) hd ?_
  rw [iI_clamp hi']
  exact k F hL (hst.tl.tl.cons (hM a i.toNat)) hM ls H locs hl hP hS hz
theorem w_zald {Δ : DT} {Γ : FT} {fl : Bool} {md : MD} {d pc pc0 npc k1 k2 k3 : Nat} {mn : MethodName} {L st : List PV} {n : Nat} {S : Nat → SHP} {M : MEM} {cells slots : Nat} {a len : Nat} {i : Int} (hi : lk md pc = some (pc0, Instr.baload, npc, k1, k2, k3, mn)) (ha : a < n) (hs : S a = (1, 2, [len])) (h0 : 0 ≤ i) (h1 : i < len) (k : WAt Δ Γ fl md d npc L (vI (M a i.toNat) :: st) (n, S, M) cells slots) : WAt Δ Γ fl md d pc L (vI i :: vR a :: st) (n, S, M) cells slots := by
  intro F hL hst hM ls H locs hl hP hS hz
  obtain ⟨-, hd, rfl, hq⟩ := lk_ok hi F.good
  have hi' : InR i := hst.hd
  refine va_zald (cA := Δ.2.2.2 2) (n := len) (f := fun j => Int32.ofInt (M a j)) F.exec F.bytes F.kinds hP a 2 (by rw [wL_get ha, hs]; rfl) rfl (iI_vp hi' h0 h1) hd ?_
  rw [iI_clamp hi']
  exact k F hL (hst.tl.tl.cons (hM a i.toNat)) hM ls H locs hl hP hS hz
theorem upd_up1 (v : Nat → Int) (k : Nat) (x : Int) : upd (fun j => Int32.ofInt (v j)) k (Int32.ofInt x) = fun j => Int32.ofInt (up1 v k x j) := by
  funext j
  unfold upd up1
  split <;> rfl
theorem w_iast {Δ : DT} {Γ : FT} {fl : Bool} {md : MD} {d pc pc0 npc k1 k2 k3 : Nat} {mn : MethodName} {L st : List PV} {n : Nat} {S : Nat → SHP} {M : MEM} {cells slots : Nat} {a len : Nat} {i x : Int} (hi : lk md pc = some (pc0, Instr.iastore, npc, k1, k2, k3, mn)) (ha : a < n) (hs : S a = (1, 0, [len])) (h0 : 0 ≤ i) (h1 : i < len) (hfl : fl = false) (k : WAt Δ Γ fl md d npc L (st) (n, S, up2 M a i.toNat (x)) cells slots) : WAt Δ Γ fl md d pc L (vI x :: vI i :: vR a :: st) (n, S, M) cells slots := by
  intro F hL hst hM ls H locs hl hP hS hz
  obtain ⟨-, hd, rfl, hq⟩ := lk_ok hi F.good
  have hi' : InR i := hst.tl.hd
  refine va_iast (cA := Δ.2.2.2 0) (n := len) (f := fun j => Int32.ofInt (M a j)) F.exec F.bytes F.kinds hP wL_D hS a 0 (by rw [wL_get ha, hs]; rfl) rfl (iI_vp hi' h0 h1) hd (fun H1 locs1 hP1 _ hS1 => ?_)
  have e : (wL Δ.2.1 Δ.2.2.2 (n, S, M)).set a (Δ.2.1 + a, .inl (Δ.2.2.2 0, len, .inl (upd (fun j => Int32.ofInt (M a j)) (Int32.ofInt i).toNatClampNeg (Int32.ofInt (x))))) = wL Δ.2.1 Δ.2.2.2 (n, S, up2 M a i.toNat (x)) := by
    rw [← wL_set (S := S) (S' := S) (M := M) (M' := up2 M a i.toNat (x)) (i := a) (fun _ _ => rfl) (fun j hj => up2_off hj), hs, up2_row, iI_clamp hi', upd_up1]
    rfl
  rw [e] at hP1
  exact k F hL hst.tl.tl.tl (hM.up hst.hd) ls H1 locs1 hl hP1 hS1 (fun h => by rw [hfl] at h; cases h)
theorem w_bast {Δ : DT} {Γ : FT} {fl : Bool} {md : MD} {d pc pc0 npc k1 k2 k3 : Nat} {mn : MethodName} {L st : List PV} {n : Nat} {S : Nat → SHP} {M : MEM} {cells slots : Nat} {a len : Nat} {i x : Int} (hi : lk md pc = some (pc0, Instr.bastore, npc, k1, k2, k3, mn)) (ha : a < n) (hs : S a = (1, 1, [len])) (h0 : 0 ≤ i) (h1 : i < len) (hfl : fl = false) (k : WAt Δ Γ fl md d npc L (st) (n, S, up2 M a i.toNat (sx8 x)) cells slots) : WAt Δ Γ fl md d pc L (vI x :: vI i :: vR a :: st) (n, S, M) cells slots := by
  intro F hL hst hM ls H locs hl hP hS hz
  obtain ⟨-, hd, rfl, hq⟩ := lk_ok hi F.good
  have hi' : InR i := hst.tl.hd
  refine va_bast (cA := Δ.2.2.2 1) (n := len) (f := fun j => Int32.ofInt (M a j)) F.exec F.bytes F.kinds hP wL_D hS a 1 (by rw [wL_get ha, hs]; rfl) rfl (iI_vp hi' h0 h1) hd (fun H1 locs1 hP1 _ hS1 => ?_)
  rw [vp_nar_byte, iI_sx8 hst.hd] at hP1
  have e : (wL Δ.2.1 Δ.2.2.2 (n, S, M)).set a (Δ.2.1 + a, .inl (Δ.2.2.2 1, len, .inl (upd (fun j => Int32.ofInt (M a j)) (Int32.ofInt i).toNatClampNeg (Int32.ofInt (sx8 x))))) = wL Δ.2.1 Δ.2.2.2 (n, S, up2 M a i.toNat (sx8 x)) := by
    rw [← wL_set (S := S) (S' := S) (M := M) (M' := up2 M a i.toNat (sx8 x)) (i := a) (fun _ _ => rfl) (fun j hj => up2_off hj), hs, up2_row, iI_clamp hi', upd_up1]
    rfl
  rw [e] at hP1
  exact k F hL hst.tl.tl.tl (hM.up (sx8_in x)) ls H1 locs1 hl hP1 hS1 (fun h => by rw [hfl] at h; cases h)
theorem w_zast {Δ : DT} {Γ : FT} {fl : Bool} {md : MD} {d pc pc0 npc k1 k2 k3 : Nat} {mn : MethodName} {L st : List PV} {n : Nat} {S : Nat → SHP} {M : MEM} {cells slots : Nat} {a len : Nat} {i x : Int} (hi : lk md pc = some (pc0, Instr.bastore, npc, k1, k2, k3, mn)) (ha : a < n) (hs : S a = (1, 2, [len])) (h0 : 0 ≤ i) (h1 : i < len) (hx : x = 0 ∨ x = 1) (hfl : fl = false) (k : WAt Δ Γ fl md d npc L (st) (n, S, up2 M a i.toNat (x)) cells slots) : WAt Δ Γ fl md d pc L (vI x :: vI i :: vR a :: st) (n, S, M) cells slots := by
  intro F hL hst hM ls H locs hl hP hS hz
  obtain ⟨-, hd, rfl, hq⟩ := lk_ok hi F.good
  have hi' : InR i := hst.tl.hd
  refine va_zast (cA := Δ.2.2.2 2) (n := len) (f := fun j => Int32.ofInt (M a j)) F.exec F.bytes F.kinds hP wL_D hS a 2 (by rw [wL_get ha, hs]; rfl) rfl (iI_vp hi' h0 h1) hd (fun H1 locs1 hP1 _ hS1 => ?_)
  rw [iI_bit hx] at hP1
  have e : (wL Δ.2.1 Δ.2.2.2 (n, S, M)).set a (Δ.2.1 + a, .inl (Δ.2.2.2 2, len, .inl (upd (fun j => Int32.ofInt (M a j)) (Int32.ofInt i).toNatClampNeg (Int32.ofInt (x))))) = wL Δ.2.1 Δ.2.2.2 (n, S, up2 M a i.toNat (x)) := by
    rw [← wL_set (S := S) (S' := S) (M := M) (M' := up2 M a i.toNat (x)) (i := a) (fun _ _ => rfl) (fun j hj => up2_off hj), hs, up2_row, iI_clamp hi', upd_up1]
    rfl
  rw [e] at hP1
  exact k F hL hst.tl.tl.tl (hM.up hst.hd) ls H1 locs1 hl hP1 hS1 (fun h => by rw [hfl] at h; cases h)
theorem w_aald {Δ : DT} {Γ : FT} {fl : Bool} {md : MD} {d pc pc0 npc k1 k2 k3 : Nat} {mn : MethodName} {L st : List PV} {n : Nat} {S : Nat → SHP} {M : MEM} {cells slots : Nat} {a t r : Nat} {ks : List Nat} {i : Int} (hi : lk md pc = some (pc0, Instr.aaload, npc, k1, k2, k3, mn)) (ha : a < n) (ht : t = 4 ∨ t = 5) (hs : S a = (3, t, ks)) (h0 : 0 ≤ i) (hr : ks[i.toNat]? = some (r + 1)) (k : WAt Δ Γ fl md d npc L (vR r :: st) (n, S, M) cells slots) : WAt Δ Γ fl md d pc L (vI i :: vR a :: st) (n, S, M) cells slots := by
  intro F hL hst hM ls H locs hl hP hS hz
  obtain ⟨-, hd, rfl, hq⟩ := lk_ok hi F.good
  have hi' : InR i := hst.hd
  have hlt : i.toNat < ks.length := (List.getElem?_eq_some_iff.mp hr).1
  have hval : va_rf (rcode Δ.2.1 (ks.getD (Int32.ofInt i).toNatClampNeg 0)) = rep Δ.2.1 (vR r) := by
    rw [iI_clamp hi', List.getD_eq_getElem?_getD, hr]
    rfl
  rcases ht with rfl | rfl
  · refine va_aldq (cA := Δ.2.2.2 4) (n := ks.length) (f := fun j => rcode Δ.2.1 (ks.getD j 0)) F.exec F.bytes F.kinds hP a 4 (by rw [wL_get ha, hs]; rfl) rfl (iI_vp hi' h0 (by omega)) hd ?_
    rw [hval]
    exact k F hL (hst.tl.tl.cons (show okV (vR r) from trivial)) hM ls H locs hl hP hS hz
  · refine va_aldq (cA := Δ.2.2.2 5) (n := ks.length) (f := fun j => rcode Δ.2.1 (ks.getD j 0)) F.exec F.bytes F.kinds hP a 5 (by rw [wL_get ha, hs]; rfl) rfl (iI_vp hi' h0 (by omega)) hd ?_
    rw [hval]
    exact k F hL (hst.tl.tl.cons (show okV (vR r) from trivial)) hM ls H locs hl hP hS hz
theorem w_alen {Δ : DT} {Γ : FT} {fl : Bool} {md : MD} {d pc pc0 npc k1 k2 k3 : Nat} {mn : MethodName} {L st : List PV} {n : Nat} {S : Nat → SHP} {M : MEM} {cells slots : Nat} {a t len : Nat} (hi : lk md pc = some (pc0, Instr.arraylength, npc, k1, k2, k3, mn)) (ha : a < n) (ht : t < 3) (hs : S a = (1, t, [len])) (hlen : len < 2147483648) (k : WAt Δ Γ fl md d npc L (vI (len : Int) :: st) (n, S, M) cells slots) : WAt Δ Γ fl md d pc L (vR a :: st) (n, S, M) cells slots := by
  intro F hL hst hM ls H locs hl hP hS hz
  obtain ⟨-, hd, rfl, hq⟩ := lk_ok hi F.good
  have k' := k F hL (hst.tl.cons (show InR (len : Int) by unfold InR; omega)) hM ls H locs hl hP hS hz
  match t, ht, hs with
  | 0, _, hs => exact va_alen (cA := Δ.2.2.2 0) (x := (len, .inl (fun j => Int32.ofInt (M a j)))) F.exec F.bytes F.kinds hP a 0 (by rw [wL_get ha, hs]; rfl) (ty := .int) rfl rfl hd k'
  | 1, _, hs => exact va_alen (cA := Δ.2.2.2 1) (x := (len, .inl (fun j => Int32.ofInt (M a j)))) F.exec F.bytes F.kinds hP a 1 (by rw [wL_get ha, hs]; rfl) (ty := .byte) rfl rfl hd k'
  | 2, _, hs => exact va_alen (cA := Δ.2.2.2 2) (x := (len, .inl (fun j => Int32.ofInt (M a j)))) F.exec F.bytes F.kinds hP a 2 (by rw [wL_get ha, hs]; rfl) (ty := .boolean) rfl rfl hd k'
theorem w_alenq {Δ : DT} {Γ : FT} {fl : Bool} {md : MD} {d pc pc0 npc k1 k2 k3 : Nat} {mn : MethodName} {L st : List PV} {n : Nat} {S : Nat → SHP} {M : MEM} {cells slots : Nat} {a t : Nat} {ks : List Nat} (hi : lk md pc = some (pc0, Instr.arraylength, npc, k1, k2, k3, mn)) (ha : a < n) (ht : t = 4 ∨ t = 5) (hs : S a = (3, t, ks)) (hlen : ks.length < 2147483648) (k : WAt Δ Γ fl md d npc L (vI (ks.length : Int) :: st) (n, S, M) cells slots) : WAt Δ Γ fl md d pc L (vR a :: st) (n, S, M) cells slots := by
  intro F hL hst hM ls H locs hl hP hS hz
  obtain ⟨-, hd, rfl, hq⟩ := lk_ok hi F.good
  have k' := k F hL (hst.tl.cons (show InR (ks.length : Int) by unfold InR; omega)) hM ls H locs hl hP hS hz
  rcases ht with rfl | rfl
  · exact va_alen (cA := Δ.2.2.2 4) (x := (ks.length, .inr (.inr (.inr (.inr (fun j => rcode Δ.2.1 (ks.getD j 0))))))) F.exec F.bytes F.kinds hP a 4 (by rw [wL_get ha, hs]; rfl) (ty := .object "DonkeysHour$Beast") rfl rfl hd k'
  · exact va_alen (cA := Δ.2.2.2 5) (x := (ks.length, .inr (.inr (.inr (.inr (fun j => rcode Δ.2.1 (ks.getD j 0))))))) F.exec F.bytes F.kinds hP a 5 (by rw [wL_get ha, hs]; rfl) (ty := .object "DonkeysHour$Scene") rfl rfl hd k'
end
section
-- ===== contracts, calls, returns =====
def RepS (Δ : DT) (fl : Bool) (w : WD) (U : State) : Prop := va_P Δ.2.2.1 vwCl (wL Δ.2.1 Δ.2.2.2 w) U.heap ∧ va_K Δ.2.2.1 vwCl (tys Δ.2.2.2) U ∧ Δ.2.1 ≤ U.heap.size ∧ (fl = true → U.heap.size = Δ.2.1 + w.1)
theorem RepS.blind {Δ : DT} {fl : Bool} {w : WD} {as : List Value} : FrameBlind (va_Pc as (RepS Δ fl w)) := by
  intro a U g mk h
  obtain ⟨h0, hP, hK, hB, hz⟩ := h
  exact ⟨h0, hP, va_K.moved (u := U) (U := U.calling g mk a) (Vm.Alike.refl U.vm) hK, hB, hz⟩
/-- how a method ends: an int (a boolean), or nothing; the world behind it -/
def QcOf (Δ : DT) (fl : Bool) (r : Option Int) (w : WD) : Array Value → State → Outcome → State → Prop := match r with
  | some x => va_Qi (fun v (_ : Unit) => v = Int32.ofInt x) (fun _ t => RepS Δ fl w t) (own Δ)
  | none => va_Qv (fun _ : Unit => True) (fun _ t => RepS Δ fl w t) (own Δ)
def rmOf (d mc ms : Nat) : Room := { frames := d, cells := mc, slots := ms, locals := 40 * d }
def wsOf (md : MD) : List Cond := .code md.1 md.2.1 md.2.2.1 md.2.2.2.1 :: tblG
def Cal (Δ : DT) (fl : Bool) (md : MD) (d : Nat) (as : List PV) (w : WD) (r : Option Int) (w' : WD) (mc ms : Nat) : Prop :=
  Met Δ.1 md.1 (wsOf md) (rmOf d mc ms) (va_Pc (as.map (rep Δ.2.1)) (RepS Δ fl w)) (QcOf Δ fl r w') mc ms (own Δ)
def RetOk (Δ : DT) (Γ : FT) (fl : Bool) (r : Option Int) (w : WD) (cells slots : Nat) : Prop :=
  Γ.2.2.2.2.2.2.2.2.2 = MQ Γ.2.2.2.2.2.2.1 (QcOf Δ fl r w) Γ.2.2.2.2.2.1 Γ.2.2.2.1 cells slots (own Δ)
/-- what a caller needs of a method's words: its places in the tables -/
def calleeV (md : MD) (z1 z2 z3 z4 n : Nat) : Bool := wis z1 (.code md.1 md.2.1 md.2.2.1 md.2.2.2.1) && wis z2 (.instanceMethod md.1) && wis z3 (.selects md.1.cls md.1 md.1) && wis z4 (.initialized md.1.cls) &&
  decide (md.1.cls ≠ "java/lang/invoke/MethodHandle") && decide (md.1.cls ≠ "java/lang/invoke/VarHandle") && decide ((parseMethodDescriptor md.1.desc).map (fun d => d.parameters.length) = some n) && decide (md.2.2.1 ≤ 21) && plainName md.1.cls
def calleeS (md : MD) (z1 z2 z4 n : Nat) : Bool := wis z1 (.code md.1 md.2.1 md.2.2.1 md.2.2.2.1) && wis z2 (.static md.1) && wis z4 (.initialized md.1.cls) &&
  decide (md.1.cls ≠ "java/lang/invoke/MethodHandle") && decide (md.1.cls ≠ "java/lang/invoke/VarHandle") && decide ((parseMethodDescriptor md.1.desc).map (fun d => d.parameters.length) = some n) && decide (md.2.2.1 ≤ 21) && plainName md.1.cls
theorem wsOf_good {md : MD} (h : Cond.code md.1 md.2.1 md.2.2.1 md.2.2.2.1 ∈ tblG) : GoodIn tblG (wsOf md) := fun w hw => by
  rcases List.mem_cons.mp hw with rfl | hw
  · exact tblG_good _ h
  · exact tblG_good w hw
theorem cats {B : Nat} : ∀ {st : List PV}, st.length ≤ 4 → ((st.map (rep B)).map fun v => v.category).sum ≤ 8 := by
  have h : ∀ st : List PV, ((st.map (rep B)).map fun v => v.category).sum ≤ 2 * st.length := by
    intro st
    induction st with
    | nil => simp
    | cons v st ih =>
      have hc : (rep B v).category ≤ 2 := by rcases lv_cat (rep B v) with h | h <;> omega
      simp only [List.map_cons, List.sum_cons, List.length_cons]
      omega
  intro st hl
  have := h st
  omega
theorem map_rep_call {B : Nat} {as st : List PV} {a : Nat} : (as.reverse ++ vR a :: st).map (rep B) = (as.map (rep B)).reverse ++ .ref (B + a) :: st.map (rep B) := by
  simp [rep]
section CALLS
variable {Δ : DT} {Γ : FT} {fl : Bool} {md mdc : MD} {d pc pc0 npc k1 k2 k3 : Nat} {L st as : List PV} {n : Nat} {S : Nat → SHP} {M : MEM} {w' : WD} {cells slots : Nat}
/-- behind a call of a method that answers an int -/
theorem call_i {idx a x mc ms z1 z2 z3 z4 ci : Nat} {r : Int} {ks : List Nat} {C : String} {T : u_T} {N : Nat} (hi : lk md pc = some (pc0, Instr.invokevirtual idx, npc, k1, k2, k3, mdc.1)) (hcal : Cal Δ fl mdc d (vR a :: as) (n, S, M) (some r) w' mc ms) (hv : calleeV mdc z1 z2 z3 z4 as.length = true)
    (ha : a < n) (hs : S a = (0, ci, ks)) (hci : vwCl[ci]? = some (mdc.1.cls, T, N)) (hst4 : st.length ≤ 4) (hcr : cells + mc ≤ Γ.2.2.1.cells ∧ slots + ms ≤ Γ.2.2.1.slots) (hok : okM M → okM w'.2.2) (hr : InR r)
    (k : WAt Δ Γ fl md (d + 1) npc L (vI r :: st) w' (cells + mc) (slots + ms)) : WAt Δ Γ fl md (d + 1) pc L (as.reverse ++ vR a :: st) (n, S, M) cells slots := by
  intro F hL hst hM ls H locs hl hP hS hz
  obtain ⟨-, hd, rfl, hq⟩ := lk_ok hi F.good
  simp only [calleeV, Bool.and_eq_true, decide_eq_true_eq] at hv
  obtain ⟨⟨⟨⟨⟨⟨⟨⟨v1, v2⟩, v3⟩, v4⟩, v5⟩, v6⟩, v7⟩, v8⟩, v9⟩ := hv
  have fr := F.fr
  have lo := F.lo
  have hml : Γ.2.2.2.2.2.2.2.2.1.maxLocals = md.2.2.1 := F.maxL
  have hcode := wis_in v1
  have hlink : Cond.methodLink md.1.cls idx mdc.1 ∈ tblG := wis_in hq
  have hgood : GoodIn tblG (wsV md.1.cls idx mdc.1.cls mdc.1 (wsOf mdc)) := fun w hw => by
    have hw : w ∈ ([.methodLink md.1.cls idx mdc.1, .instanceMethod mdc.1, .selects mdc.1.cls mdc.1 mdc.1, .initialized mdc.1.cls] : List Cond) ++ wsOf mdc := hw
    rcases List.mem_append.mp hw with h | h
    · simp only [List.mem_cons, List.not_mem_nil, or_false] at h
      rcases h with rfl | rfl | rfl | rfl
      · exact tblG_good _ hlink
      · exact tblG_good _ (wis_in v2)
      · exact tblG_good _ (wis_in v3)
      · exact tblG_good _ (wis_in v4)
    · exact wsOf_good hcode w h
  have hcell : (wL Δ.2.1 Δ.2.2.2 (n, S, M))[a]? = some (Δ.2.1 + a, .inr (ci, fvs Δ.2.1 (M a) 0 ks)) := by rw [wL_get ha, hs]; rfl
  rw [map_rep_call]
  refine va_calli (va_runV (As := as.map (rep Δ.2.1)) (rest := st.map (rep Δ.2.1)) ⟨F.exec, F.bytes, hml, F.own, F.ts⟩ hcal (cwV as.length F.ts hgood rfl rfl rfl ⟨rfl, v5, v6, v7⟩ ⟨by show d + 1 ≤ _; exact fr, by show 8 + (mdc.2.2.1 + 11) + 40 * d ≤ _; omega⟩) ⟨RepS.blind, va_recv F.kinds hP hci hcell, fun U hU hW => ⟨by simp [rep], by rw [hU]; exact hP, va_K.moved hW.alike F.kinds, by rw [hU]; have := F.base; have := hS.1; omega, fun h => by rw [hU]; exact hz h⟩⟩ rfl (by simp) hl.1 rfl (lv_room (cats hst4)) hd hcr) hS (fun q _ h => h) (fun q h => h) (fun rv u t H1 locs1 ht hvm hw hB hz1 hk1 hS1 => ?_)
  obtain ⟨hP1, hK1, hB1, hz2⟩ := hB
  rw [ht] at hP1 hz2
  subst hw
  exact k F hL (okVs.cons hr (fun x hx => hst x (List.mem_append_right _ (List.mem_cons_of_mem _ hx)))) (hok hM) ls H1 locs1 hl hP1 hS1 hz2
/-- behind a call of a method that answers nothing -/
theorem call_v {idx a x mc ms z1 z2 z3 z4 ci : Nat} {ks : List Nat} {C : String} {T : u_T} {N : Nat} (hi : lk md pc = some (pc0, Instr.invokevirtual idx, npc, k1, k2, k3, mdc.1)) (hcal : Cal Δ fl mdc d (vR a :: as) (n, S, M) none w' mc ms) (hv : calleeV mdc z1 z2 z3 z4 as.length = true)
    (ha : a < n) (hs : S a = (0, ci, ks)) (hci : vwCl[ci]? = some (mdc.1.cls, T, N)) (hst4 : st.length ≤ 4) (hcr : cells + mc ≤ Γ.2.2.1.cells ∧ slots + ms ≤ Γ.2.2.1.slots) (hok : okM M → okM w'.2.2)
    (k : WAt Δ Γ fl md (d + 1) npc L st w' (cells + mc) (slots + ms)) : WAt Δ Γ fl md (d + 1) pc L (as.reverse ++ vR a :: st) (n, S, M) cells slots := by
  intro F hL hst hM ls H locs hl hP hS hz
  obtain ⟨-, hd, rfl, hq⟩ := lk_ok hi F.good
  simp only [calleeV, Bool.and_eq_true, decide_eq_true_eq] at hv
  obtain ⟨⟨⟨⟨⟨⟨⟨⟨v1, v2⟩, v3⟩, v4⟩, v5⟩, v6⟩, v7⟩, v8⟩, v9⟩ := hv
  have fr := F.fr
  have lo := F.lo
  have hml : Γ.2.2.2.2.2.2.2.2.1.maxLocals = md.2.2.1 := F.maxL
  have hcode := wis_in v1
  have hlink : Cond.methodLink md.1.cls idx mdc.1 ∈ tblG := wis_in hq
  have hgood : GoodIn tblG (wsV md.1.cls idx mdc.1.cls mdc.1 (wsOf mdc)) := fun w hw => by
    have hw : w ∈ ([.methodLink md.1.cls idx mdc.1, .instanceMethod mdc.1, .selects mdc.1.cls mdc.1 mdc.1, .initialized mdc.1.cls] : List Cond) ++ wsOf mdc := hw
    rcases List.mem_append.mp hw with h | h
    · simp only [List.mem_cons, List.not_mem_nil, or_false] at h
      rcases h with rfl | rfl | rfl | rfl
      · exact tblG_good _ hlink
      · exact tblG_good _ (wis_in v2)
      · exact tblG_good _ (wis_in v3)
      · exact tblG_good _ (wis_in v4)
    · exact wsOf_good hcode w h
  have hcell : (wL Δ.2.1 Δ.2.2.2 (n, S, M))[a]? = some (Δ.2.1 + a, .inr (ci, fvs Δ.2.1 (M a) 0 ks)) := by rw [wL_get ha, hs]; rfl
  rw [map_rep_call]
  refine va_callv (va_runV (As := as.map (rep Δ.2.1)) (rest := st.map (rep Δ.2.1)) ⟨F.exec, F.bytes, hml, F.own, F.ts⟩ hcal (cwV as.length F.ts hgood rfl rfl rfl ⟨rfl, v5, v6, v7⟩ ⟨by show d + 1 ≤ _; exact fr, by show 8 + (mdc.2.2.1 + 11) + 40 * d ≤ _; omega⟩) ⟨RepS.blind, va_recv F.kinds hP hci hcell, fun U hU hW => ⟨by simp [rep], by rw [hU]; exact hP, va_K.moved hW.alike F.kinds, by rw [hU]; have := F.base; have := hS.1; omega, fun h => by rw [hU]; exact hz h⟩⟩ rfl (by simp) hl.1 rfl (lv_room (cats hst4)) hd hcr) hS (fun q _ h => h) (fun q h => h) (fun u t H1 locs1 ht hvm hw hB hz1 hk1 hS1 => ?_)
  obtain ⟨hP1, hK1, hB1, hz2⟩ := hB
  rw [ht] at hP1 hz2
  exact k F hL ((fun x hx => hst x (List.mem_append_right _ (List.mem_cons_of_mem _ hx))) : okVs st) (hok hM) ls H1 locs1 hl hP1 hS1 hz2
/-- behind a call of a static method that answers an int -/
theorem calls_i {idx mc ms z1 z2 z4 : Nat} {r : Int} (hi : lk md pc = some (pc0, Instr.invokestatic idx, npc, k1, k2, k3, mdc.1)) (hcal : Cal Δ fl mdc d as (n, S, M) (some r) w' mc ms) (hv : calleeS mdc z1 z2 z4 as.length = true)
    (hst4 : st.length ≤ 4) (hcr : cells + mc ≤ Γ.2.2.1.cells ∧ slots + ms ≤ Γ.2.2.1.slots) (hok : okM M → okM w'.2.2) (hr : InR r)
    (k : WAt Δ Γ fl md (d + 1) npc L (vI r :: st) w' (cells + mc) (slots + ms)) : WAt Δ Γ fl md (d + 1) pc L (as.reverse ++ st) (n, S, M) cells slots := by
  intro F hL hst hM ls H locs hl hP hS hz
  obtain ⟨-, hd, rfl, hq⟩ := lk_ok hi F.good
  simp only [calleeS, Bool.and_eq_true, decide_eq_true_eq] at hv
  obtain ⟨⟨⟨⟨⟨⟨⟨v1, v2⟩, v4⟩, v5⟩, v6⟩, v7⟩, v8⟩, v9⟩ := hv
  have fr := F.fr
  have lo := F.lo
  have hml : Γ.2.2.2.2.2.2.2.2.1.maxLocals = md.2.2.1 := F.maxL
  have hcode := wis_in v1
  have hlink : Cond.methodLink md.1.cls idx mdc.1 ∈ tblG := wis_in hq
  have hgood : GoodIn tblG (va_wsS md.1.cls idx mdc.1 (wsOf mdc)) := fun w hw => by
    have hw : w ∈ ([.methodLink md.1.cls idx mdc.1, .static mdc.1, .initialized mdc.1.cls] : List Cond) ++ wsOf mdc := hw
    rcases List.mem_append.mp hw with h | h
    · simp only [List.mem_cons, List.not_mem_nil, or_false] at h
      rcases h with rfl | rfl | rfl
      · exact tblG_good _ hlink
      · exact tblG_good _ (wis_in v2)
      · exact tblG_good _ (wis_in v4)
    · exact wsOf_good hcode w h
  have emap : (as.reverse ++ st).map (rep Δ.2.1) = (as.map (rep Δ.2.1)).reverse ++ st.map (rep Δ.2.1) := by simp
  rw [emap]
  refine va_calli (va_runS (As := as.map (rep Δ.2.1)) (rest := st.map (rep Δ.2.1)) ⟨F.exec, F.bytes, hml, F.own, F.ts⟩ hcal (va_cwS as.length F.ts hgood rfl rfl rfl ⟨v5, v6, v7⟩ ⟨by show d + 1 ≤ _; exact fr, by show 8 + (mdc.2.2.1 + 11) + 40 * d ≤ _; omega⟩) ⟨RepS.blind, fun U hU hW => ⟨rfl, by rw [hU]; exact hP, va_K.moved hW.alike F.kinds, by rw [hU]; have := F.base; have := hS.1; omega, fun h => by rw [hU]; exact hz h⟩⟩ rfl (by simp) hl.1 rfl (lv_room (cats hst4)) hd hcr) hS (fun q _ h => h) (fun q h => h) (fun rv u t H1 locs1 ht hvm hw hB hz1 hk1 hS1 => ?_)
  obtain ⟨hP1, hK1, hB1, hz2⟩ := hB
  rw [ht] at hP1 hz2
  subst hw
  exact k F hL (okVs.cons hr (fun x hx => hst x (List.mem_append_right _ hx))) (hok hM) ls H1 locs1 hl hP1 hS1 hz2
/-- behind a call of a static method that answers nothing -/
theorem calls_v {idx mc ms z1 z2 z4 : Nat} (hi : lk md pc = some (pc0, Instr.invokestatic idx, npc, k1, k2, k3, mdc.1)) (hcal : Cal Δ fl mdc d as (n, S, M) none w' mc ms) (hv : calleeS mdc z1 z2 z4 as.length = true)
    (hst4 : st.length ≤ 4) (hcr : cells + mc ≤ Γ.2.2.1.cells ∧ slots + ms ≤ Γ.2.2.1.slots) (hok : okM M → okM w'.2.2)
    (k : WAt Δ Γ fl md (d + 1) npc L st w' (cells + mc) (slots + ms)) : WAt Δ Γ fl md (d + 1) pc L (as.reverse ++ st) (n, S, M) cells slots := by
  intro F hL hst hM ls H locs hl hP hS hz
  obtain ⟨-, hd, rfl, hq⟩ := lk_ok hi F.good
  simp only [calleeS, Bool.and_eq_true, decide_eq_true_eq] at hv
  obtain ⟨⟨⟨⟨⟨⟨⟨v1, v2⟩, v4⟩, v5⟩, v6⟩, v7⟩, v8⟩, v9⟩ := hv
  have fr := F.fr
  have lo := F.lo
  have hml : Γ.2.2.2.2.2.2.2.2.1.maxLocals = md.2.2.1 := F.maxL
  have hcode := wis_in v1
  have hlink : Cond.methodLink md.1.cls idx mdc.1 ∈ tblG := wis_in hq
  have hgood : GoodIn tblG (va_wsS md.1.cls idx mdc.1 (wsOf mdc)) := fun w hw => by
    have hw : w ∈ ([.methodLink md.1.cls idx mdc.1, .static mdc.1, .initialized mdc.1.cls] : List Cond) ++ wsOf mdc := hw
    rcases List.mem_append.mp hw with h | h
    · simp only [List.mem_cons, List.not_mem_nil, or_false] at h
      rcases h with rfl | rfl | rfl
      · exact tblG_good _ hlink
      · exact tblG_good _ (wis_in v2)
      · exact tblG_good _ (wis_in v4)
    · exact wsOf_good hcode w h
  have emap : (as.reverse ++ st).map (rep Δ.2.1) = (as.map (rep Δ.2.1)).reverse ++ st.map (rep Δ.2.1) := by simp
  rw [emap]
  refine va_callv (va_runS (As := as.map (rep Δ.2.1)) (rest := st.map (rep Δ.2.1)) ⟨F.exec, F.bytes, hml, F.own, F.ts⟩ hcal (va_cwS as.length F.ts hgood rfl rfl rfl ⟨v5, v6, v7⟩ ⟨by show d + 1 ≤ _; exact fr, by show 8 + (mdc.2.2.1 + 11) + 40 * d ≤ _; omega⟩) ⟨RepS.blind, fun U hU hW => ⟨rfl, by rw [hU]; exact hP, va_K.moved hW.alike F.kinds, by rw [hU]; have := F.base; have := hS.1; omega, fun h => by rw [hU]; exact hz h⟩⟩ rfl (by simp) hl.1 rfl (lv_room (cats hst4)) hd hcr) hS (fun q _ h => h) (fun q h => h) (fun u t H1 locs1 ht hvm hw hB hz1 hk1 hS1 => ?_)
  obtain ⟨hP1, hK1, hB1, hz2⟩ := hB
  rw [ht] at hP1 hz2
  exact k F hL (fun x hx => hst x (List.mem_append_right _ hx)) (hok hM) ls H1 locs1 hl hP1 hS1 hz2
-- ===== returns =====
theorem w_ireturn {x : Int} {mn : MethodName} (hi : lk md pc = some (pc0, Instr.ireturn, npc, k1, k2, k3, mn)) (hret : md.2.2.2.1 = some .int) (k : RetOk Δ Γ fl (some x) (n, S, M) cells slots) : WAt Δ Γ fl md d pc L [vI x] (n, S, M) cells slots := by
  intro F hL hst hM ls H locs hl hP hS hz
  obtain ⟨-, hd, rfl, hq⟩ := lk_ok hi F.good
  unfold RetOk at k
  rw [k]
  exact W.zret (ty := .int) F.exec F.bytes (F.ret.trans hret) rfl (fun t ht hW => ⟨⟨Int32.ofInt x, (), rfl, rfl, by rw [ht]; exact hP, va_K.moved hW.alike F.kinds, by rw [ht]; have := F.base; have := hS.1; omega, fun h => by rw [ht]; exact hz h⟩, hS.F ht⟩) hS.2.2 hd F.locks
theorem w_zreturn {x : Int} {mn : MethodName} (hi : lk md pc = some (pc0, Instr.ireturn, npc, k1, k2, k3, mn)) (hret : md.2.2.2.1 = some .boolean) (hx : x = 0 ∨ x = 1) (k : RetOk Δ Γ fl (some x) (n, S, M) cells slots) : WAt Δ Γ fl md d pc L [vI x] (n, S, M) cells slots := by
  intro F hL hst hM ls H locs hl hP hS hz
  obtain ⟨-, hd, rfl, hq⟩ := lk_ok hi F.good
  unfold RetOk at k
  rw [k]
  exact W.zret (ty := .boolean) F.exec F.bytes (F.ret.trans hret) (by rcases hx with rfl | rfl <;> rfl) (fun t ht hW => ⟨⟨Int32.ofInt x, (), rfl, rfl, by rw [ht]; exact hP, va_K.moved hW.alike F.kinds, by rw [ht]; have := F.base; have := hS.1; omega, fun h => by rw [ht]; exact hz h⟩, hS.F ht⟩) hS.2.2 hd F.locks
theorem w_return {mn : MethodName} (hi : lk md pc = some (pc0, Instr.return_, npc, k1, k2, k3, mn)) (hret : md.2.2.2.1 = none) (k : RetOk Δ Γ fl none (n, S, M) cells slots) : WAt Δ Γ fl md d pc L [] (n, S, M) cells slots := by
  intro F hL hst hM ls H locs hl hP hS hz
  obtain ⟨-, hd, rfl, hq⟩ := lk_ok hi F.good
  unfold RetOk at k
  rw [k]
  exact W.vret F.exec F.bytes (F.ret.trans hret) (fun t ht hW => ⟨⟨(), rfl, trivial, by rw [ht]; exact hP, va_K.moved hW.alike F.kinds, by rw [ht]; have := F.base; have := hS.1; omega, fun h => by rw [ht]; exact hz h⟩, hS.F ht⟩) hS.2.2 hd F.locks
-- ===== a contract out of a body =====
theorem lg_sl_rep {B : Nat} : ∀ {as : List PV}, (∀ v ∈ as, (∃ n, v = vI n) ∨ ∃ a, v = vR a) → lg_sl (as.map (rep B)) = (as.map (rep B)).map Slot.val := by
  intro as
  induction as with
  | nil => intro _; rfl
  | cons v as ih =>
    intro h
    have hv := h v List.mem_cons_self
    have ih := ih (fun x hx => h x (List.mem_cons_of_mem _ hx))
    have e : lg_sl (List.map (rep B) (v :: as)) = Slot.val (rep B v) :: lg_sl (List.map (rep B) as) := by
      rcases hv with ⟨n, rfl⟩ | ⟨a, rfl⟩ <;> simp [lg_sl, rep, Value.category]
    rw [e, ih]
    rfl
theorem entry_lvr {B : Nat} {as : List PV} {nL : Nat} (h : ∀ v ∈ as, (∃ n, v = vI n) ∨ ∃ a, v = vR a) (hn : as.length ≤ nL) : lvr B (lg_sl (as.map (rep B)) ++ List.replicate (nL - (lg_sl (as.map (rep B))).length) Slot.unset).toArray nL (as ++ List.replicate (nL - as.length) vN) := by
  have hl : (lg_sl (as.map (rep B))).length ≤ nL := by rw [lg_sl_rep h]; simpa using hn
  have h0 := lv_entry (as.map (rep B)) hl
  refine ⟨h0.1, h0.2.1, fun q hq => ?_⟩
  obtain ⟨j, v, h1, h2, rfl⟩ := (lvlA_mem B _ 0 _).mp hq
  have hj : as[j]? = some v := by
    by_cases hlt : j < as.length
    · rwa [List.getElem?_append_left hlt] at h1
    · rw [List.getElem?_append_right (by omega)] at h1
      have e := List.eq_of_mem_replicate (List.mem_of_getElem? h1)
      subst e
      rcases h2 with ⟨n, h⟩ | ⟨a, h⟩ <;> cases h
  have hlt : j < as.length := (List.getElem?_eq_some_iff.mp hj).1
  rw [Nat.zero_add, List.getElem?_toArray, lg_sl_rep h, List.getElem?_append_left (by simpa using hlt)]
  simp [hj]
theorem cal_of (hg : md.2.2.2.2.all (chkE md) = true) (hpl : plainName md.1.cls = true) {as : List PV} {w w' : WD} {r : Option Int} {mc ms : Nat} (has : ∀ v ∈ as, (∃ n, v = vI n) ∨ ∃ a, v = vR a) (hok : okVs as) (hM : okM w.2.2) (hn : as.length ≤ md.2.2.1)
    (h : ∀ Γ : FT, Γ.2.2.1 = rmOf d mc ms → RetOk Δ Γ fl r w' mc ms → WAt Δ Γ fl md d 0 (as ++ List.replicate (md.2.2.1 - as.length) vN) [] w 0 0) : Cal Δ fl md d as w r w' mc ms := by
  refine Met.ofW (cc := md.2.1) (maxL := md.2.2.1) (ret := md.2.2.2.1) hpl rfl ?_
  intro p e s m args below meth c s₁ B hml hv
  obtain ⟨rfl, hP, hK, hB, hz⟩ := hv
  have hts := atoms_spec (ws := wsOf md) B.pre
  rw [lg_entry_eq]
  refine h (p, e, rmOf d mc ms, s, m, (as.map (rep Δ.2.1)).toArray, below, meth, c, MQ below (QcOf Δ fl r w') (as.map (rep Δ.2.1)).toArray s mc ms (own Δ)) rfl rfl ⟨B.exec, B.bytes, hml, B.returns, B.notSynchronized, (name_of_methodNamed B.named B.method).1, findClass_of_methodNamed B.named, fun w hw => hts w (List.mem_cons_of_mem _ hw), hK, hB, Nat.le_refl _, Nat.le_refl _, hg⟩ ?_ (fun x hx => by cases hx) hM _ s.heap [] (entry_lvr has hn) hP va_S.rf hz
  intro x hx
  rcases List.mem_append.mp hx with h1 | h1
  · exact hok x h1
  · rw [List.eq_of_mem_replicate h1]
    exact trivial
end CALLS
end
