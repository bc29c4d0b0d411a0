-- ===== PART A: goes FIRST, ahead of the names: the tables' words, and 'selects' of the private methods out of them =====
/-- a private method of a class that the tables say can be made, by its rows of tables_1 -/
def lw_okq (q : MethodName × Nat) : Prop := (q.1.cls ≠ "java/lang/invoke/MethodHandle" ∧ q.1.cls ≠ "java/lang/invoke/VarHandle") ∧ Cond.instantiable q.1.cls q.2 ∈ tables_1 ∧ Cond.privateMethod q.1 ∈ tables_1 ∧ Cond.instanceMethod q.1 ∈ tables_1
theorem lw_p0 : lw_okq (⟨"ByLot$Text", "clause", "()Z"⟩, 5) := ⟨⟨by decide +kernel, by decide +kernel⟩, List.mem_of_getElem? (i := 176) (by decide +kernel), List.mem_of_getElem? (i := 364) (by decide +kernel), List.mem_of_getElem? (i := 365) (by decide +kernel)⟩
theorem lw_p1 : lw_okq (⟨"ByLot$Text", "next", "()I"⟩, 5) := ⟨⟨by decide +kernel, by decide +kernel⟩, List.mem_of_getElem? (i := 176) (by decide +kernel), List.mem_of_getElem? (i := 369) (by decide +kernel), List.mem_of_getElem? (i := 370) (by decide +kernel)⟩
theorem lw_p2 : lw_okq (⟨"ByLot$Text", "passesWord", "(Ljava/lang/String;)Z"⟩, 5) := ⟨⟨by decide +kernel, by decide +kernel⟩, List.mem_of_getElem? (i := 176) (by decide +kernel), List.mem_of_getElem? (i := 465) (by decide +kernel), List.mem_of_getElem? (i := 466) (by decide +kernel)⟩
theorem lw_p3 : lw_okq (⟨"ByLot$Text", "passes", "(I)Z"⟩, 5) := ⟨⟨by decide +kernel, by decide +kernel⟩, List.mem_of_getElem? (i := 176) (by decide +kernel), List.mem_of_getElem? (i := 490) (by decide +kernel), List.mem_of_getElem? (i := 491) (by decide +kernel)⟩
theorem lw_p4 : lw_okq (⟨"ByLot$Text", "passesNumber", "()Z"⟩, 5) := ⟨⟨by decide +kernel, by decide +kernel⟩, List.mem_of_getElem? (i := 176) (by decide +kernel), List.mem_of_getElem? (i := 494) (by decide +kernel), List.mem_of_getElem? (i := 495) (by decide +kernel)⟩
theorem lw_p5 : lw_okq (⟨"ByLot$Text", "either", "(I)Z"⟩, 5) := ⟨⟨by decide +kernel, by decide +kernel⟩, List.mem_of_getElem? (i := 176) (by decide +kernel), List.mem_of_getElem? (i := 499) (by decide +kernel), List.mem_of_getElem? (i := 500) (by decide +kernel)⟩
theorem lw_p6 : lw_okq (⟨"ByLot$Text", "both", "(I)Z"⟩, 5) := ⟨⟨by decide +kernel, by decide +kernel⟩, List.mem_of_getElem? (i := 176) (by decide +kernel), List.mem_of_getElem? (i := 503) (by decide +kernel), List.mem_of_getElem? (i := 504) (by decide +kernel)⟩
theorem lw_p7 : lw_okq (⟨"ByLot$Text", "single", "(I)Z"⟩, 5) := ⟨⟨by decide +kernel, by decide +kernel⟩, List.mem_of_getElem? (i := 176) (by decide +kernel), List.mem_of_getElem? (i := 507) (by decide +kernel), List.mem_of_getElem? (i := 508) (by decide +kernel)⟩
theorem lw_p8 : lw_okq (⟨"ByLot$Text", "test", "()Z"⟩, 5) := ⟨⟨by decide +kernel, by decide +kernel⟩, List.mem_of_getElem? (i := 176) (by decide +kernel), List.mem_of_getElem? (i := 511) (by decide +kernel), List.mem_of_getElem? (i := 512) (by decide +kernel)⟩
theorem lw_p9 : lw_okq (⟨"ByLot$Holder", "reckons", "()Z"⟩, 4) := ⟨⟨by decide +kernel, by decide +kernel⟩, List.mem_of_getElem? (i := 621) (by decide +kernel), List.mem_of_getElem? (i := 675) (by decide +kernel), List.mem_of_getElem? (i := 676) (by decide +kernel)⟩
theorem lw_p10 : lw_okq (⟨"ByLot$Holder", "endPrice", "(LByLot$Ground;)I"⟩, 4) := ⟨⟨by decide +kernel, by decide +kernel⟩, List.mem_of_getElem? (i := 621) (by decide +kernel), List.mem_of_getElem? (i := 679) (by decide +kernel), List.mem_of_getElem? (i := 680) (by decide +kernel)⟩
theorem lw_p11 : lw_okq (⟨"ByLot$Holder", "yearsFor", "(I)I"⟩, 4) := ⟨⟨by decide +kernel, by decide +kernel⟩, List.mem_of_getElem? (i := 621) (by decide +kernel), List.mem_of_getElem? (i := 683) (by decide +kernel), List.mem_of_getElem? (i := 684) (by decide +kernel)⟩
theorem lw_p12 : lw_okq (⟨"ByLot$Ground", "plan", "(II)V"⟩, 12) := ⟨⟨by decide +kernel, by decide +kernel⟩, List.mem_of_getElem? (i := 547) (by decide +kernel), List.mem_of_getElem? (i := 691) (by decide +kernel), List.mem_of_getElem? (i := 692) (by decide +kernel)⟩
theorem lw_p13 : lw_okq (⟨"ByLot$Ground", "planYear", "(I)V"⟩, 12) := ⟨⟨by decide +kernel, by decide +kernel⟩, List.mem_of_getElem? (i := 547) (by decide +kernel), List.mem_of_getElem? (i := 695) (by decide +kernel), List.mem_of_getElem? (i := 696) (by decide +kernel)⟩
theorem lw_p14 : lw_okq (⟨"ByLot$Holder", "stepsAtSight", "(LByLot$Ground;III)I"⟩, 4) := ⟨⟨by decide +kernel, by decide +kernel⟩, List.mem_of_getElem? (i := 621) (by decide +kernel), List.mem_of_getElem? (i := 700) (by decide +kernel), List.mem_of_getElem? (i := 701) (by decide +kernel)⟩
theorem lw_p15 : lw_okq (⟨"ByLot$Land", "yearOf", "(LByLot$World;[LByLot$Holder;I)I"⟩, 8) := ⟨⟨by decide +kernel, by decide +kernel⟩, List.mem_of_getElem? (i := 29) (by decide +kernel), List.mem_of_getElem? (i := 744) (by decide +kernel), List.mem_of_getElem? (i := 745) (by decide +kernel)⟩
def lw_privs_1 : List (MethodName × Nat) := [(⟨"ByLot$Text", "clause", "()Z"⟩, 5), (⟨"ByLot$Text", "next", "()I"⟩, 5), (⟨"ByLot$Text", "passesWord", "(Ljava/lang/String;)Z"⟩, 5), (⟨"ByLot$Text", "passes", "(I)Z"⟩, 5), (⟨"ByLot$Text", "passesNumber", "()Z"⟩, 5), (⟨"ByLot$Text", "either", "(I)Z"⟩, 5), (⟨"ByLot$Text", "both", "(I)Z"⟩, 5), (⟨"ByLot$Text", "single", "(I)Z"⟩, 5), (⟨"ByLot$Text", "test", "()Z"⟩, 5), (⟨"ByLot$Holder", "reckons", "()Z"⟩, 4), (⟨"ByLot$Holder", "endPrice", "(LByLot$Ground;)I"⟩, 4), (⟨"ByLot$Holder", "yearsFor", "(I)I"⟩, 4), (⟨"ByLot$Ground", "plan", "(II)V"⟩, 12), (⟨"ByLot$Ground", "planYear", "(I)V"⟩, 12), (⟨"ByLot$Holder", "stepsAtSight", "(LByLot$Ground;III)I"⟩, 4), (⟨"ByLot$Land", "yearOf", "(LByLot$World;[LByLot$Holder;I)I"⟩, 8)]
theorem lw_r1 : ∀ q ∈ lw_privs_1, lw_okq q := List.forall_mem_cons.mpr ⟨lw_p0, List.forall_mem_cons.mpr ⟨lw_p1, List.forall_mem_cons.mpr ⟨lw_p2, List.forall_mem_cons.mpr ⟨lw_p3, List.forall_mem_cons.mpr ⟨lw_p4, List.forall_mem_cons.mpr ⟨lw_p5, List.forall_mem_cons.mpr ⟨lw_p6, List.forall_mem_cons.mpr ⟨lw_p7, List.forall_mem_cons.mpr ⟨lw_p8, List.forall_mem_cons.mpr ⟨lw_p9, List.forall_mem_cons.mpr ⟨lw_p10, List.forall_mem_cons.mpr ⟨lw_p11, List.forall_mem_cons.mpr ⟨lw_p12, List.forall_mem_cons.mpr ⟨lw_p13, List.forall_mem_cons.mpr ⟨lw_p14, List.forall_mem_cons.mpr ⟨lw_p15, fun _ h => absurd h List.not_mem_nil⟩⟩⟩⟩⟩⟩⟩⟩⟩⟩⟩⟩⟩⟩⟩⟩
theorem lw_p16 : lw_okq (⟨"ByLot$Land", "endRound", "(LByLot$World;)V"⟩, 8) := ⟨⟨by decide +kernel, by decide +kernel⟩, List.mem_of_getElem? (i := 29) (by decide +kernel), List.mem_of_getElem? (i := 752) (by decide +kernel), List.mem_of_getElem? (i := 753) (by decide +kernel)⟩
theorem lw_p17 : lw_okq (⟨"ByLot$Land", "lotIsWhole", "(LByLot$World;)Z"⟩, 8) := ⟨⟨by decide +kernel, by decide +kernel⟩, List.mem_of_getElem? (i := 29) (by decide +kernel), List.mem_of_getElem? (i := 756) (by decide +kernel), List.mem_of_getElem? (i := 757) (by decide +kernel)⟩
theorem lw_p18 : lw_okq (⟨"ByLot", "allMendFor", "(I)Z"⟩, 10) := ⟨⟨by decide +kernel, by decide +kernel⟩, List.mem_of_getElem? (i := 21) (by decide +kernel), List.mem_of_getElem? (i := 804) (by decide +kernel), List.mem_of_getElem? (i := 805) (by decide +kernel)⟩
theorem lw_p19 : lw_okq (⟨"ByLot", "wouldRather", "(III)Z"⟩, 10) := ⟨⟨by decide +kernel, by decide +kernel⟩, List.mem_of_getElem? (i := 21) (by decide +kernel), List.mem_of_getElem? (i := 817) (by decide +kernel), List.mem_of_getElem? (i := 818) (by decide +kernel)⟩
theorem lw_p20 : lw_okq (⟨"ByLot$Draw", "compare", "(I)V"⟩, 7) := ⟨⟨by decide +kernel, by decide +kernel⟩, List.mem_of_getElem? (i := 199) (by decide +kernel), List.mem_of_getElem? (i := 838) (by decide +kernel), List.mem_of_getElem? (i := 839) (by decide +kernel)⟩
theorem lw_p21 : lw_okq (⟨"ByLot", "tapeAt", "(I)LByLot$Tape;"⟩, 10) := ⟨⟨by decide +kernel, by decide +kernel⟩, List.mem_of_getElem? (i := 21) (by decide +kernel), List.mem_of_getElem? (i := 860) (by decide +kernel), List.mem_of_getElem? (i := 861) (by decide +kernel)⟩
theorem lw_p22 : lw_okq (⟨"ByLot$Acts", "from", "(IIII)I"⟩, 5) := ⟨⟨by decide +kernel, by decide +kernel⟩, List.mem_of_getElem? (i := 231) (by decide +kernel), List.mem_of_getElem? (i := 884) (by decide +kernel), List.mem_of_getElem? (i := 885) (by decide +kernel)⟩
theorem lw_p23 : lw_okq (⟨"ByLot$Acts", "run", "(IIII)I"⟩, 5) := ⟨⟨by decide +kernel, by decide +kernel⟩, List.mem_of_getElem? (i := 231) (by decide +kernel), List.mem_of_getElem? (i := 894) (by decide +kernel), List.mem_of_getElem? (i := 895) (by decide +kernel)⟩
theorem lw_p24 : lw_okq (⟨"ByLot$Acts", "own", "(III)I"⟩, 5) := ⟨⟨by decide +kernel, by decide +kernel⟩, List.mem_of_getElem? (i := 231) (by decide +kernel), List.mem_of_getElem? (i := 898) (by decide +kernel), List.mem_of_getElem? (i := 899) (by decide +kernel)⟩
theorem lw_p25 : lw_okq (⟨"ByLot$Tape", "narrowed", "(J)J"⟩, 3) := ⟨⟨by decide +kernel, by decide +kernel⟩, List.mem_of_getElem? (i := 256) (by decide +kernel), List.mem_of_getElem? (i := 936) (by decide +kernel), List.mem_of_getElem? (i := 937) (by decide +kernel)⟩
theorem lw_p26 : lw_okq (⟨"ByLotModel", "in", "(III)Z"⟩, 75) := ⟨⟨by decide +kernel, by decide +kernel⟩, List.mem_of_getElem? (i := 953) (by decide +kernel), List.mem_of_getElem? (i := 1190) (by decide +kernel), List.mem_of_getElem? (i := 1191) (by decide +kernel)⟩
theorem lw_p27 : lw_okq (⟨"ByLotModel", "isHolding", "(I)Z"⟩, 75) := ⟨⟨by decide +kernel, by decide +kernel⟩, List.mem_of_getElem? (i := 953) (by decide +kernel), List.mem_of_getElem? (i := 1202) (by decide +kernel), List.mem_of_getElem? (i := 1203) (by decide +kernel)⟩
theorem lw_p28 : lw_okq (⟨"ByLotModel", "isHolder", "(I)Z"⟩, 75) := ⟨⟨by decide +kernel, by decide +kernel⟩, List.mem_of_getElem? (i := 953) (by decide +kernel), List.mem_of_getElem? (i := 1210) (by decide +kernel), List.mem_of_getElem? (i := 1211) (by decide +kernel)⟩
theorem lw_p29 : lw_okq (⟨"ByLotModel", "min", "(II)I"⟩, 75) := ⟨⟨by decide +kernel, by decide +kernel⟩, List.mem_of_getElem? (i := 953) (by decide +kernel), List.mem_of_getElem? (i := 1219) (by decide +kernel), List.mem_of_getElem? (i := 1220) (by decide +kernel)⟩
theorem lw_p30 : lw_okq (⟨"ByLotModel", "goesText", "(I)Z"⟩, 75) := ⟨⟨by decide +kernel, by decide +kernel⟩, List.mem_of_getElem? (i := 953) (by decide +kernel), List.mem_of_getElem? (i := 1243) (by decide +kernel), List.mem_of_getElem? (i := 1244) (by decide +kernel)⟩
theorem lw_p31 : lw_okq (⟨"ByLotModel", "takesClause", "(I)Z"⟩, 75) := ⟨⟨by decide +kernel, by decide +kernel⟩, List.mem_of_getElem? (i := 953) (by decide +kernel), List.mem_of_getElem? (i := 1247) (by decide +kernel), List.mem_of_getElem? (i := 1248) (by decide +kernel)⟩
def lw_privs_2 : List (MethodName × Nat) := [(⟨"ByLot$Land", "endRound", "(LByLot$World;)V"⟩, 8), (⟨"ByLot$Land", "lotIsWhole", "(LByLot$World;)Z"⟩, 8), (⟨"ByLot", "allMendFor", "(I)Z"⟩, 10), (⟨"ByLot", "wouldRather", "(III)Z"⟩, 10), (⟨"ByLot$Draw", "compare", "(I)V"⟩, 7), (⟨"ByLot", "tapeAt", "(I)LByLot$Tape;"⟩, 10), (⟨"ByLot$Acts", "from", "(IIII)I"⟩, 5), (⟨"ByLot$Acts", "run", "(IIII)I"⟩, 5), (⟨"ByLot$Acts", "own", "(III)I"⟩, 5), (⟨"ByLot$Tape", "narrowed", "(J)J"⟩, 3), (⟨"ByLotModel", "in", "(III)Z"⟩, 75), (⟨"ByLotModel", "isHolding", "(I)Z"⟩, 75), (⟨"ByLotModel", "isHolder", "(I)Z"⟩, 75), (⟨"ByLotModel", "min", "(II)I"⟩, 75), (⟨"ByLotModel", "goesText", "(I)Z"⟩, 75), (⟨"ByLotModel", "takesClause", "(I)Z"⟩, 75)]
theorem lw_r2 : ∀ q ∈ lw_privs_2, lw_okq q := List.forall_mem_cons.mpr ⟨lw_p16, List.forall_mem_cons.mpr ⟨lw_p17, List.forall_mem_cons.mpr ⟨lw_p18, List.forall_mem_cons.mpr ⟨lw_p19, List.forall_mem_cons.mpr ⟨lw_p20, List.forall_mem_cons.mpr ⟨lw_p21, List.forall_mem_cons.mpr ⟨lw_p22, List.forall_mem_cons.mpr ⟨lw_p23, List.forall_mem_cons.mpr ⟨lw_p24, List.forall_mem_cons.mpr ⟨lw_p25, List.forall_mem_cons.mpr ⟨lw_p26, List.forall_mem_cons.mpr ⟨lw_p27, List.forall_mem_cons.mpr ⟨lw_p28, List.forall_mem_cons.mpr ⟨lw_p29, List.forall_mem_cons.mpr ⟨lw_p30, List.forall_mem_cons.mpr ⟨lw_p31, fun _ h => absurd h List.not_mem_nil⟩⟩⟩⟩⟩⟩⟩⟩⟩⟩⟩⟩⟩⟩⟩⟩
theorem lw_p32 : lw_okq (⟨"ByLotModel", "takesHead", "(I)Z"⟩, 75) := ⟨⟨by decide +kernel, by decide +kernel⟩, List.mem_of_getElem? (i := 953) (by decide +kernel), List.mem_of_getElem? (i := 1251) (by decide +kernel), List.mem_of_getElem? (i := 1252) (by decide +kernel)⟩
theorem lw_p33 : lw_okq (⟨"ByLotModel", "next", "()I"⟩, 75) := ⟨⟨by decide +kernel, by decide +kernel⟩, List.mem_of_getElem? (i := 953) (by decide +kernel), List.mem_of_getElem? (i := 1255) (by decide +kernel), List.mem_of_getElem? (i := 1256) (by decide +kernel)⟩
theorem lw_p34 : lw_okq (⟨"ByLotModel", "takesWord", "(II)Z"⟩, 75) := ⟨⟨by decide +kernel, by decide +kernel⟩, List.mem_of_getElem? (i := 953) (by decide +kernel), List.mem_of_getElem? (i := 1259) (by decide +kernel), List.mem_of_getElem? (i := 1260) (by decide +kernel)⟩
theorem lw_p35 : lw_okq (⟨"ByLotModel", "takes", "(I)Z"⟩, 75) := ⟨⟨by decide +kernel, by decide +kernel⟩, List.mem_of_getElem? (i := 953) (by decide +kernel), List.mem_of_getElem? (i := 1263) (by decide +kernel), List.mem_of_getElem? (i := 1264) (by decide +kernel)⟩
theorem lw_p36 : lw_okq (⟨"ByLotModel", "takesNumber", "()Z"⟩, 75) := ⟨⟨by decide +kernel, by decide +kernel⟩, List.mem_of_getElem? (i := 953) (by decide +kernel), List.mem_of_getElem? (i := 1267) (by decide +kernel), List.mem_of_getElem? (i := 1268) (by decide +kernel)⟩
theorem lw_p37 : lw_okq (⟨"ByLotModel", "isDigit", "()Z"⟩, 75) := ⟨⟨by decide +kernel, by decide +kernel⟩, List.mem_of_getElem? (i := 953) (by decide +kernel), List.mem_of_getElem? (i := 1271) (by decide +kernel), List.mem_of_getElem? (i := 1272) (by decide +kernel)⟩
theorem lw_p38 : lw_okq (⟨"ByLotModel", "takesE", "(I)Z"⟩, 75) := ⟨⟨by decide +kernel, by decide +kernel⟩, List.mem_of_getElem? (i := 953) (by decide +kernel), List.mem_of_getElem? (i := 1275) (by decide +kernel), List.mem_of_getElem? (i := 1276) (by decide +kernel)⟩
theorem lw_p39 : lw_okq (⟨"ByLotModel", "takesTest", "()Z"⟩, 75) := ⟨⟨by decide +kernel, by decide +kernel⟩, List.mem_of_getElem? (i := 953) (by decide +kernel), List.mem_of_getElem? (i := 1279) (by decide +kernel), List.mem_of_getElem? (i := 1280) (by decide +kernel)⟩
theorem lw_p40 : lw_okq (⟨"ByLotModel", "place", "(I)I"⟩, 75) := ⟨⟨by decide +kernel, by decide +kernel⟩, List.mem_of_getElem? (i := 953) (by decide +kernel), List.mem_of_getElem? (i := 1283) (by decide +kernel), List.mem_of_getElem? (i := 1284) (by decide +kernel)⟩
theorem lw_p41 : lw_okq (⟨"ByLotModel", "put", "(I)V"⟩, 75) := ⟨⟨by decide +kernel, by decide +kernel⟩, List.mem_of_getElem? (i := 953) (by decide +kernel), List.mem_of_getElem? (i := 1287) (by decide +kernel), List.mem_of_getElem? (i := 1288) (by decide +kernel)⟩
theorem lw_p42 : lw_okq (⟨"ByLotModel", "whole", "()V"⟩, 75) := ⟨⟨by decide +kernel, by decide +kernel⟩, List.mem_of_getElem? (i := 953) (by decide +kernel), List.mem_of_getElem? (i := 1291) (by decide +kernel), List.mem_of_getElem? (i := 1292) (by decide +kernel)⟩
theorem lw_p43 : lw_okq (⟨"ByLotModel", "settle", "(I)V"⟩, 75) := ⟨⟨by decide +kernel, by decide +kernel⟩, List.mem_of_getElem? (i := 953) (by decide +kernel), List.mem_of_getElem? (i := 1295) (by decide +kernel), List.mem_of_getElem? (i := 1296) (by decide +kernel)⟩
theorem lw_p44 : lw_okq (⟨"ByLotModel", "sumOf", "(IIIII)I"⟩, 75) := ⟨⟨by decide +kernel, by decide +kernel⟩, List.mem_of_getElem? (i := 953) (by decide +kernel), List.mem_of_getElem? (i := 1303) (by decide +kernel), List.mem_of_getElem? (i := 1304) (by decide +kernel)⟩
theorem lw_p45 : lw_okq (⟨"ByLotModel", "first", "()I"⟩, 75) := ⟨⟨by decide +kernel, by decide +kernel⟩, List.mem_of_getElem? (i := 953) (by decide +kernel), List.mem_of_getElem? (i := 1307) (by decide +kernel), List.mem_of_getElem? (i := 1308) (by decide +kernel)⟩
theorem lw_p46 : lw_okq (⟨"ByLotModel", "behind", "()I"⟩, 75) := ⟨⟨by decide +kernel, by decide +kernel⟩, List.mem_of_getElem? (i := 953) (by decide +kernel), List.mem_of_getElem? (i := 1311) (by decide +kernel), List.mem_of_getElem? (i := 1312) (by decide +kernel)⟩
theorem lw_p47 : lw_okq (⟨"ByLotModel", "holds", "(IIIII)Z"⟩, 75) := ⟨⟨by decide +kernel, by decide +kernel⟩, List.mem_of_getElem? (i := 953) (by decide +kernel), List.mem_of_getElem? (i := 1315) (by decide +kernel), List.mem_of_getElem? (i := 1316) (by decide +kernel)⟩
def lw_privs_3 : List (MethodName × Nat) := [(⟨"ByLotModel", "takesHead", "(I)Z"⟩, 75), (⟨"ByLotModel", "next", "()I"⟩, 75), (⟨"ByLotModel", "takesWord", "(II)Z"⟩, 75), (⟨"ByLotModel", "takes", "(I)Z"⟩, 75), (⟨"ByLotModel", "takesNumber", "()Z"⟩, 75), (⟨"ByLotModel", "isDigit", "()Z"⟩, 75), (⟨"ByLotModel", "takesE", "(I)Z"⟩, 75), (⟨"ByLotModel", "takesTest", "()Z"⟩, 75), (⟨"ByLotModel", "place", "(I)I"⟩, 75), (⟨"ByLotModel", "put", "(I)V"⟩, 75), (⟨"ByLotModel", "whole", "()V"⟩, 75), (⟨"ByLotModel", "settle", "(I)V"⟩, 75), (⟨"ByLotModel", "sumOf", "(IIIII)I"⟩, 75), (⟨"ByLotModel", "first", "()I"⟩, 75), (⟨"ByLotModel", "behind", "()I"⟩, 75), (⟨"ByLotModel", "holds", "(IIIII)Z"⟩, 75)]
theorem lw_r3 : ∀ q ∈ lw_privs_3, lw_okq q := List.forall_mem_cons.mpr ⟨lw_p32, List.forall_mem_cons.mpr ⟨lw_p33, List.forall_mem_cons.mpr ⟨lw_p34, List.forall_mem_cons.mpr ⟨lw_p35, List.forall_mem_cons.mpr ⟨lw_p36, List.forall_mem_cons.mpr ⟨lw_p37, List.forall_mem_cons.mpr ⟨lw_p38, List.forall_mem_cons.mpr ⟨lw_p39, List.forall_mem_cons.mpr ⟨lw_p40, List.forall_mem_cons.mpr ⟨lw_p41, List.forall_mem_cons.mpr ⟨lw_p42, List.forall_mem_cons.mpr ⟨lw_p43, List.forall_mem_cons.mpr ⟨lw_p44, List.forall_mem_cons.mpr ⟨lw_p45, List.forall_mem_cons.mpr ⟨lw_p46, List.forall_mem_cons.mpr ⟨lw_p47, fun _ h => absurd h List.not_mem_nil⟩⟩⟩⟩⟩⟩⟩⟩⟩⟩⟩⟩⟩⟩⟩⟩
theorem lw_p48 : lw_okq (⟨"ByLotModel", "last", "(I)I"⟩, 75) := ⟨⟨by decide +kernel, by decide +kernel⟩, List.mem_of_getElem? (i := 953) (by decide +kernel), List.mem_of_getElem? (i := 1319) (by decide +kernel), List.mem_of_getElem? (i := 1320) (by decide +kernel)⟩
theorem lw_p49 : lw_okq (⟨"ByLotModel", "asIs", "()V"⟩, 75) := ⟨⟨by decide +kernel, by decide +kernel⟩, List.mem_of_getElem? (i := 953) (by decide +kernel), List.mem_of_getElem? (i := 1327) (by decide +kernel), List.mem_of_getElem? (i := 1328) (by decide +kernel)⟩
theorem lw_p50 : lw_okq (⟨"ByLotModel", "mendsOf", "(IIIII)I"⟩, 75) := ⟨⟨by decide +kernel, by decide +kernel⟩, List.mem_of_getElem? (i := 953) (by decide +kernel), List.mem_of_getElem? (i := 1331) (by decide +kernel), List.mem_of_getElem? (i := 1332) (by decide +kernel)⟩
theorem lw_p51 : lw_okq (⟨"ByLotModel", "reckons", "(I)Z"⟩, 75) := ⟨⟨by decide +kernel, by decide +kernel⟩, List.mem_of_getElem? (i := 953) (by decide +kernel), List.mem_of_getElem? (i := 1335) (by decide +kernel), List.mem_of_getElem? (i := 1336) (by decide +kernel)⟩
theorem lw_p52 : lw_okq (⟨"ByLotModel", "layBest", "(II)V"⟩, 75) := ⟨⟨by decide +kernel, by decide +kernel⟩, List.mem_of_getElem? (i := 953) (by decide +kernel), List.mem_of_getElem? (i := 1339) (by decide +kernel), List.mem_of_getElem? (i := 1340) (by decide +kernel)⟩
theorem lw_p53 : lw_okq (⟨"ByLotModel", "layRaw", "(II)V"⟩, 75) := ⟨⟨by decide +kernel, by decide +kernel⟩, List.mem_of_getElem? (i := 953) (by decide +kernel), List.mem_of_getElem? (i := 1343) (by decide +kernel), List.mem_of_getElem? (i := 1344) (by decide +kernel)⟩
theorem lw_p54 : lw_okq (⟨"ByLotModel", "at0", "(IIII)I"⟩, 75) := ⟨⟨by decide +kernel, by decide +kernel⟩, List.mem_of_getElem? (i := 953) (by decide +kernel), List.mem_of_getElem? (i := 1347) (by decide +kernel), List.mem_of_getElem? (i := 1348) (by decide +kernel)⟩
theorem lw_p55 : lw_okq (⟨"ByLotModel", "gain", "(IIIII)I"⟩, 75) := ⟨⟨by decide +kernel, by decide +kernel⟩, List.mem_of_getElem? (i := 953) (by decide +kernel), List.mem_of_getElem? (i := 1351) (by decide +kernel), List.mem_of_getElem? (i := 1352) (by decide +kernel)⟩
theorem lw_p56 : lw_okq (⟨"ByLotModel", "fallen", "(II)I"⟩, 75) := ⟨⟨by decide +kernel, by decide +kernel⟩, List.mem_of_getElem? (i := 953) (by decide +kernel), List.mem_of_getElem? (i := 1355) (by decide +kernel), List.mem_of_getElem? (i := 1356) (by decide +kernel)⟩
theorem lw_p57 : lw_okq (⟨"ByLotModel", "yearsOf", "(II)I"⟩, 75) := ⟨⟨by decide +kernel, by decide +kernel⟩, List.mem_of_getElem? (i := 953) (by decide +kernel), List.mem_of_getElem? (i := 1359) (by decide +kernel), List.mem_of_getElem? (i := 1360) (by decide +kernel)⟩
theorem lw_p58 : lw_okq (⟨"ByLotModel", "worthOf", "(IIII)I"⟩, 75) := ⟨⟨by decide +kernel, by decide +kernel⟩, List.mem_of_getElem? (i := 953) (by decide +kernel), List.mem_of_getElem? (i := 1372) (by decide +kernel), List.mem_of_getElem? (i := 1373) (by decide +kernel)⟩
theorem lw_p59 : lw_okq (⟨"ByLotModel", "goYears", "(I)V"⟩, 75) := ⟨⟨by decide +kernel, by decide +kernel⟩, List.mem_of_getElem? (i := 953) (by decide +kernel), List.mem_of_getElem? (i := 1380) (by decide +kernel), List.mem_of_getElem? (i := 1381) (by decide +kernel)⟩
theorem lw_p60 : lw_okq (⟨"ByLotModel", "goYear", "()V"⟩, 75) := ⟨⟨by decide +kernel, by decide +kernel⟩, List.mem_of_getElem? (i := 953) (by decide +kernel), List.mem_of_getElem? (i := 1384) (by decide +kernel), List.mem_of_getElem? (i := 1385) (by decide +kernel)⟩
theorem lw_p61 : lw_okq (⟨"ByLotModel", "draw", "()V"⟩, 75) := ⟨⟨by decide +kernel, by decide +kernel⟩, List.mem_of_getElem? (i := 953) (by decide +kernel), List.mem_of_getElem? (i := 1388) (by decide +kernel), List.mem_of_getElem? (i := 1389) (by decide +kernel)⟩
theorem lw_p62 : lw_okq (⟨"ByLotModel", "isLot", "()Z"⟩, 75) := ⟨⟨by decide +kernel, by decide +kernel⟩, List.mem_of_getElem? (i := 953) (by decide +kernel), List.mem_of_getElem? (i := 1392) (by decide +kernel), List.mem_of_getElem? (i := 1393) (by decide +kernel)⟩
theorem lw_p63 : lw_okq (⟨"ByLotModel", "allWorths", "(I)I"⟩, 75) := ⟨⟨by decide +kernel, by decide +kernel⟩, List.mem_of_getElem? (i := 953) (by decide +kernel), List.mem_of_getElem? (i := 1401) (by decide +kernel), List.mem_of_getElem? (i := 1402) (by decide +kernel)⟩
def lw_privs_4 : List (MethodName × Nat) := [(⟨"ByLotModel", "last", "(I)I"⟩, 75), (⟨"ByLotModel", "asIs", "()V"⟩, 75), (⟨"ByLotModel", "mendsOf", "(IIIII)I"⟩, 75), (⟨"ByLotModel", "reckons", "(I)Z"⟩, 75), (⟨"ByLotModel", "layBest", "(II)V"⟩, 75), (⟨"ByLotModel", "layRaw", "(II)V"⟩, 75), (⟨"ByLotModel", "at0", "(IIII)I"⟩, 75), (⟨"ByLotModel", "gain", "(IIIII)I"⟩, 75), (⟨"ByLotModel", "fallen", "(II)I"⟩, 75), (⟨"ByLotModel", "yearsOf", "(II)I"⟩, 75), (⟨"ByLotModel", "worthOf", "(IIII)I"⟩, 75), (⟨"ByLotModel", "goYears", "(I)V"⟩, 75), (⟨"ByLotModel", "goYear", "()V"⟩, 75), (⟨"ByLotModel", "draw", "()V"⟩, 75), (⟨"ByLotModel", "isLot", "()Z"⟩, 75), (⟨"ByLotModel", "allWorths", "(I)I"⟩, 75)]
theorem lw_r4 : ∀ q ∈ lw_privs_4, lw_okq q := List.forall_mem_cons.mpr ⟨lw_p48, List.forall_mem_cons.mpr ⟨lw_p49, List.forall_mem_cons.mpr ⟨lw_p50, List.forall_mem_cons.mpr ⟨lw_p51, List.forall_mem_cons.mpr ⟨lw_p52, List.forall_mem_cons.mpr ⟨lw_p53, List.forall_mem_cons.mpr ⟨lw_p54, List.forall_mem_cons.mpr ⟨lw_p55, List.forall_mem_cons.mpr ⟨lw_p56, List.forall_mem_cons.mpr ⟨lw_p57, List.forall_mem_cons.mpr ⟨lw_p58, List.forall_mem_cons.mpr ⟨lw_p59, List.forall_mem_cons.mpr ⟨lw_p60, List.forall_mem_cons.mpr ⟨lw_p61, List.forall_mem_cons.mpr ⟨lw_p62, List.forall_mem_cons.mpr ⟨lw_p63, fun _ h => absurd h List.not_mem_nil⟩⟩⟩⟩⟩⟩⟩⟩⟩⟩⟩⟩⟩⟩⟩⟩
theorem lw_p64 : lw_okq (⟨"ByLotModel", "divisor", "(JJ)J"⟩, 75) := ⟨⟨by decide +kernel, by decide +kernel⟩, List.mem_of_getElem? (i := 953) (by decide +kernel), List.mem_of_getElem? (i := 1405) (by decide +kernel), List.mem_of_getElem? (i := 1406) (by decide +kernel)⟩
theorem lw_p65 : lw_okq (⟨"ByLotModel", "makeAll", "(II)V"⟩, 75) := ⟨⟨by decide +kernel, by decide +kernel⟩, List.mem_of_getElem? (i := 953) (by decide +kernel), List.mem_of_getElem? (i := 1413) (by decide +kernel), List.mem_of_getElem? (i := 1414) (by decide +kernel)⟩
theorem lw_p66 : lw_okq (⟨"ByLotModel", "fresh", "()V"⟩, 75) := ⟨⟨by decide +kernel, by decide +kernel⟩, List.mem_of_getElem? (i := 953) (by decide +kernel), List.mem_of_getElem? (i := 1417) (by decide +kernel), List.mem_of_getElem? (i := 1418) (by decide +kernel)⟩
theorem lw_p67 : lw_okq (⟨"ByLotModel", "wantsMore", "(III)Z"⟩, 75) := ⟨⟨by decide +kernel, by decide +kernel⟩, List.mem_of_getElem? (i := 953) (by decide +kernel), List.mem_of_getElem? (i := 1437) (by decide +kernel), List.mem_of_getElem? (i := 1438) (by decide +kernel)⟩
theorem lw_p68 : lw_okq (⟨"ByLotModel", "worthNow", "(II)I"⟩, 75) := ⟨⟨by decide +kernel, by decide +kernel⟩, List.mem_of_getElem? (i := 953) (by decide +kernel), List.mem_of_getElem? (i := 1449) (by decide +kernel), List.mem_of_getElem? (i := 1450) (by decide +kernel)⟩
theorem lw_p69 : lw_okq (⟨"ByLotModel", "isTape", "(I)Z"⟩, 75) := ⟨⟨by decide +kernel, by decide +kernel⟩, List.mem_of_getElem? (i := 953) (by decide +kernel), List.mem_of_getElem? (i := 1461) (by decide +kernel), List.mem_of_getElem? (i := 1462) (by decide +kernel)⟩
theorem lw_p70 : lw_okq (⟨"ByLotModel", "copy", "([I[I)V"⟩, 75) := ⟨⟨by decide +kernel, by decide +kernel⟩, List.mem_of_getElem? (i := 953) (by decide +kernel), List.mem_of_getElem? (i := 1469) (by decide +kernel), List.mem_of_getElem? (i := 1470) (by decide +kernel)⟩
theorem lw_p71 : lw_okq (⟨"ByLotModel", "mendsAct", "(II)I"⟩, 75) := ⟨⟨by decide +kernel, by decide +kernel⟩, List.mem_of_getElem? (i := 953) (by decide +kernel), List.mem_of_getElem? (i := 1481) (by decide +kernel), List.mem_of_getElem? (i := 1482) (by decide +kernel)⟩
theorem lw_p72 : lw_okq (⟨"ByLotModel", "poorMends", "(II)I"⟩, 75) := ⟨⟨by decide +kernel, by decide +kernel⟩, List.mem_of_getElem? (i := 953) (by decide +kernel), List.mem_of_getElem? (i := 1485) (by decide +kernel), List.mem_of_getElem? (i := 1486) (by decide +kernel)⟩
theorem lw_p73 : lw_okq (⟨"ByLotModel", "body", "(I)V"⟩, 75) := ⟨⟨by decide +kernel, by decide +kernel⟩, List.mem_of_getElem? (i := 953) (by decide +kernel), List.mem_of_getElem? (i := 1489) (by decide +kernel), List.mem_of_getElem? (i := 1490) (by decide +kernel)⟩
theorem lw_p74 : lw_okq (⟨"ByLotModel", "plainMends", "(II)I"⟩, 75) := ⟨⟨by decide +kernel, by decide +kernel⟩, List.mem_of_getElem? (i := 953) (by decide +kernel), List.mem_of_getElem? (i := 1493) (by decide +kernel), List.mem_of_getElem? (i := 1494) (by decide +kernel)⟩
theorem lw_p75 : lw_okq (⟨"ByLotModel", "leavesAct", "(II)I"⟩, 75) := ⟨⟨by decide +kernel, by decide +kernel⟩, List.mem_of_getElem? (i := 953) (by decide +kernel), List.mem_of_getElem? (i := 1497) (by decide +kernel), List.mem_of_getElem? (i := 1498) (by decide +kernel)⟩
theorem lw_p76 : lw_okq (⟨"ByLotModel", "plainLeaves", "(II)I"⟩, 75) := ⟨⟨by decide +kernel, by decide +kernel⟩, List.mem_of_getElem? (i := 953) (by decide +kernel), List.mem_of_getElem? (i := 1501) (by decide +kernel), List.mem_of_getElem? (i := 1502) (by decide +kernel)⟩
theorem lw_p77 : lw_okq (⟨"ByLotModel", "firstLeaves", "(II)I"⟩, 75) := ⟨⟨by decide +kernel, by decide +kernel⟩, List.mem_of_getElem? (i := 953) (by decide +kernel), List.mem_of_getElem? (i := 1505) (by decide +kernel), List.mem_of_getElem? (i := 1506) (by decide +kernel)⟩
theorem lw_p78 : lw_okq (⟨"ByLotModel", "tellsAct", "(II)I"⟩, 75) := ⟨⟨by decide +kernel, by decide +kernel⟩, List.mem_of_getElem? (i := 953) (by decide +kernel), List.mem_of_getElem? (i := 1509) (by decide +kernel), List.mem_of_getElem? (i := 1510) (by decide +kernel)⟩
theorem lw_p79 : lw_okq (⟨"ByLotModel", "plainTells", "(II)I"⟩, 75) := ⟨⟨by decide +kernel, by decide +kernel⟩, List.mem_of_getElem? (i := 953) (by decide +kernel), List.mem_of_getElem? (i := 1513) (by decide +kernel), List.mem_of_getElem? (i := 1514) (by decide +kernel)⟩
def lw_privs_5 : List (MethodName × Nat) := [(⟨"ByLotModel", "divisor", "(JJ)J"⟩, 75), (⟨"ByLotModel", "makeAll", "(II)V"⟩, 75), (⟨"ByLotModel", "fresh", "()V"⟩, 75), (⟨"ByLotModel", "wantsMore", "(III)Z"⟩, 75), (⟨"ByLotModel", "worthNow", "(II)I"⟩, 75), (⟨"ByLotModel", "isTape", "(I)Z"⟩, 75), (⟨"ByLotModel", "copy", "([I[I)V"⟩, 75), (⟨"ByLotModel", "mendsAct", "(II)I"⟩, 75), (⟨"ByLotModel", "poorMends", "(II)I"⟩, 75), (⟨"ByLotModel", "body", "(I)V"⟩, 75), (⟨"ByLotModel", "plainMends", "(II)I"⟩, 75), (⟨"ByLotModel", "leavesAct", "(II)I"⟩, 75), (⟨"ByLotModel", "plainLeaves", "(II)I"⟩, 75), (⟨"ByLotModel", "firstLeaves", "(II)I"⟩, 75), (⟨"ByLotModel", "tellsAct", "(II)I"⟩, 75), (⟨"ByLotModel", "plainTells", "(II)I"⟩, 75)]
theorem lw_r5 : ∀ q ∈ lw_privs_5, lw_okq q := List.forall_mem_cons.mpr ⟨lw_p64, List.forall_mem_cons.mpr ⟨lw_p65, List.forall_mem_cons.mpr ⟨lw_p66, List.forall_mem_cons.mpr ⟨lw_p67, List.forall_mem_cons.mpr ⟨lw_p68, List.forall_mem_cons.mpr ⟨lw_p69, List.forall_mem_cons.mpr ⟨lw_p70, List.forall_mem_cons.mpr ⟨lw_p71, List.forall_mem_cons.mpr ⟨lw_p72, List.forall_mem_cons.mpr ⟨lw_p73, List.forall_mem_cons.mpr ⟨lw_p74, List.forall_mem_cons.mpr ⟨lw_p75, List.forall_mem_cons.mpr ⟨lw_p76, List.forall_mem_cons.mpr ⟨lw_p77, List.forall_mem_cons.mpr ⟨lw_p78, List.forall_mem_cons.mpr ⟨lw_p79, fun _ h => absurd h List.not_mem_nil⟩⟩⟩⟩⟩⟩⟩⟩⟩⟩⟩⟩⟩⟩⟩⟩
theorem lw_p80 : lw_okq (⟨"ByLotModel", "narrow", "(IJ)J"⟩, 75) := ⟨⟨by decide +kernel, by decide +kernel⟩, List.mem_of_getElem? (i := 953) (by decide +kernel), List.mem_of_getElem? (i := 1537) (by decide +kernel), List.mem_of_getElem? (i := 1538) (by decide +kernel)⟩
def lw_privs_6 : List (MethodName × Nat) := [(⟨"ByLotModel", "narrow", "(IJ)J"⟩, 75)]
theorem lw_r6 : ∀ q ∈ lw_privs_6, lw_okq q := List.forall_mem_cons.mpr ⟨lw_p80, fun _ h => absurd h List.not_mem_nil⟩
def lw_privs : List (MethodName × Nat) := lw_privs_1 ++ (lw_privs_2 ++ (lw_privs_3 ++ (lw_privs_4 ++ (lw_privs_5 ++ (lw_privs_6)))))
def lw_tbl : List Cond := k2_sels lw_privs ++ tables_1
theorem lw_privs_ok : ∀ q ∈ lw_privs, lw_okq q := by
  show ∀ q ∈ lw_privs_1 ++ (lw_privs_2 ++ (lw_privs_3 ++ (lw_privs_4 ++ (lw_privs_5 ++ (lw_privs_6))))), lw_okq q
  exact List.forall_mem_append.mpr ⟨lw_r1, List.forall_mem_append.mpr ⟨lw_r2, List.forall_mem_append.mpr ⟨lw_r3, List.forall_mem_append.mpr ⟨lw_r4, List.forall_mem_append.mpr ⟨lw_r5, lw_r6⟩⟩⟩⟩⟩
-- names
def RX0 : String := "ByLot$Acts"
def TX0 : u_T := fun k => match k with
  | 0 => ("ByLot$Acts", "bodies", "[I", true)
  | 1 => ("ByLot$Acts", "ran", "I", false)
  | 2 => ("ByLot$Acts", "ownKind", "I", false)
  | 3 => ("ByLot$Acts", "number", "I", false)
  | _ => ("ByLot$Acts", "v", "I", false)
def tyX0 : Nat → FieldType := fun k => match k with
  | 0 => .array .int
  | 1 => .int
  | 2 => .int
  | 3 => .int
  | _ => .int
abbrev wsX00 : List Cond := u_ws RX0 TX0 5
theorem nmX0 : ∀ a, a < 5 → ∀ b, b < 5 → a ≠ b → (TX0 a).2.1 ≠ (TX0 b).2.1 := by decide +kernel
theorem tyX0_ok : ∀ k, k < 5 → parseFieldDescriptor (TX0 k).2.2.1 = some (tyX0 k) := by decide +kernel
def RX1 : String := "ByLot$Draw"
def TX1 : u_T := fun k => match k with
  | 0 => ("ByLot$Draw", "worths", "[I", true)
  | 1 => ("ByLot$Draw", "trial", "[I", true)
  | 2 => ("ByLot$Draw", "chosen", "[I", true)
  | 3 => ("ByLot$Draw", "length", "I", false)
  | 4 => ("ByLot$Draw", "holdings", "I", false)
  | 5 => ("ByLot$Draw", "any", "Z", false)
  | _ => ("ByLot$Draw", "sum", "I", false)
def tyX1 : Nat → FieldType := fun k => match k with
  | 0 => .array .int
  | 1 => .array .int
  | 2 => .array .int
  | 3 => .int
  | 4 => .int
  | 5 => .boolean
  | _ => .int
abbrev wsX10 : List Cond := u_ws RX1 TX1 7
theorem nmX1 : ∀ a, a < 7 → ∀ b, b < 7 → a ≠ b → (TX1 a).2.1 ≠ (TX1 b).2.1 := by decide +kernel
theorem tyX1_ok : ∀ k, k < 7 → parseFieldDescriptor (TX1 k).2.2.1 = some (tyX1 k) := by decide +kernel
def RX2 : String := "ByLot$Ground"
def TX2 : u_T := fun k => match k with
  | 0 => ("ByLot$Ground", "holding", "I", true)
  | 1 => ("ByLot$Ground", "holder", "I", true)
  | 2 => ("ByLot$Ground", "falls", "[I", true)
  | 3 => ("ByLot$Ground", "brings", "[I", true)
  | 4 => ("ByLot$Ground", "costs", "[I", true)
  | 5 => ("ByLot$Ground", "sums", "[I", true)
  | 6 => ("ByLot$Ground", "firsts", "[I", true)
  | 7 => ("ByLot$Ground", "mended", "[I", true)
  | 8 => ("ByLot$Ground", "valley", "LByLot$Valley;", false)
  | 9 => ("ByLot$Ground", "payN", "I", false)
  | 10 => ("ByLot$Ground", "planEnd", "I", false)
  | _ => ("ByLot$Ground", "planned", "I", false)
def tyX2 : Nat → FieldType := fun k => match k with
  | 0 => .int
  | 1 => .int
  | 2 => .array .int
  | 3 => .array .int
  | 4 => .array .int
  | 5 => .array .int
  | 6 => .array .int
  | 7 => .array .int
  | 8 => .object "ByLot$Valley"
  | 9 => .int
  | 10 => .int
  | _ => .int
abbrev wsX20 : List Cond := u_ws RX2 TX2 12
theorem nmX2 : ∀ a, a < 12 → ∀ b, b < 12 → a ≠ b → (TX2 a).2.1 ≠ (TX2 b).2.1 := by decide +kernel
theorem tyX2_ok : ∀ k, k < 12 → parseFieldDescriptor (TX2 k).2.2.1 = some (tyX2 k) := by decide +kernel
def RX3 : String := "ByLot$Holder"
def TX3 : u_T := fun k => match k with
  | 0 => ("ByLot$Holder", "number", "I", true)
  | 1 => ("ByLot$Holder", "kind", "I", true)
  | 2 => ("ByLot$Holder", "v", "I", true)
  | _ => ("ByLot$Holder", "steps", "[I", true)
def tyX3 : Nat → FieldType := fun k => match k with
  | 0 => .int
  | 1 => .int
  | 2 => .int
  | _ => .array .int
abbrev wsX30 : List Cond := u_ws RX3 TX3 4
theorem nmX3 : ∀ a, a < 4 → ∀ b, b < 4 → a ≠ b → (TX3 a).2.1 ≠ (TX3 b).2.1 := by decide +kernel
theorem tyX3_ok : ∀ k, k < 4 → parseFieldDescriptor (TX3 k).2.2.1 = some (tyX3 k) := by decide +kernel
def RX4 : String := "ByLot$Land"
def TX4 : u_T := fun k => match k with
  | 0 => ("ByLot$Land", "holders", "[LByLot$Holder;", true)
  | 1 => ("ByLot$Land", "longs", "[LByLot$Holder;", true)
  | 2 => ("ByLot$Land", "valleys", "[LByLot$Valley;", true)
  | 3 => ("ByLot$Land", "bare", "LByLot$Valley;", true)
  | 4 => ("ByLot$Land", "grounds", "[LByLot$Ground;", true)
  | 5 => ("ByLot$Land", "holderCount", "I", false)
  | 6 => ("ByLot$Land", "holdingCount", "I", false)
  | _ => ("ByLot$Land", "valleyCount", "I", false)
def tyX4 : Nat → FieldType := fun k => match k with
  | 0 => .array (.object "ByLot$Holder")
  | 1 => .array (.object "ByLot$Holder")
  | 2 => .array (.object "ByLot$Valley")
  | 3 => .object "ByLot$Valley"
  | 4 => .array (.object "ByLot$Ground")
  | 5 => .int
  | 6 => .int
  | _ => .int
abbrev wsX40 : List Cond := u_ws RX4 TX4 8
theorem nmX4 : ∀ a, a < 8 → ∀ b, b < 8 → a ≠ b → (TX4 a).2.1 ≠ (TX4 b).2.1 := by decide +kernel
theorem tyX4_ok : ∀ k, k < 8 → parseFieldDescriptor (TX4 k).2.2.1 = some (tyX4 k) := by decide +kernel
def RX5 : String := "ByLot$Tape"
def TX5 : u_T := fun k => match k with
  | 0 => ("ByLot$Tape", "items", "[J", true)
  | 1 => ("ByLot$Tape", "sort", "I", false)
  | _ => ("ByLot$Tape", "size", "I", false)
def tyX5 : Nat → FieldType := fun k => match k with
  | 0 => .array .long
  | 1 => .int
  | _ => .int
abbrev wsX50 : List Cond := u_ws RX5 TX5 3
theorem nmX5 : ∀ a, a < 3 → ∀ b, b < 3 → a ≠ b → (TX5 a).2.1 ≠ (TX5 b).2.1 := by decide +kernel
theorem tyX5_ok : ∀ k, k < 3 → parseFieldDescriptor (TX5 k).2.2.1 = some (tyX5 k) := by decide +kernel
def RX6 : String := "ByLot$Text"
def TX6 : u_T := fun k => match k with
  | 0 => ("ByLot$Text", "bytes", "[I", true)
  | 1 => ("ByLot$Text", "size", "I", false)
  | 2 => ("ByLot$Text", "place", "I", false)
  | 3 => ("ByLot$Text", "into", "LByLot$Valley;", false)
  | _ => ("ByLot$Text", "number", "I", false)
def tyX6 : Nat → FieldType := fun k => match k with
  | 0 => .array .int
  | 1 => .int
  | 2 => .int
  | 3 => .object "ByLot$Valley"
  | _ => .int
abbrev wsX60 : List Cond := u_ws RX6 TX6 5
theorem nmX6 : ∀ a, a < 5 → ∀ b, b < 5 → a ≠ b → (TX6 a).2.1 ≠ (TX6 b).2.1 := by decide +kernel
theorem tyX6_ok : ∀ k, k < 5 → parseFieldDescriptor (TX6 k).2.2.1 = some (tyX6 k) := by decide +kernel
def RX7 : String := "ByLot$Valley"
def TX7 : u_T := fun k => match k with
  | 0 => ("ByLot$Valley", "whats", "[I", true)
  | 1 => ("ByLot$Valley", "ns", "[I", true)
  | 2 => ("ByLot$Valley", "ends", "[I", true)
  | 3 => ("ByLot$Valley", "signs", "[I", true)
  | 4 => ("ByLot$Valley", "waiting", "[I", true)
  | 5 => ("ByLot$Valley", "clauses", "I", false)
  | 6 => ("ByLot$Valley", "signCount", "I", false)
  | 7 => ("ByLot$Valley", "payN", "I", false)
  | _ => ("ByLot$Valley", "keepN", "I", false)
def tyX7 : Nat → FieldType := fun k => match k with
  | 0 => .array .int
  | 1 => .array .int
  | 2 => .array .int
  | 3 => .array .int
  | 4 => .array .int
  | 5 => .int
  | 6 => .int
  | 7 => .int
  | _ => .int
abbrev wsX70 : List Cond := u_ws RX7 TX7 9
theorem nmX7 : ∀ a, a < 9 → ∀ b, b < 9 → a ≠ b → (TX7 a).2.1 ≠ (TX7 b).2.1 := by decide +kernel
theorem tyX7_ok : ∀ k, k < 9 → parseFieldDescriptor (TX7 k).2.2.1 = some (tyX7 k) := by decide +kernel
def RX8 : String := "ByLot$World"
def TX8 : u_T := fun k => match k with
  | 0 => ("ByLot$World", "states", "[I", true)
  | 1 => ("ByLot$World", "has", "[I", true)
  | 2 => ("ByLot$World", "purses", "[I", true)
  | 3 => ("ByLot$World", "lot", "[I", true)
  | 4 => ("ByLot$World", "book", "[I", true)
  | 5 => ("ByLot$World", "lotSize", "I", false)
  | 6 => ("ByLot$World", "bookSize", "I", false)
  | 7 => ("ByLot$World", "left", "I", false)
  | 8 => ("ByLot$World", "round", "I", false)
  | 9 => ("ByLot$World", "year", "I", false)
  | _ => ("ByLot$World", "valley", "I", false)
def tyX8 : Nat → FieldType := fun k => match k with
  | 0 => .array .int
  | 1 => .array .int
  | 2 => .array .int
  | 3 => .array .int
  | 4 => .array .int
  | 5 => .int
  | 6 => .int
  | 7 => .int
  | 8 => .int
  | 9 => .int
  | _ => .int
abbrev wsX80 : List Cond := u_ws RX8 TX8 11
theorem nmX8 : ∀ a, a < 11 → ∀ b, b < 11 → a ≠ b → (TX8 a).2.1 ≠ (TX8 b).2.1 := by decide +kernel
theorem tyX8_ok : ∀ k, k < 11 → parseFieldDescriptor (TX8 k).2.2.1 = some (tyX8 k) := by decide +kernel
def RX9 : String := "ByLot"
def TX9 : u_T := fun k => match k with
  | 0 => ("ByLot", "land", "LByLot$Land;", true)
  | 1 => ("ByLot", "now", "LByLot$World;", true)
  | 2 => ("ByLot", "ahead", "LByLot$World;", true)
  | 3 => ("ByLot", "image", "LByLot$World;", true)
  | 4 => ("ByLot", "imaged", "Z", false)
  | 5 => ("ByLot", "text", "LByLot$Text;", true)
  | 6 => ("ByLot", "draw", "LByLot$Draw;", true)
  | 7 => ("ByLot", "acts", "LByLot$Acts;", true)
  | 8 => ("ByLot", "tapes", "[LByLot$Tape;", true)
  | _ => ("ByLot", "wanted", "[I", true)
def tyX9 : Nat → FieldType := fun k => match k with
  | 0 => .object "ByLot$Land"
  | 1 => .object "ByLot$World"
  | 2 => .object "ByLot$World"
  | 3 => .object "ByLot$World"
  | 4 => .boolean
  | 5 => .object "ByLot$Text"
  | 6 => .object "ByLot$Draw"
  | 7 => .object "ByLot$Acts"
  | 8 => .array (.object "ByLot$Tape")
  | _ => .array .int
abbrev wsX90 : List Cond := u_ws RX9 TX9 10
theorem nmX9 : ∀ a, a < 10 → ∀ b, b < 10 → a ≠ b → (TX9 a).2.1 ≠ (TX9 b).2.1 := by decide +kernel
theorem tyX9_ok : ∀ k, k < 10 → parseFieldDescriptor (TX9 k).2.2.1 = some (tyX9 k) := by decide +kernel
def RX10 : String := "ByLotModel"
def TX10 : u_T := fun k => match k with
  | 0 => ("ByLotModel", "holdings", "I", false)
  | 1 => ("ByLotModel", "holders", "I", false)
  | 2 => ("ByLotModel", "round", "I", false)
  | 3 => ("ByLotModel", "left", "I", false)
  | 4 => ("ByLotModel", "year", "I", false)
  | 5 => ("ByLotModel", "lots", "I", false)
  | 6 => ("ByLotModel", "books", "I", false)
  | 7 => ("ByLotModel", "state", "[I", true)
  | 8 => ("ByLotModel", "owner", "[I", true)
  | 9 => ("ByLotModel", "kind", "[I", true)
  | 10 => ("ByLotModel", "v", "[I", true)
  | 11 => ("ByLotModel", "own", "[I", true)
  | 12 => ("ByLotModel", "purse", "[I", true)
  | 13 => ("ByLotModel", "row", "[I", true)
  | 14 => ("ByLotModel", "lot", "[I", true)
  | 15 => ("ByLotModel", "book", "[I", true)
  | 16 => ("ByLotModel", "valleys", "I", false)
  | 17 => ("ByLotModel", "the", "I", false)
  | 18 => ("ByLotModel", "fed", "I", false)
  | 19 => ("ByLotModel", "at", "I", false)
  | 20 => ("ByLotModel", "digits", "I", false)
  | 21 => ("ByLotModel", "text", "[I", true)
  | 22 => ("ByLotModel", "clauses", "[I", true)
  | 23 => ("ByLotModel", "word", "[I", true)
  | 24 => ("ByLotModel", "number", "[I", true)
  | 25 => ("ByLotModel", "from", "[I", true)
  | 26 => ("ByLotModel", "to", "[I", true)
  | 27 => ("ByLotModel", "sign", "[I", true)
  | 28 => ("ByLotModel", "waits", "[I", true)
  | 29 => ("ByLotModel", "signs", "I", false)
  | 30 => ("ByLotModel", "waiting", "I", false)
  | 31 => ("ByLotModel", "open", "I", false)
  | 32 => ("ByLotModel", "letterOfWords", "[I", true)
  | 33 => ("ByLotModel", "pile", "[Z", true)
  | 34 => ("ByLotModel", "tryPay", "I", false)
  | 35 => ("ByLotModel", "tryRound", "I", false)
  | 36 => ("ByLotModel", "tryLeft", "I", false)
  | 37 => ("ByLotModel", "tryKind", "[I", true)
  | 38 => ("ByLotModel", "tryV", "[I", true)
  | 39 => ("ByLotModel", "atState", "[I", true)
  | 40 => ("ByLotModel", "atOwner", "[I", true)
  | 41 => ("ByLotModel", "atOwn", "[I", true)
  | 42 => ("ByLotModel", "atPurse", "[I", true)
  | 43 => ("ByLotModel", "isRaw", "[Z", true)
  | 44 => ("ByLotModel", "isLaid", "[Z", true)
  | 45 => ("ByLotModel", "fall", "[I", true)
  | 46 => ("ByLotModel", "bring", "[I", true)
  | 47 => ("ByLotModel", "cost", "[I", true)
  | 48 => ("ByLotModel", "firstOf", "[I", true)
  | 49 => ("ByLotModel", "sumBest", "[I", true)
  | 50 => ("ByLotModel", "gains", "I", false)
  | 51 => ("ByLotModel", "mended", "[I", true)
  | 52 => ("ByLotModel", "tried", "[I", true)
  | 53 => ("ByLotModel", "chosen", "[I", true)
  | 54 => ("ByLotModel", "hasImage", "Z", false)
  | 55 => ("ByLotModel", "imageThe", "I", false)
  | 56 => ("ByLotModel", "imageHoldings", "I", false)
  | 57 => ("ByLotModel", "imageHolders", "I", false)
  | 58 => ("ByLotModel", "imageRound", "I", false)
  | 59 => ("ByLotModel", "imageLeft", "I", false)
  | 60 => ("ByLotModel", "imageYear", "I", false)
  | 61 => ("ByLotModel", "imageLots", "I", false)
  | 62 => ("ByLotModel", "imageBooks", "I", false)
  | 63 => ("ByLotModel", "imageState", "[I", true)
  | 64 => ("ByLotModel", "imageOwner", "[I", true)
  | 65 => ("ByLotModel", "imageOwn", "[I", true)
  | 66 => ("ByLotModel", "imagePurse", "[I", true)
  | 67 => ("ByLotModel", "imageLot", "[I", true)
  | 68 => ("ByLotModel", "imageBook", "[I", true)
  | 69 => ("ByLotModel", "ran", "I", false)
  | 70 => ("ByLotModel", "bodies", "[I", true)
  | 71 => ("ByLotModel", "sort", "[I", true)
  | 72 => ("ByLotModel", "length", "[I", true)
  | 73 => ("ByLotModel", "item", "[J", true)
  | _ => ("ByLotModel", "aside", "[J", true)
def tyX10 : Nat → FieldType := fun k => match k with
  | 0 => .int
  | 1 => .int
  | 2 => .int
  | 3 => .int
  | 4 => .int
  | 5 => .int
  | 6 => .int
  | 7 => .array .int
  | 8 => .array .int
  | 9 => .array .int
  | 10 => .array .int
  | 11 => .array .int
  | 12 => .array .int
  | 13 => .array .int
  | 14 => .array .int
  | 15 => .array .int
  | 16 => .int
  | 17 => .int
  | 18 => .int
  | 19 => .int
  | 20 => .int
  | 21 => .array .int
  | 22 => .array .int
  | 23 => .array .int
  | 24 => .array .int
  | 25 => .array .int
  | 26 => .array .int
  | 27 => .array .int
  | 28 => .array .int
  | 29 => .int
  | 30 => .int
  | 31 => .int
  | 32 => .array .int
  | 33 => .array .boolean
  | 34 => .int
  | 35 => .int
  | 36 => .int
  | 37 => .array .int
  | 38 => .array .int
  | 39 => .array .int
  | 40 => .array .int
  | 41 => .array .int
  | 42 => .array .int
  | 43 => .array .boolean
  | 44 => .array .boolean
  | 45 => .array .int
  | 46 => .array .int
  | 47 => .array .int
  | 48 => .array .int
  | 49 => .array .int
  | 50 => .int
  | 51 => .array .int
  | 52 => .array .int
  | 53 => .array .int
  | 54 => .boolean
  | 55 => .int
  | 56 => .int
  | 57 => .int
  | 58 => .int
  | 59 => .int
  | 60 => .int
  | 61 => .int
  | 62 => .int
  | 63 => .array .int
  | 64 => .array .int
  | 65 => .array .int
  | 66 => .array .int
  | 67 => .array .int
  | 68 => .array .int
  | 69 => .int
  | 70 => .array .int
  | 71 => .array .int
  | 72 => .array .int
  | 73 => .array .long
  | _ => .array .long
abbrev wsX100 : List Cond := u_ws RX10 TX10 75
theorem nmX10 : ∀ a, a < 75 → ∀ b, b < 75 → a ≠ b → (TX10 a).2.1 ≠ (TX10 b).2.1 := by decide +kernel
theorem tyX10_ok : ∀ k, k < 75 → parseFieldDescriptor (TX10 k).2.2.1 = some (tyX10 k) := by decide +kernel
def yAc_begin : MethodName := ⟨"ByLot$Acts", "begin", "(LByLot$Holder;II)I"⟩
def yAc_from : MethodName := ⟨"ByLot$Acts", "from", "(IIII)I"⟩
def yAc_init : MethodName := ⟨"ByLot$Acts", "<init>", "()V"⟩
def yAc_own : MethodName := ⟨"ByLot$Acts", "own", "(III)I"⟩
def yAc_run : MethodName := ⟨"ByLot$Acts", "run", "(IIII)I"⟩
def yBy_act : MethodName := ⟨"ByLot", "act", "(III)I"⟩
def yBy_alike : MethodName := ⟨"ByLot", "alike", "(I)I"⟩
def yBy_allMendFor : MethodName := ⟨"ByLot", "allMendFor", "(I)Z"⟩
def yBy_at : MethodName := ⟨"ByLot", "at", "([II)I"⟩
def yBy_best : MethodName := ⟨"ByLot", "best", "(I)I"⟩
def yBy_book : MethodName := ⟨"ByLot", "book", "(I)I"⟩
def yBy_commonDivisor : MethodName := ⟨"ByLot", "commonDivisor", "(II)I"⟩
def yBy_count : MethodName := ⟨"ByLot", "count", "(I)I"⟩
def yBy_ever : MethodName := ⟨"ByLot", "ever", "()I"⟩
def yBy_expect : MethodName := ⟨"ByLot", "expect", "(II)J"⟩
def yBy_feed : MethodName := ⟨"ByLot", "feed", "(II)I"⟩
def yBy_go : MethodName := ⟨"ByLot", "go", "(I)I"⟩
def yBy_has : MethodName := ⟨"ByLot", "has", "(II)I"⟩
def yBy_holder : MethodName := ⟨"ByLot", "holder", "(II)I"⟩
def yBy_holding : MethodName := ⟨"ByLot", "holding", "(I)I"⟩
def yBy_image : MethodName := ⟨"ByLot", "image", "()I"⟩
def yBy_init : MethodName := ⟨"ByLot", "<init>", "()V"⟩
def yBy_item : MethodName := ⟨"ByLot", "item", "(IIJ)I"⟩
def yBy_judge : MethodName := ⟨"ByLot", "judge", "(III)I"⟩
def yBy_keep : MethodName := ⟨"ByLot", "keep", "()I"⟩
def yBy_looked : MethodName := ⟨"ByLot", "looked", "(II)I"⟩
def yBy_lot : MethodName := ⟨"ByLot", "lot", "(I)I"⟩
def yBy_mends : MethodName := ⟨"ByLot", "mends", "(I)I"⟩
def yBy_of : MethodName := ⟨"ByLot", "of", "(II)I"⟩
def yBy_pay : MethodName := ⟨"ByLot", "pay", "()I"⟩
def yBy_put : MethodName := ⟨"ByLot", "put", "([III)V"⟩
def yBy_read : MethodName := ⟨"ByLot", "read", "(II)J"⟩
def yBy_rounds : MethodName := ⟨"ByLot", "rounds", "(I)I"⟩
def yBy_row : MethodName := ⟨"ByLot", "row", "(III)I"⟩
def yBy_set : MethodName := ⟨"ByLot", "set", "(II)I"⟩
def yBy_shift : MethodName := ⟨"ByLot", "shift", "(IIIII)I"⟩
def yBy_swaps : MethodName := ⟨"ByLot", "swaps", "()I"⟩
def yBy_taken : MethodName := ⟨"ByLot", "taken", "(II)I"⟩
def yBy_tape : MethodName := ⟨"ByLot", "tape", "(III)I"⟩
def yBy_tapeAt : MethodName := ⟨"ByLot", "tapeAt", "(I)LByLot$Tape;"⟩
def yBy_told : MethodName := ⟨"ByLot", "told", "(IIIII)I"⟩
def yBy_trace : MethodName := ⟨"ByLot", "trace", "(I)I"⟩
def yBy_undo : MethodName := ⟨"ByLot", "undo", "()I"⟩
def yBy_valley : MethodName := ⟨"ByLot", "valley", "()I"⟩
def yBy_within : MethodName := ⟨"ByLot", "within", "(III)Z"⟩
def yBy_worth : MethodName := ⟨"ByLot", "worth", "(III)I"⟩
def yBy_would : MethodName := ⟨"ByLot", "would", "(III)I"⟩
def yBy_wouldRather : MethodName := ⟨"ByLot", "wouldRather", "(III)Z"⟩
def yDr_compare : MethodName := ⟨"ByLot$Draw", "compare", "(I)V"⟩
def yDr_find : MethodName := ⟨"ByLot$Draw", "find", "(II)V"⟩
def yDr_from : MethodName := ⟨"ByLot$Draw", "from", "(LByLot$Draw;III)V"⟩
def yDr_init : MethodName := ⟨"ByLot$Draw", "<init>", "()V"⟩
def yGr_behind : MethodName := ⟨"ByLot$Ground", "behind", "(III)I"⟩
def yGr_first : MethodName := ⟨"ByLot$Ground", "first", "(III)I"⟩
def yGr_gain : MethodName := ⟨"ByLot$Ground", "gain", "(III)I"⟩
def yGr_init : MethodName := ⟨"ByLot$Ground", "<init>", "(II)V"⟩
def yGr_number : MethodName := ⟨"ByLot$Ground", "number", "(III)I"⟩
def yGr_plan : MethodName := ⟨"ByLot$Ground", "plan", "(II)V"⟩
def yGr_planYear : MethodName := ⟨"ByLot$Ground", "planYear", "(I)V"⟩
def yGr_stand : MethodName := ⟨"ByLot$Ground", "stand", "(LByLot$Valley;)V"⟩
def yGr_sum : MethodName := ⟨"ByLot$Ground", "sum", "(III)I"⟩
def yHo_endPrice : MethodName := ⟨"ByLot$Holder", "endPrice", "(LByLot$Ground;)I"⟩
def yHo_init : MethodName := ⟨"ByLot$Holder", "<init>", "(III)V"⟩
def yHo_reckons : MethodName := ⟨"ByLot$Holder", "reckons", "()Z"⟩
def yHo_stepsAtSight : MethodName := ⟨"ByLot$Holder", "stepsAtSight", "(LByLot$Ground;III)I"⟩
def yHo_stepsIn : MethodName := ⟨"ByLot$Holder", "stepsIn", "(LByLot$Ground;III)I"⟩
def yHo_worthIn : MethodName := ⟨"ByLot$Holder", "worthIn", "(LByLot$Ground;III)I"⟩
def yHo_yearsFor : MethodName := ⟨"ByLot$Holder", "yearsFor", "(I)I"⟩
def yJ0_charAt_5068e : MethodName := ⟨"java/lang/String", "charAt", "(I)C"⟩
def yJ0_checkBoundsBeginEnd_23922 : MethodName := ⟨"java/lang/String", "checkBoundsBeginEnd", "(III)V"⟩
def yJ0_checkIndex_df160 : MethodName := ⟨"java/lang/String", "checkIndex", "(II)V"⟩
def yJ0_coder_7d493 : MethodName := ⟨"java/lang/String", "coder", "()B"⟩
def yJ0_indexOf_0f7a4 : MethodName := ⟨"java/lang/String", "indexOf", "(I)I"⟩
def yJ0_indexOf_7cf53 : MethodName := ⟨"java/lang/String", "indexOf", "(II)I"⟩
def yJ0_isLatin1_aae02 : MethodName := ⟨"java/lang/String", "isLatin1", "()Z"⟩
def yJ0_length_8abf5 : MethodName := ⟨"java/lang/String", "length", "()I"⟩
def yJ11_highSurrogate_5068e : MethodName := ⟨"java/lang/Character", "highSurrogate", "(I)C"⟩
def yJ11_isValidCodePoint_9a6ad : MethodName := ⟨"java/lang/Character", "isValidCodePoint", "(I)Z"⟩
def yJ11_lowSurrogate_5068e : MethodName := ⟨"java/lang/Character", "lowSurrogate", "(I)C"⟩
def yJ1_canEncode_9a6ad : MethodName := ⟨"java/lang/StringLatin1", "canEncode", "(I)Z"⟩
def yJ1_charAt_3b067 : MethodName := ⟨"java/lang/StringLatin1", "charAt", "([BI)C"⟩
def yJ1_indexOfChar_4cfef : MethodName := ⟨"java/lang/StringLatin1", "indexOfChar", "([BIII)I"⟩
def yJ1_indexOf_4cfef : MethodName := ⟨"java/lang/StringLatin1", "indexOf", "([BIII)I"⟩
def yJ2_charAt_3b067 : MethodName := ⟨"java/lang/StringUTF16", "charAt", "([BI)C"⟩
def yJ2_checkBoundsBeginEnd_d044e : MethodName := ⟨"java/lang/StringUTF16", "checkBoundsBeginEnd", "(II[B)V"⟩
def yJ2_checkIndex_2214a : MethodName := ⟨"java/lang/StringUTF16", "checkIndex", "(I[B)V"⟩
def yJ2_getChar_3b067 : MethodName := ⟨"java/lang/StringUTF16", "getChar", "([BI)C"⟩
def yJ2_indexOfCharUnsafe_4cfef : MethodName := ⟨"java/lang/StringUTF16", "indexOfCharUnsafe", "([BIII)I"⟩
def yJ2_indexOfChar_4cfef : MethodName := ⟨"java/lang/StringUTF16", "indexOfChar", "([BIII)I"⟩
def yJ2_indexOfSupplementary_4cfef : MethodName := ⟨"java/lang/StringUTF16", "indexOfSupplementary", "([BIII)I"⟩
def yJ2_indexOf_4cfef : MethodName := ⟨"java/lang/StringUTF16", "indexOf", "([BIII)I"⟩
def yJ2_length_9d52b : MethodName := ⟨"java/lang/StringUTF16", "length", "([B)I"⟩
def yJ3_checkFromToIndex_8c36e : MethodName := ⟨"jdk/internal/util/Preconditions", "checkFromToIndex", "(IIILjava/util/function/BiFunction;)I"⟩
def yJ3_checkIndex_8e157 : MethodName := ⟨"jdk/internal/util/Preconditions", "checkIndex", "(IILjava/util/function/BiFunction;)I"⟩
def yJ7_fill_53178 : MethodName := ⟨"java/util/Arrays", "fill", "([II)V"⟩
def yJ7_fill_d0a16 : MethodName := ⟨"java/util/Arrays", "fill", "([JJ)V"⟩
def yJ9_abs_0f7a4 : MethodName := ⟨"java/lang/Math", "abs", "(I)I"⟩
def yJ9_floorMod_7cf53 : MethodName := ⟨"java/lang/Math", "floorMod", "(II)I"⟩
def yJ9_max_7cf53 : MethodName := ⟨"java/lang/Math", "max", "(II)I"⟩
def yJ9_min_7cf53 : MethodName := ⟨"java/lang/Math", "min", "(II)I"⟩
def yLa_endRound : MethodName := ⟨"ByLot$Land", "endRound", "(LByLot$World;)V"⟩
def yLa_freshValley : MethodName := ⟨"ByLot$Land", "freshValley", "()LByLot$Valley;"⟩
def yLa_ground : MethodName := ⟨"ByLot$Land", "ground", "(LByLot$World;II)LByLot$Ground;"⟩
def yLa_hasHolding : MethodName := ⟨"ByLot$Land", "hasHolding", "(I)Z"⟩
def yLa_holderAt : MethodName := ⟨"ByLot$Land", "holderAt", "(I)LByLot$Holder;"⟩
def yLa_init : MethodName := ⟨"ByLot$Land", "<init>", "()V"⟩
def yLa_join : MethodName := ⟨"ByLot$Land", "join", "(II)V"⟩
def yLa_lotIsWhole : MethodName := ⟨"ByLot$Land", "lotIsWhole", "(LByLot$World;)Z"⟩
def yLa_pass : MethodName := ⟨"ByLot$Land", "pass", "(LByLot$World;[LByLot$Holder;I)I"⟩
def yLa_stepsOf : MethodName := ⟨"ByLot$Land", "stepsOf", "(LByLot$World;LByLot$Holder;II)I"⟩
def yLa_valleyOf : MethodName := ⟨"ByLot$Land", "valleyOf", "(LByLot$World;)LByLot$Valley;"⟩
def yLa_worthOf : MethodName := ⟨"ByLot$Land", "worthOf", "(LByLot$World;LByLot$Holder;II)I"⟩
def yLa_worthsOf : MethodName := ⟨"ByLot$Land", "worthsOf", "(LByLot$World;LByLot$Holder;)I"⟩
def yLa_yearOf : MethodName := ⟨"ByLot$Land", "yearOf", "(LByLot$World;[LByLot$Holder;I)I"⟩
def yLaw : MethodName := ⟨"ByLotLaw", "law", "([I)Z"⟩
def yMo_act : MethodName := ⟨"ByLotModel", "act", "(III)I"⟩
def yMo_alike : MethodName := ⟨"ByLotModel", "alike", "(I)I"⟩
def yMo_allWorths : MethodName := ⟨"ByLotModel", "allWorths", "(I)I"⟩
def yMo_asIs : MethodName := ⟨"ByLotModel", "asIs", "()V"⟩
def yMo_at0 : MethodName := ⟨"ByLotModel", "at0", "(IIII)I"⟩
def yMo_behind : MethodName := ⟨"ByLotModel", "behind", "()I"⟩
def yMo_best : MethodName := ⟨"ByLotModel", "best", "(I)I"⟩
def yMo_body : MethodName := ⟨"ByLotModel", "body", "(I)V"⟩
def yMo_book : MethodName := ⟨"ByLotModel", "book", "(I)I"⟩
def yMo_copy : MethodName := ⟨"ByLotModel", "copy", "([I[I)V"⟩
def yMo_count : MethodName := ⟨"ByLotModel", "count", "(I)I"⟩
def yMo_divisor : MethodName := ⟨"ByLotModel", "divisor", "(JJ)J"⟩
def yMo_draw : MethodName := ⟨"ByLotModel", "draw", "()V"⟩
def yMo_ever : MethodName := ⟨"ByLotModel", "ever", "()I"⟩
def yMo_expect : MethodName := ⟨"ByLotModel", "expect", "(II)J"⟩
def yMo_fallen : MethodName := ⟨"ByLotModel", "fallen", "(II)I"⟩
def yMo_feed : MethodName := ⟨"ByLotModel", "feed", "(II)I"⟩
def yMo_first : MethodName := ⟨"ByLotModel", "first", "()I"⟩
def yMo_firstLeaves : MethodName := ⟨"ByLotModel", "firstLeaves", "(II)I"⟩
def yMo_fresh : MethodName := ⟨"ByLotModel", "fresh", "()V"⟩
def yMo_gain : MethodName := ⟨"ByLotModel", "gain", "(IIIII)I"⟩
def yMo_go : MethodName := ⟨"ByLotModel", "go", "(I)I"⟩
def yMo_goYear : MethodName := ⟨"ByLotModel", "goYear", "()V"⟩
def yMo_goYears : MethodName := ⟨"ByLotModel", "goYears", "(I)V"⟩
def yMo_goesText : MethodName := ⟨"ByLotModel", "goesText", "(I)Z"⟩
def yMo_has : MethodName := ⟨"ByLotModel", "has", "(II)I"⟩
def yMo_holder : MethodName := ⟨"ByLotModel", "holder", "(II)I"⟩
def yMo_holding : MethodName := ⟨"ByLotModel", "holding", "(I)I"⟩
def yMo_holds : MethodName := ⟨"ByLotModel", "holds", "(IIIII)Z"⟩
def yMo_image : MethodName := ⟨"ByLotModel", "image", "()I"⟩
def yMo_in : MethodName := ⟨"ByLotModel", "in", "(III)Z"⟩
def yMo_init : MethodName := ⟨"ByLotModel", "<init>", "()V"⟩
def yMo_isDigit : MethodName := ⟨"ByLotModel", "isDigit", "()Z"⟩
def yMo_isHolder : MethodName := ⟨"ByLotModel", "isHolder", "(I)Z"⟩
def yMo_isHolding : MethodName := ⟨"ByLotModel", "isHolding", "(I)Z"⟩
def yMo_isLot : MethodName := ⟨"ByLotModel", "isLot", "()Z"⟩
def yMo_isTape : MethodName := ⟨"ByLotModel", "isTape", "(I)Z"⟩
def yMo_item : MethodName := ⟨"ByLotModel", "item", "(IIJ)I"⟩
def yMo_judge : MethodName := ⟨"ByLotModel", "judge", "(III)I"⟩
def yMo_keep : MethodName := ⟨"ByLotModel", "keep", "()I"⟩
def yMo_last : MethodName := ⟨"ByLotModel", "last", "(I)I"⟩
def yMo_layBest : MethodName := ⟨"ByLotModel", "layBest", "(II)V"⟩
def yMo_layRaw : MethodName := ⟨"ByLotModel", "layRaw", "(II)V"⟩
def yMo_leavesAct : MethodName := ⟨"ByLotModel", "leavesAct", "(II)I"⟩
def yMo_looked : MethodName := ⟨"ByLotModel", "looked", "(II)I"⟩
def yMo_lot : MethodName := ⟨"ByLotModel", "lot", "(I)I"⟩
def yMo_makeAll : MethodName := ⟨"ByLotModel", "makeAll", "(II)V"⟩
def yMo_mends : MethodName := ⟨"ByLotModel", "mends", "(I)I"⟩
def yMo_mendsAct : MethodName := ⟨"ByLotModel", "mendsAct", "(II)I"⟩
def yMo_mendsOf : MethodName := ⟨"ByLotModel", "mendsOf", "(IIIII)I"⟩
def yMo_min : MethodName := ⟨"ByLotModel", "min", "(II)I"⟩
def yMo_narrow : MethodName := ⟨"ByLotModel", "narrow", "(IJ)J"⟩
def yMo_next : MethodName := ⟨"ByLotModel", "next", "()I"⟩
def yMo_of : MethodName := ⟨"ByLotModel", "of", "(II)I"⟩
def yMo_pay : MethodName := ⟨"ByLotModel", "pay", "()I"⟩
def yMo_place : MethodName := ⟨"ByLotModel", "place", "(I)I"⟩
def yMo_plainLeaves : MethodName := ⟨"ByLotModel", "plainLeaves", "(II)I"⟩
def yMo_plainMends : MethodName := ⟨"ByLotModel", "plainMends", "(II)I"⟩
def yMo_plainTells : MethodName := ⟨"ByLotModel", "plainTells", "(II)I"⟩
def yMo_poorMends : MethodName := ⟨"ByLotModel", "poorMends", "(II)I"⟩
def yMo_put : MethodName := ⟨"ByLotModel", "put", "(I)V"⟩
def yMo_read : MethodName := ⟨"ByLotModel", "read", "(II)J"⟩
def yMo_reckons : MethodName := ⟨"ByLotModel", "reckons", "(I)Z"⟩
def yMo_rounds : MethodName := ⟨"ByLotModel", "rounds", "(I)I"⟩
def yMo_row : MethodName := ⟨"ByLotModel", "row", "(III)I"⟩
def yMo_set : MethodName := ⟨"ByLotModel", "set", "(II)I"⟩
def yMo_settle : MethodName := ⟨"ByLotModel", "settle", "(I)V"⟩
def yMo_shift : MethodName := ⟨"ByLotModel", "shift", "(IIIII)I"⟩
def yMo_sumOf : MethodName := ⟨"ByLotModel", "sumOf", "(IIIII)I"⟩
def yMo_swaps : MethodName := ⟨"ByLotModel", "swaps", "()I"⟩
def yMo_taken : MethodName := ⟨"ByLotModel", "taken", "(II)I"⟩
def yMo_takes : MethodName := ⟨"ByLotModel", "takes", "(I)Z"⟩
def yMo_takesClause : MethodName := ⟨"ByLotModel", "takesClause", "(I)Z"⟩
def yMo_takesE : MethodName := ⟨"ByLotModel", "takesE", "(I)Z"⟩
def yMo_takesHead : MethodName := ⟨"ByLotModel", "takesHead", "(I)Z"⟩
def yMo_takesNumber : MethodName := ⟨"ByLotModel", "takesNumber", "()Z"⟩
def yMo_takesTest : MethodName := ⟨"ByLotModel", "takesTest", "()Z"⟩
def yMo_takesWord : MethodName := ⟨"ByLotModel", "takesWord", "(II)Z"⟩
def yMo_tape : MethodName := ⟨"ByLotModel", "tape", "(III)I"⟩
def yMo_tellsAct : MethodName := ⟨"ByLotModel", "tellsAct", "(II)I"⟩
def yMo_told : MethodName := ⟨"ByLotModel", "told", "(IIIII)I"⟩
def yMo_trace : MethodName := ⟨"ByLotModel", "trace", "(I)I"⟩
def yMo_undo : MethodName := ⟨"ByLotModel", "undo", "()I"⟩
def yMo_valley : MethodName := ⟨"ByLotModel", "valley", "()I"⟩
def yMo_wantsMore : MethodName := ⟨"ByLotModel", "wantsMore", "(III)Z"⟩
def yMo_whole : MethodName := ⟨"ByLotModel", "whole", "()V"⟩
def yMo_worth : MethodName := ⟨"ByLotModel", "worth", "(III)I"⟩
def yMo_worthNow : MethodName := ⟨"ByLotModel", "worthNow", "(II)I"⟩
def yMo_worthOf : MethodName := ⟨"ByLotModel", "worthOf", "(IIII)I"⟩
def yMo_would : MethodName := ⟨"ByLotModel", "would", "(III)I"⟩
def yMo_yearsOf : MethodName := ⟨"ByLotModel", "yearsOf", "(II)I"⟩
def yTa_become : MethodName := ⟨"ByLot$Tape", "become", "(II)V"⟩
def yTa_holds : MethodName := ⟨"ByLot$Tape", "holds", "(II)Z"⟩
def yTa_init : MethodName := ⟨"ByLot$Tape", "<init>", "()V"⟩
def yTa_itemAt : MethodName := ⟨"ByLot$Tape", "itemAt", "(I)J"⟩
def yTa_narrowed : MethodName := ⟨"ByLot$Tape", "narrowed", "(J)J"⟩
def yTa_write : MethodName := ⟨"ByLot$Tape", "write", "(IJ)Z"⟩
def yTe_append : MethodName := ⟨"ByLot$Text", "append", "(II)Z"⟩
def yTe_both : MethodName := ⟨"ByLot$Text", "both", "(I)Z"⟩
def yTe_clause : MethodName := ⟨"ByLot$Text", "clause", "()Z"⟩
def yTe_either : MethodName := ⟨"ByLot$Text", "either", "(I)Z"⟩
def yTe_init : MethodName := ⟨"ByLot$Text", "<init>", "(LByLot$Valley;)V"⟩
def yTe_next : MethodName := ⟨"ByLot$Text", "next", "()I"⟩
def yTe_parse : MethodName := ⟨"ByLot$Text", "parse", "(LByLot$Valley;)I"⟩
def yTe_passes : MethodName := ⟨"ByLot$Text", "passes", "(I)Z"⟩
def yTe_passesNumber : MethodName := ⟨"ByLot$Text", "passesNumber", "()Z"⟩
def yTe_passesWord : MethodName := ⟨"ByLot$Text", "passesWord", "(Ljava/lang/String;)Z"⟩
def yTe_single : MethodName := ⟨"ByLot$Text", "single", "(I)Z"⟩
def yTe_test : MethodName := ⟨"ByLot$Text", "test", "()Z"⟩
def yTe_wordOf : MethodName := ⟨"ByLot$Text", "wordOf", "(I)Ljava/lang/String;"⟩
def yVa_clear : MethodName := ⟨"ByLot$Valley", "clear", "()V"⟩
def yVa_holds : MethodName := ⟨"ByLot$Valley", "holds", "(III)Z"⟩
def yVa_init : MethodName := ⟨"ByLot$Valley", "<init>", "()V"⟩
def yVa_join : MethodName := ⟨"ByLot$Valley", "join", "(I)V"⟩
def yVa_statesIn : MethodName := ⟨"ByLot$Valley", "statesIn", "(IIII)I"⟩
def yVa_statesOfTest : MethodName := ⟨"ByLot$Valley", "statesOfTest", "(IIII)I"⟩
def yVa_tells : MethodName := ⟨"ByLot$Valley", "tells", "(II)V"⟩
def yVa_test : MethodName := ⟨"ByLot$Valley", "test", "(III)V"⟩
def yWo_become : MethodName := ⟨"ByLot$World", "become", "(LByLot$World;)V"⟩
def yWo_inLot : MethodName := ⟨"ByLot$World", "inLot", "(I)Z"⟩
def yWo_init : MethodName := ⟨"ByLot$World", "<init>", "()V"⟩
def yWo_whose : MethodName := ⟨"ByLot$World", "whose", "(I)I"⟩
