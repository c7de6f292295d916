section
-- ===== PART A: goes FIRST, ahead of the names: the tables' words, and 'selects' of the private methods out of them =====
/-- a private method of a class that the tables say can be made, by its rows of tables_1 -/
def lw_okq (q : MethodName × Nat) : Prop := (q.1.cls ≠ "java/lang/invoke/MethodHandle" ∧ q.1.cls ≠ "java/lang/invoke/VarHandle") ∧ Cond.instantiable q.1.cls q.2 ∈ tables_1 ∧ Cond.privateMethod q.1 ∈ tables_1 ∧ Cond.instanceMethod q.1 ∈ tables_1
theorem lw_p0 : lw_okq (⟨"SqueakShop$Text", "readsClause", "()Z"⟩, 4) := ⟨⟨by decide +kernel, by decide +kernel⟩, List.mem_of_getElem? (i := 27) (by decide +kernel), List.mem_of_getElem? (i := 408) (by decide +kernel), List.mem_of_getElem? (i := 409) (by decide +kernel)⟩
theorem lw_p1 : lw_okq (⟨"SqueakShop$Text", "readWord", "()I"⟩, 4) := ⟨⟨by decide +kernel, by decide +kernel⟩, List.mem_of_getElem? (i := 27) (by decide +kernel), List.mem_of_getElem? (i := 412) (by decide +kernel), List.mem_of_getElem? (i := 413) (by decide +kernel)⟩
theorem lw_p2 : lw_okq (⟨"SqueakShop$Text", "readsSign", "(C)Z"⟩, 4) := ⟨⟨by decide +kernel, by decide +kernel⟩, List.mem_of_getElem? (i := 27) (by decide +kernel), List.mem_of_getElem? (i := 458) (by decide +kernel), List.mem_of_getElem? (i := 459) (by decide +kernel)⟩
theorem lw_p3 : lw_okq (⟨"SqueakShop$Text", "readNumber", "()I"⟩, 4) := ⟨⟨by decide +kernel, by decide +kernel⟩, List.mem_of_getElem? (i := 27) (by decide +kernel), List.mem_of_getElem? (i := 462) (by decide +kernel), List.mem_of_getElem? (i := 463) (by decide +kernel)⟩
theorem lw_p4 : lw_okq (⟨"SqueakShop$Text", "readOneOf", "(Ljava/lang/String;)I"⟩, 4) := ⟨⟨by decide +kernel, by decide +kernel⟩, List.mem_of_getElem? (i := 27) (by decide +kernel), List.mem_of_getElem? (i := 467) (by decide +kernel), List.mem_of_getElem? (i := 468) (by decide +kernel)⟩
theorem lw_p5 : lw_okq (⟨"SqueakShop$Text", "readsAny", "(I)Z"⟩, 4) := ⟨⟨by decide +kernel, by decide +kernel⟩, List.mem_of_getElem? (i := 27) (by decide +kernel), List.mem_of_getElem? (i := 535) (by decide +kernel), List.mem_of_getElem? (i := 536) (by decide +kernel)⟩
theorem lw_p6 : lw_okq (⟨"SqueakShop$Text", "readsAll", "(I)Z"⟩, 4) := ⟨⟨by decide +kernel, by decide +kernel⟩, List.mem_of_getElem? (i := 27) (by decide +kernel), List.mem_of_getElem? (i := 539) (by decide +kernel), List.mem_of_getElem? (i := 540) (by decide +kernel)⟩
theorem lw_p7 : lw_okq (⟨"SqueakShop$Text", "readsOne", "(I)Z"⟩, 4) := ⟨⟨by decide +kernel, by decide +kernel⟩, List.mem_of_getElem? (i := 27) (by decide +kernel), List.mem_of_getElem? (i := 543) (by decide +kernel), List.mem_of_getElem? (i := 544) (by decide +kernel)⟩
theorem lw_p8 : lw_okq (⟨"SqueakShop$Text", "readsTest", "()Z"⟩, 4) := ⟨⟨by decide +kernel, by decide +kernel⟩, List.mem_of_getElem? (i := 27) (by decide +kernel), List.mem_of_getElem? (i := 551) (by decide +kernel), List.mem_of_getElem? (i := 552) (by decide +kernel)⟩
theorem lw_p9 : lw_okq (⟨"SqueakShop", "stillBy", "(I)I"⟩, 10) := ⟨⟨by decide +kernel, by decide +kernel⟩, List.mem_of_getElem? (i := 19) (by decide +kernel), List.mem_of_getElem? (i := 598) (by decide +kernel), List.mem_of_getElem? (i := 599) (by decide +kernel)⟩
theorem lw_p10 : lw_okq (⟨"SqueakShop", "silentBy", "(I)I"⟩, 10) := ⟨⟨by decide +kernel, by decide +kernel⟩, List.mem_of_getElem? (i := 19) (by decide +kernel), List.mem_of_getElem? (i := 602) (by decide +kernel), List.mem_of_getElem? (i := 603) (by decide +kernel)⟩
theorem lw_p11 : lw_okq (⟨"SqueakShop$Ways", "put", "(II)V"⟩, 12) := ⟨⟨by decide +kernel, by decide +kernel⟩, List.mem_of_getElem? (i := 51) (by decide +kernel), List.mem_of_getElem? (i := 617) (by decide +kernel), List.mem_of_getElem? (i := 618) (by decide +kernel)⟩
theorem lw_p12 : lw_okq (⟨"SqueakShop$Ways", "heardFrom", "(III)I"⟩, 12) := ⟨⟨by decide +kernel, by decide +kernel⟩, List.mem_of_getElem? (i := 51) (by decide +kernel), List.mem_of_getElem? (i := 621) (by decide +kernel), List.mem_of_getElem? (i := 622) (by decide +kernel)⟩
theorem lw_p13 : lw_okq (⟨"SqueakShop$Ways", "greatest", "()I"⟩, 12) := ⟨⟨by decide +kernel, by decide +kernel⟩, List.mem_of_getElem? (i := 51) (by decide +kernel), List.mem_of_getElem? (i := 630) (by decide +kernel), List.mem_of_getElem? (i := 631) (by decide +kernel)⟩
theorem lw_p14 : lw_okq (⟨"SqueakShop$Ways", "leastHeard", "(II)I"⟩, 12) := ⟨⟨by decide +kernel, by decide +kernel⟩, List.mem_of_getElem? (i := 51) (by decide +kernel), List.mem_of_getElem? (i := 643) (by decide +kernel), List.mem_of_getElem? (i := 644) (by decide +kernel)⟩
theorem lw_p15 : lw_okq (⟨"SqueakShop$Ways", "shareFrom", "(I)V"⟩, 12) := ⟨⟨by decide +kernel, by decide +kernel⟩, List.mem_of_getElem? (i := 51) (by decide +kernel), List.mem_of_getElem? (i := 648) (by decide +kernel), List.mem_of_getElem? (i := 649) (by decide +kernel)⟩
def lw_privs_1 : List (MethodName × Nat) := [(⟨"SqueakShop$Text", "readsClause", "()Z"⟩, 4), (⟨"SqueakShop$Text", "readWord", "()I"⟩, 4), (⟨"SqueakShop$Text", "readsSign", "(C)Z"⟩, 4), (⟨"SqueakShop$Text", "readNumber", "()I"⟩, 4), (⟨"SqueakShop$Text", "readOneOf", "(Ljava/lang/String;)I"⟩, 4), (⟨"SqueakShop$Text", "readsAny", "(I)Z"⟩, 4), (⟨"SqueakShop$Text", "readsAll", "(I)Z"⟩, 4), (⟨"SqueakShop$Text", "readsOne", "(I)Z"⟩, 4), (⟨"SqueakShop$Text", "readsTest", "()Z"⟩, 4), (⟨"SqueakShop", "stillBy", "(I)I"⟩, 10), (⟨"SqueakShop", "silentBy", "(I)I"⟩, 10), (⟨"SqueakShop$Ways", "put", "(II)V"⟩, 12), (⟨"SqueakShop$Ways", "heardFrom", "(III)I"⟩, 12), (⟨"SqueakShop$Ways", "greatest", "()I"⟩, 12), (⟨"SqueakShop$Ways", "leastHeard", "(II)I"⟩, 12), (⟨"SqueakShop$Ways", "shareFrom", "(I)V"⟩, 12)]
theorem lw_r1 : ∀ q ∈ lw_privs_1, lw_okq q := List.forall_mem_cons.mpr ⟨lw_p0, List.forall_mem_cons.mpr ⟨lw_p1, List.forall_mem_cons.mpr ⟨lw_p2, List.forall_mem_cons.mpr ⟨lw_p3, List.forall_mem_cons.mpr ⟨lw_p4, List.forall_mem_cons.mpr ⟨lw_p5, List.forall_mem_cons.mpr ⟨lw_p6, List.forall_mem_cons.mpr ⟨lw_p7, List.forall_mem_cons.mpr ⟨lw_p8, List.forall_mem_cons.mpr ⟨lw_p9, List.forall_mem_cons.mpr ⟨lw_p10, List.forall_mem_cons.mpr ⟨lw_p11, List.forall_mem_cons.mpr ⟨lw_p12, List.forall_mem_cons.mpr ⟨lw_p13, List.forall_mem_cons.mpr ⟨lw_p14, List.forall_mem_cons.mpr ⟨lw_p15, fun _ h => absurd h List.not_mem_nil⟩⟩⟩⟩⟩⟩⟩⟩⟩⟩⟩⟩⟩⟩⟩⟩
theorem lw_p16 : lw_okq (⟨"SqueakShop$Ways", "keepWay", "()V"⟩, 12) := ⟨⟨by decide +kernel, by decide +kernel⟩, List.mem_of_getElem? (i := 51) (by decide +kernel), List.mem_of_getElem? (i := 652) (by decide +kernel), List.mem_of_getElem? (i := 653) (by decide +kernel)⟩
theorem lw_p17 : lw_okq (⟨"SqueakShop$Ways", "isBetter", "(II)Z"⟩, 12) := ⟨⟨by decide +kernel, by decide +kernel⟩, List.mem_of_getElem? (i := 51) (by decide +kernel), List.mem_of_getElem? (i := 656) (by decide +kernel), List.mem_of_getElem? (i := 657) (by decide +kernel)⟩
theorem lw_p18 : lw_okq (⟨"SqueakShop$Ways", "swap", "(II)V"⟩, 12) := ⟨⟨by decide +kernel, by decide +kernel⟩, List.mem_of_getElem? (i := 51) (by decide +kernel), List.mem_of_getElem? (i := 668) (by decide +kernel), List.mem_of_getElem? (i := 669) (by decide +kernel)⟩
theorem lw_p19 : lw_okq (⟨"SqueakShop$Ways", "isStillBy", "(II)Z"⟩, 12) := ⟨⟨by decide +kernel, by decide +kernel⟩, List.mem_of_getElem? (i := 51) (by decide +kernel), List.mem_of_getElem? (i := 684) (by decide +kernel), List.mem_of_getElem? (i := 685) (by decide +kernel)⟩
theorem lw_p20 : lw_okq (⟨"SqueakShop", "fitting", "([IIII)I"⟩, 10) := ⟨⟨by decide +kernel, by decide +kernel⟩, List.mem_of_getElem? (i := 19) (by decide +kernel), List.mem_of_getElem? (i := 709) (by decide +kernel), List.mem_of_getElem? (i := 710) (by decide +kernel)⟩
theorem lw_p21 : lw_okq (⟨"SqueakShop", "isAsSeen", "()Z"⟩, 10) := ⟨⟨by decide +kernel, by decide +kernel⟩, List.mem_of_getElem? (i := 19) (by decide +kernel), List.mem_of_getElem? (i := 713) (by decide +kernel), List.mem_of_getElem? (i := 714) (by decide +kernel)⟩
theorem lw_p22 : lw_okq (⟨"SqueakShop$Acts", "creaks", "(II)I"⟩, 5) := ⟨⟨by decide +kernel, by decide +kernel⟩, List.mem_of_getElem? (i := 100) (by decide +kernel), List.mem_of_getElem? (i := 805) (by decide +kernel), List.mem_of_getElem? (i := 806) (by decide +kernel)⟩
theorem lw_p23 : lw_okq (⟨"SqueakShop$Acts", "begin", "(I)V"⟩, 5) := ⟨⟨by decide +kernel, by decide +kernel⟩, List.mem_of_getElem? (i := 100) (by decide +kernel), List.mem_of_getElem? (i := 809) (by decide +kernel), List.mem_of_getElem? (i := 810) (by decide +kernel)⟩
theorem lw_p24 : lw_okq (⟨"SqueakShop$Acts", "rings", "(II)I"⟩, 5) := ⟨⟨by decide +kernel, by decide +kernel⟩, List.mem_of_getElem? (i := 100) (by decide +kernel), List.mem_of_getElem? (i := 813) (by decide +kernel), List.mem_of_getElem? (i := 814) (by decide +kernel)⟩
theorem lw_p25 : lw_okq (⟨"SqueakShop$Acts", "tells", "(II)I"⟩, 5) := ⟨⟨by decide +kernel, by decide +kernel⟩, List.mem_of_getElem? (i := 100) (by decide +kernel), List.mem_of_getElem? (i := 817) (by decide +kernel), List.mem_of_getElem? (i := 818) (by decide +kernel)⟩
theorem lw_p26 : lw_okq (⟨"SqueakShopModel", "in", "(III)Z"⟩, 68) := ⟨⟨by decide +kernel, by decide +kernel⟩, List.mem_of_getElem? (i := 868) (by decide +kernel), List.mem_of_getElem? (i := 1083) (by decide +kernel), List.mem_of_getElem? (i := 1084) (by decide +kernel)⟩
theorem lw_p27 : lw_okq (⟨"SqueakShopModel", "isHouse", "(I)Z"⟩, 68) := ⟨⟨by decide +kernel, by decide +kernel⟩, List.mem_of_getElem? (i := 868) (by decide +kernel), List.mem_of_getElem? (i := 1087) (by decide +kernel), List.mem_of_getElem? (i := 1088) (by decide +kernel)⟩
theorem lw_p28 : lw_okq (⟨"SqueakShopModel", "isLoud", "(I)Z"⟩, 68) := ⟨⟨by decide +kernel, by decide +kernel⟩, List.mem_of_getElem? (i := 868) (by decide +kernel), List.mem_of_getElem? (i := 1091) (by decide +kernel), List.mem_of_getElem? (i := 1092) (by decide +kernel)⟩
theorem lw_p29 : lw_okq (⟨"SqueakShopModel", "isSound", "(I)Z"⟩, 68) := ⟨⟨by decide +kernel, by decide +kernel⟩, List.mem_of_getElem? (i := 868) (by decide +kernel), List.mem_of_getElem? (i := 1099) (by decide +kernel), List.mem_of_getElem? (i := 1100) (by decide +kernel)⟩
theorem lw_p30 : lw_okq (⟨"SqueakShopModel", "isLost", "(I)Z"⟩, 68) := ⟨⟨by decide +kernel, by decide +kernel⟩, List.mem_of_getElem? (i := 868) (by decide +kernel), List.mem_of_getElem? (i := 1111) (by decide +kernel), List.mem_of_getElem? (i := 1112) (by decide +kernel)⟩
theorem lw_p31 : lw_okq (⟨"SqueakShopModel", "farOf", "(II)I"⟩, 68) := ⟨⟨by decide +kernel, by decide +kernel⟩, List.mem_of_getElem? (i := 868) (by decide +kernel), List.mem_of_getElem? (i := 1115) (by decide +kernel), List.mem_of_getElem? (i := 1116) (by decide +kernel)⟩
def lw_privs_2 : List (MethodName × Nat) := [(⟨"SqueakShop$Ways", "keepWay", "()V"⟩, 12), (⟨"SqueakShop$Ways", "isBetter", "(II)Z"⟩, 12), (⟨"SqueakShop$Ways", "swap", "(II)V"⟩, 12), (⟨"SqueakShop$Ways", "isStillBy", "(II)Z"⟩, 12), (⟨"SqueakShop", "fitting", "([IIII)I"⟩, 10), (⟨"SqueakShop", "isAsSeen", "()Z"⟩, 10), (⟨"SqueakShop$Acts", "creaks", "(II)I"⟩, 5), (⟨"SqueakShop$Acts", "begin", "(I)V"⟩, 5), (⟨"SqueakShop$Acts", "rings", "(II)I"⟩, 5), (⟨"SqueakShop$Acts", "tells", "(II)I"⟩, 5), (⟨"SqueakShopModel", "in", "(III)Z"⟩, 68), (⟨"SqueakShopModel", "isHouse", "(I)Z"⟩, 68), (⟨"SqueakShopModel", "isLoud", "(I)Z"⟩, 68), (⟨"SqueakShopModel", "isSound", "(I)Z"⟩, 68), (⟨"SqueakShopModel", "isLost", "(I)Z"⟩, 68), (⟨"SqueakShopModel", "farOf", "(II)I"⟩, 68)]
theorem lw_r2 : ∀ q ∈ lw_privs_2, lw_okq q := List.forall_mem_cons.mpr ⟨lw_p16, List.forall_mem_cons.mpr ⟨lw_p17, List.forall_mem_cons.mpr ⟨lw_p18, List.forall_mem_cons.mpr ⟨lw_p19, List.forall_mem_cons.mpr ⟨lw_p20, List.forall_mem_cons.mpr ⟨lw_p21, List.forall_mem_cons.mpr ⟨lw_p22, List.forall_mem_cons.mpr ⟨lw_p23, List.forall_mem_cons.mpr ⟨lw_p24, List.forall_mem_cons.mpr ⟨lw_p25, List.forall_mem_cons.mpr ⟨lw_p26, List.forall_mem_cons.mpr ⟨lw_p27, List.forall_mem_cons.mpr ⟨lw_p28, List.forall_mem_cons.mpr ⟨lw_p29, List.forall_mem_cons.mpr ⟨lw_p30, List.forall_mem_cons.mpr ⟨lw_p31, fun _ h => absurd h List.not_mem_nil⟩⟩⟩⟩⟩⟩⟩⟩⟩⟩⟩⟩⟩⟩⟩⟩
theorem lw_p32 : lw_okq (⟨"SqueakShopModel", "noise", "(I)I"⟩, 68) := ⟨⟨by decide +kernel, by decide +kernel⟩, List.mem_of_getElem? (i := 868) (by decide +kernel), List.mem_of_getElem? (i := 1119) (by decide +kernel), List.mem_of_getElem? (i := 1120) (by decide +kernel)⟩
theorem lw_p33 : lw_okq (⟨"SqueakShopModel", "layNoises", "()V"⟩, 68) := ⟨⟨by decide +kernel, by decide +kernel⟩, List.mem_of_getElem? (i := 868) (by decide +kernel), List.mem_of_getElem? (i := 1123) (by decide +kernel), List.mem_of_getElem? (i := 1124) (by decide +kernel)⟩
theorem lw_p34 : lw_okq (⟨"SqueakShopModel", "voice", "(II)I"⟩, 68) := ⟨⟨by decide +kernel, by decide +kernel⟩, List.mem_of_getElem? (i := 868) (by decide +kernel), List.mem_of_getElem? (i := 1127) (by decide +kernel), List.mem_of_getElem? (i := 1128) (by decide +kernel)⟩
theorem lw_p35 : lw_okq (⟨"SqueakShopModel", "begin", "()I"⟩, 68) := ⟨⟨by decide +kernel, by decide +kernel⟩, List.mem_of_getElem? (i := 868) (by decide +kernel), List.mem_of_getElem? (i := 1131) (by decide +kernel), List.mem_of_getElem? (i := 1132) (by decide +kernel)⟩
theorem lw_p36 : lw_okq (⟨"SqueakShopModel", "behind", "()I"⟩, 68) := ⟨⟨by decide +kernel, by decide +kernel⟩, List.mem_of_getElem? (i := 868) (by decide +kernel), List.mem_of_getElem? (i := 1135) (by decide +kernel), List.mem_of_getElem? (i := 1136) (by decide +kernel)⟩
theorem lw_p37 : lw_okq (⟨"SqueakShopModel", "holds", "(III)Z"⟩, 68) := ⟨⟨by decide +kernel, by decide +kernel⟩, List.mem_of_getElem? (i := 868) (by decide +kernel), List.mem_of_getElem? (i := 1139) (by decide +kernel), List.mem_of_getElem? (i := 1140) (by decide +kernel)⟩
theorem lw_p38 : lw_okq (⟨"SqueakShopModel", "factOf", "(III)I"⟩, 68) := ⟨⟨by decide +kernel, by decide +kernel⟩, List.mem_of_getElem? (i := 868) (by decide +kernel), List.mem_of_getElem? (i := 1143) (by decide +kernel), List.mem_of_getElem? (i := 1144) (by decide +kernel)⟩
theorem lw_p39 : lw_okq (⟨"SqueakShopModel", "least0", "(I)I"⟩, 68) := ⟨⟨by decide +kernel, by decide +kernel⟩, List.mem_of_getElem? (i := 868) (by decide +kernel), List.mem_of_getElem? (i := 1147) (by decide +kernel), List.mem_of_getElem? (i := 1148) (by decide +kernel)⟩
theorem lw_p40 : lw_okq (⟨"SqueakShopModel", "heardBy", "(III)I"⟩, 68) := ⟨⟨by decide +kernel, by decide +kernel⟩, List.mem_of_getElem? (i := 868) (by decide +kernel), List.mem_of_getElem? (i := 1151) (by decide +kernel), List.mem_of_getElem? (i := 1152) (by decide +kernel)⟩
theorem lw_p41 : lw_okq (⟨"SqueakShopModel", "wall", "()I"⟩, 68) := ⟨⟨by decide +kernel, by decide +kernel⟩, List.mem_of_getElem? (i := 868) (by decide +kernel), List.mem_of_getElem? (i := 1155) (by decide +kernel), List.mem_of_getElem? (i := 1156) (by decide +kernel)⟩
theorem lw_p42 : lw_okq (⟨"SqueakShopModel", "lastOf", "(II)I"⟩, 68) := ⟨⟨by decide +kernel, by decide +kernel⟩, List.mem_of_getElem? (i := 868) (by decide +kernel), List.mem_of_getElem? (i := 1159) (by decide +kernel), List.mem_of_getElem? (i := 1160) (by decide +kernel)⟩
theorem lw_p43 : lw_okq (⟨"SqueakShopModel", "goesText", "(I)Z"⟩, 68) := ⟨⟨by decide +kernel, by decide +kernel⟩, List.mem_of_getElem? (i := 868) (by decide +kernel), List.mem_of_getElem? (i := 1179) (by decide +kernel), List.mem_of_getElem? (i := 1180) (by decide +kernel)⟩
theorem lw_p44 : lw_okq (⟨"SqueakShopModel", "takesClause", "(I)Z"⟩, 68) := ⟨⟨by decide +kernel, by decide +kernel⟩, List.mem_of_getElem? (i := 868) (by decide +kernel), List.mem_of_getElem? (i := 1183) (by decide +kernel), List.mem_of_getElem? (i := 1184) (by decide +kernel)⟩
theorem lw_p45 : lw_okq (⟨"SqueakShopModel", "takesHead", "(I)Z"⟩, 68) := ⟨⟨by decide +kernel, by decide +kernel⟩, List.mem_of_getElem? (i := 868) (by decide +kernel), List.mem_of_getElem? (i := 1187) (by decide +kernel), List.mem_of_getElem? (i := 1188) (by decide +kernel)⟩
theorem lw_p46 : lw_okq (⟨"SqueakShopModel", "next", "()I"⟩, 68) := ⟨⟨by decide +kernel, by decide +kernel⟩, List.mem_of_getElem? (i := 868) (by decide +kernel), List.mem_of_getElem? (i := 1191) (by decide +kernel), List.mem_of_getElem? (i := 1192) (by decide +kernel)⟩
theorem lw_p47 : lw_okq (⟨"SqueakShopModel", "takesWord", "(II)Z"⟩, 68) := ⟨⟨by decide +kernel, by decide +kernel⟩, List.mem_of_getElem? (i := 868) (by decide +kernel), List.mem_of_getElem? (i := 1195) (by decide +kernel), List.mem_of_getElem? (i := 1196) (by decide +kernel)⟩
def lw_privs_3 : List (MethodName × Nat) := [(⟨"SqueakShopModel", "noise", "(I)I"⟩, 68), (⟨"SqueakShopModel", "layNoises", "()V"⟩, 68), (⟨"SqueakShopModel", "voice", "(II)I"⟩, 68), (⟨"SqueakShopModel", "begin", "()I"⟩, 68), (⟨"SqueakShopModel", "behind", "()I"⟩, 68), (⟨"SqueakShopModel", "holds", "(III)Z"⟩, 68), (⟨"SqueakShopModel", "factOf", "(III)I"⟩, 68), (⟨"SqueakShopModel", "least0", "(I)I"⟩, 68), (⟨"SqueakShopModel", "heardBy", "(III)I"⟩, 68), (⟨"SqueakShopModel", "wall", "()I"⟩, 68), (⟨"SqueakShopModel", "lastOf", "(II)I"⟩, 68), (⟨"SqueakShopModel", "goesText", "(I)Z"⟩, 68), (⟨"SqueakShopModel", "takesClause", "(I)Z"⟩, 68), (⟨"SqueakShopModel", "takesHead", "(I)Z"⟩, 68), (⟨"SqueakShopModel", "next", "()I"⟩, 68), (⟨"SqueakShopModel", "takesWord", "(II)Z"⟩, 68)]
theorem lw_r3 : ∀ q ∈ lw_privs_3, lw_okq q := List.forall_mem_cons.mpr ⟨lw_p32, List.forall_mem_cons.mpr ⟨lw_p33, List.forall_mem_cons.mpr ⟨lw_p34, List.forall_mem_cons.mpr ⟨lw_p35, List.forall_mem_cons.mpr ⟨lw_p36, List.forall_mem_cons.mpr ⟨lw_p37, List.forall_mem_cons.mpr ⟨lw_p38, List.forall_mem_cons.mpr ⟨lw_p39, List.forall_mem_cons.mpr ⟨lw_p40, List.forall_mem_cons.mpr ⟨lw_p41, List.forall_mem_cons.mpr ⟨lw_p42, List.forall_mem_cons.mpr ⟨lw_p43, List.forall_mem_cons.mpr ⟨lw_p44, List.forall_mem_cons.mpr ⟨lw_p45, List.forall_mem_cons.mpr ⟨lw_p46, List.forall_mem_cons.mpr ⟨lw_p47, fun _ h => absurd h List.not_mem_nil⟩⟩⟩⟩⟩⟩⟩⟩⟩⟩⟩⟩⟩⟩⟩⟩
theorem lw_p48 : lw_okq (⟨"SqueakShopModel", "takes", "(I)Z"⟩, 68) := ⟨⟨by decide +kernel, by decide +kernel⟩, List.mem_of_getElem? (i := 868) (by decide +kernel), List.mem_of_getElem? (i := 1199) (by decide +kernel), List.mem_of_getElem? (i := 1200) (by decide +kernel)⟩
theorem lw_p49 : lw_okq (⟨"SqueakShopModel", "second", "()I"⟩, 68) := ⟨⟨by decide +kernel, by decide +kernel⟩, List.mem_of_getElem? (i := 868) (by decide +kernel), List.mem_of_getElem? (i := 1203) (by decide +kernel), List.mem_of_getElem? (i := 1204) (by decide +kernel)⟩
theorem lw_p50 : lw_okq (⟨"SqueakShopModel", "takesNumber", "()Z"⟩, 68) := ⟨⟨by decide +kernel, by decide +kernel⟩, List.mem_of_getElem? (i := 868) (by decide +kernel), List.mem_of_getElem? (i := 1207) (by decide +kernel), List.mem_of_getElem? (i := 1208) (by decide +kernel)⟩
theorem lw_p51 : lw_okq (⟨"SqueakShopModel", "isDigit", "()Z"⟩, 68) := ⟨⟨by decide +kernel, by decide +kernel⟩, List.mem_of_getElem? (i := 868) (by decide +kernel), List.mem_of_getElem? (i := 1211) (by decide +kernel), List.mem_of_getElem? (i := 1212) (by decide +kernel)⟩
theorem lw_p52 : lw_okq (⟨"SqueakShopModel", "takesE", "(I)Z"⟩, 68) := ⟨⟨by decide +kernel, by decide +kernel⟩, List.mem_of_getElem? (i := 868) (by decide +kernel), List.mem_of_getElem? (i := 1215) (by decide +kernel), List.mem_of_getElem? (i := 1216) (by decide +kernel)⟩
theorem lw_p53 : lw_okq (⟨"SqueakShopModel", "takesTest", "()Z"⟩, 68) := ⟨⟨by decide +kernel, by decide +kernel⟩, List.mem_of_getElem? (i := 868) (by decide +kernel), List.mem_of_getElem? (i := 1219) (by decide +kernel), List.mem_of_getElem? (i := 1220) (by decide +kernel)⟩
theorem lw_p54 : lw_okq (⟨"SqueakShopModel", "place", "(I)I"⟩, 68) := ⟨⟨by decide +kernel, by decide +kernel⟩, List.mem_of_getElem? (i := 868) (by decide +kernel), List.mem_of_getElem? (i := 1223) (by decide +kernel), List.mem_of_getElem? (i := 1224) (by decide +kernel)⟩
theorem lw_p55 : lw_okq (⟨"SqueakShopModel", "emits", "(I)V"⟩, 68) := ⟨⟨by decide +kernel, by decide +kernel⟩, List.mem_of_getElem? (i := 868) (by decide +kernel), List.mem_of_getElem? (i := 1227) (by decide +kernel), List.mem_of_getElem? (i := 1228) (by decide +kernel)⟩
theorem lw_p56 : lw_okq (⟨"SqueakShopModel", "whole", "()V"⟩, 68) := ⟨⟨by decide +kernel, by decide +kernel⟩, List.mem_of_getElem? (i := 868) (by decide +kernel), List.mem_of_getElem? (i := 1231) (by decide +kernel), List.mem_of_getElem? (i := 1232) (by decide +kernel)⟩
theorem lw_p57 : lw_okq (⟨"SqueakShopModel", "settle", "(I)V"⟩, 68) := ⟨⟨by decide +kernel, by decide +kernel⟩, List.mem_of_getElem? (i := 868) (by decide +kernel), List.mem_of_getElem? (i := 1235) (by decide +kernel), List.mem_of_getElem? (i := 1236) (by decide +kernel)⟩
theorem lw_p58 : lw_okq (⟨"SqueakShopModel", "heard", "(II)I"⟩, 68) := ⟨⟨by decide +kernel, by decide +kernel⟩, List.mem_of_getElem? (i := 868) (by decide +kernel), List.mem_of_getElem? (i := 1243) (by decide +kernel), List.mem_of_getElem? (i := 1244) (by decide +kernel)⟩
theorem lw_p59 : lw_okq (⟨"SqueakShopModel", "wears", "(I)I"⟩, 68) := ⟨⟨by decide +kernel, by decide +kernel⟩, List.mem_of_getElem? (i := 868) (by decide +kernel), List.mem_of_getElem? (i := 1247) (by decide +kernel), List.mem_of_getElem? (i := 1248) (by decide +kernel)⟩
theorem lw_p60 : lw_okq (⟨"SqueakShopModel", "wear", "()I"⟩, 68) := ⟨⟨by decide +kernel, by decide +kernel⟩, List.mem_of_getElem? (i := 868) (by decide +kernel), List.mem_of_getElem? (i := 1251) (by decide +kernel), List.mem_of_getElem? (i := 1252) (by decide +kernel)⟩
theorem lw_p61 : lw_okq (⟨"SqueakShopModel", "calm", "()I"⟩, 68) := ⟨⟨by decide +kernel, by decide +kernel⟩, List.mem_of_getElem? (i := 868) (by decide +kernel), List.mem_of_getElem? (i := 1259) (by decide +kernel), List.mem_of_getElem? (i := 1260) (by decide +kernel)⟩
theorem lw_p62 : lw_okq (⟨"SqueakShopModel", "greatest", "()I"⟩, 68) := ⟨⟨by decide +kernel, by decide +kernel⟩, List.mem_of_getElem? (i := 868) (by decide +kernel), List.mem_of_getElem? (i := 1263) (by decide +kernel), List.mem_of_getElem? (i := 1264) (by decide +kernel)⟩
theorem lw_p63 : lw_okq (⟨"SqueakShopModel", "greatestLaid", "()I"⟩, 68) := ⟨⟨by decide +kernel, by decide +kernel⟩, List.mem_of_getElem? (i := 868) (by decide +kernel), List.mem_of_getElem? (i := 1267) (by decide +kernel), List.mem_of_getElem? (i := 1268) (by decide +kernel)⟩
def lw_privs_4 : List (MethodName × Nat) := [(⟨"SqueakShopModel", "takes", "(I)Z"⟩, 68), (⟨"SqueakShopModel", "second", "()I"⟩, 68), (⟨"SqueakShopModel", "takesNumber", "()Z"⟩, 68), (⟨"SqueakShopModel", "isDigit", "()Z"⟩, 68), (⟨"SqueakShopModel", "takesE", "(I)Z"⟩, 68), (⟨"SqueakShopModel", "takesTest", "()Z"⟩, 68), (⟨"SqueakShopModel", "place", "(I)I"⟩, 68), (⟨"SqueakShopModel", "emits", "(I)V"⟩, 68), (⟨"SqueakShopModel", "whole", "()V"⟩, 68), (⟨"SqueakShopModel", "settle", "(I)V"⟩, 68), (⟨"SqueakShopModel", "heard", "(II)I"⟩, 68), (⟨"SqueakShopModel", "wears", "(I)I"⟩, 68), (⟨"SqueakShopModel", "wear", "()I"⟩, 68), (⟨"SqueakShopModel", "calm", "()I"⟩, 68), (⟨"SqueakShopModel", "greatest", "()I"⟩, 68), (⟨"SqueakShopModel", "greatestLaid", "()I"⟩, 68)]
theorem lw_r4 : ∀ q ∈ lw_privs_4, lw_okq q := List.forall_mem_cons.mpr ⟨lw_p48, List.forall_mem_cons.mpr ⟨lw_p49, List.forall_mem_cons.mpr ⟨lw_p50, List.forall_mem_cons.mpr ⟨lw_p51, List.forall_mem_cons.mpr ⟨lw_p52, List.forall_mem_cons.mpr ⟨lw_p53, List.forall_mem_cons.mpr ⟨lw_p54, List.forall_mem_cons.mpr ⟨lw_p55, List.forall_mem_cons.mpr ⟨lw_p56, List.forall_mem_cons.mpr ⟨lw_p57, List.forall_mem_cons.mpr ⟨lw_p58, List.forall_mem_cons.mpr ⟨lw_p59, List.forall_mem_cons.mpr ⟨lw_p60, List.forall_mem_cons.mpr ⟨lw_p61, List.forall_mem_cons.mpr ⟨lw_p62, List.forall_mem_cons.mpr ⟨lw_p63, fun _ h => absurd h List.not_mem_nil⟩⟩⟩⟩⟩⟩⟩⟩⟩⟩⟩⟩⟩⟩⟩⟩
theorem lw_p64 : lw_okq (⟨"SqueakShopModel", "stillSet", "()I"⟩, 68) := ⟨⟨by decide +kernel, by decide +kernel⟩, List.mem_of_getElem? (i := 868) (by decide +kernel), List.mem_of_getElem? (i := 1271) (by decide +kernel), List.mem_of_getElem? (i := 1272) (by decide +kernel)⟩
theorem lw_p65 : lw_okq (⟨"SqueakShopModel", "isYears", "(I)Z"⟩, 68) := ⟨⟨by decide +kernel, by decide +kernel⟩, List.mem_of_getElem? (i := 868) (by decide +kernel), List.mem_of_getElem? (i := 1279) (by decide +kernel), List.mem_of_getElem? (i := 1280) (by decide +kernel)⟩
theorem lw_p66 : lw_okq (⟨"SqueakShopModel", "goYears", "(I)V"⟩, 68) := ⟨⟨by decide +kernel, by decide +kernel⟩, List.mem_of_getElem? (i := 868) (by decide +kernel), List.mem_of_getElem? (i := 1283) (by decide +kernel), List.mem_of_getElem? (i := 1284) (by decide +kernel)⟩
theorem lw_p67 : lw_okq (⟨"SqueakShopModel", "goYear", "()V"⟩, 68) := ⟨⟨by decide +kernel, by decide +kernel⟩, List.mem_of_getElem? (i := 868) (by decide +kernel), List.mem_of_getElem? (i := 1287) (by decide +kernel), List.mem_of_getElem? (i := 1288) (by decide +kernel)⟩
theorem lw_p68 : lw_okq (⟨"SqueakShopModel", "save", "()V"⟩, 68) := ⟨⟨by decide +kernel, by decide +kernel⟩, List.mem_of_getElem? (i := 868) (by decide +kernel), List.mem_of_getElem? (i := 1295) (by decide +kernel), List.mem_of_getElem? (i := 1296) (by decide +kernel)⟩
theorem lw_p69 : lw_okq (⟨"SqueakShopModel", "putBack", "()V"⟩, 68) := ⟨⟨by decide +kernel, by decide +kernel⟩, List.mem_of_getElem? (i := 868) (by decide +kernel), List.mem_of_getElem? (i := 1299) (by decide +kernel), List.mem_of_getElem? (i := 1300) (by decide +kernel)⟩
theorem lw_p70 : lw_okq (⟨"SqueakShopModel", "layShared", "()V"⟩, 68) := ⟨⟨by decide +kernel, by decide +kernel⟩, List.mem_of_getElem? (i := 868) (by decide +kernel), List.mem_of_getElem? (i := 1316) (by decide +kernel), List.mem_of_getElem? (i := 1317) (by decide +kernel)⟩
theorem lw_p71 : lw_okq (⟨"SqueakShopModel", "layAll", "()V"⟩, 68) := ⟨⟨by decide +kernel, by decide +kernel⟩, List.mem_of_getElem? (i := 868) (by decide +kernel), List.mem_of_getElem? (i := 1320) (by decide +kernel), List.mem_of_getElem? (i := 1321) (by decide +kernel)⟩
theorem lw_p72 : lw_okq (⟨"SqueakShopModel", "layPlaces", "(I)V"⟩, 68) := ⟨⟨by decide +kernel, by decide +kernel⟩, List.mem_of_getElem? (i := 868) (by decide +kernel), List.mem_of_getElem? (i := 1324) (by decide +kernel), List.mem_of_getElem? (i := 1325) (by decide +kernel)⟩
theorem lw_p73 : lw_okq (⟨"SqueakShopModel", "sumLaid", "()I"⟩, 68) := ⟨⟨by decide +kernel, by decide +kernel⟩, List.mem_of_getElem? (i := 868) (by decide +kernel), List.mem_of_getElem? (i := 1328) (by decide +kernel), List.mem_of_getElem? (i := 1329) (by decide +kernel)⟩
theorem lw_p74 : lw_okq (⟨"SqueakShopModel", "changeOf", "()I"⟩, 68) := ⟨⟨by decide +kernel, by decide +kernel⟩, List.mem_of_getElem? (i := 868) (by decide +kernel), List.mem_of_getElem? (i := 1336) (by decide +kernel), List.mem_of_getElem? (i := 1337) (by decide +kernel)⟩
theorem lw_p75 : lw_okq (⟨"SqueakShopModel", "swaps", "(II)V"⟩, 68) := ⟨⟨by decide +kernel, by decide +kernel⟩, List.mem_of_getElem? (i := 868) (by decide +kernel), List.mem_of_getElem? (i := 1340) (by decide +kernel), List.mem_of_getElem? (i := 1341) (by decide +kernel)⟩
theorem lw_p76 : lw_okq (⟨"SqueakShopModel", "worstOf", "()I"⟩, 68) := ⟨⟨by decide +kernel, by decide +kernel⟩, List.mem_of_getElem? (i := 868) (by decide +kernel), List.mem_of_getElem? (i := 1344) (by decide +kernel), List.mem_of_getElem? (i := 1345) (by decide +kernel)⟩
theorem lw_p77 : lw_okq (⟨"SqueakShopModel", "greatestWithout", "(I)I"⟩, 68) := ⟨⟨by decide +kernel, by decide +kernel⟩, List.mem_of_getElem? (i := 868) (by decide +kernel), List.mem_of_getElem? (i := 1348) (by decide +kernel), List.mem_of_getElem? (i := 1349) (by decide +kernel)⟩
theorem lw_p78 : lw_okq (⟨"SqueakShopModel", "isStillBy", "(II)Z"⟩, 68) := ⟨⟨by decide +kernel, by decide +kernel⟩, List.mem_of_getElem? (i := 868) (by decide +kernel), List.mem_of_getElem? (i := 1356) (by decide +kernel), List.mem_of_getElem? (i := 1357) (by decide +kernel)⟩
theorem lw_p79 : lw_okq (⟨"SqueakShopModel", "stepOf", "(III)I"⟩, 68) := ⟨⟨by decide +kernel, by decide +kernel⟩, List.mem_of_getElem? (i := 868) (by decide +kernel), List.mem_of_getElem? (i := 1360) (by decide +kernel), List.mem_of_getElem? (i := 1361) (by decide +kernel)⟩
def lw_privs_5 : List (MethodName × Nat) := [(⟨"SqueakShopModel", "stillSet", "()I"⟩, 68), (⟨"SqueakShopModel", "isYears", "(I)Z"⟩, 68), (⟨"SqueakShopModel", "goYears", "(I)V"⟩, 68), (⟨"SqueakShopModel", "goYear", "()V"⟩, 68), (⟨"SqueakShopModel", "save", "()V"⟩, 68), (⟨"SqueakShopModel", "putBack", "()V"⟩, 68), (⟨"SqueakShopModel", "layShared", "()V"⟩, 68), (⟨"SqueakShopModel", "layAll", "()V"⟩, 68), (⟨"SqueakShopModel", "layPlaces", "(I)V"⟩, 68), (⟨"SqueakShopModel", "sumLaid", "()I"⟩, 68), (⟨"SqueakShopModel", "changeOf", "()I"⟩, 68), (⟨"SqueakShopModel", "swaps", "(II)V"⟩, 68), (⟨"SqueakShopModel", "worstOf", "()I"⟩, 68), (⟨"SqueakShopModel", "greatestWithout", "(I)I"⟩, 68), (⟨"SqueakShopModel", "isStillBy", "(II)Z"⟩, 68), (⟨"SqueakShopModel", "stepOf", "(III)I"⟩, 68)]
theorem lw_r5 : ∀ q ∈ lw_privs_5, lw_okq q := List.forall_mem_cons.mpr ⟨lw_p64, List.forall_mem_cons.mpr ⟨lw_p65, List.forall_mem_cons.mpr ⟨lw_p66, List.forall_mem_cons.mpr ⟨lw_p67, List.forall_mem_cons.mpr ⟨lw_p68, List.forall_mem_cons.mpr ⟨lw_p69, List.forall_mem_cons.mpr ⟨lw_p70, List.forall_mem_cons.mpr ⟨lw_p71, List.forall_mem_cons.mpr ⟨lw_p72, List.forall_mem_cons.mpr ⟨lw_p73, List.forall_mem_cons.mpr ⟨lw_p74, List.forall_mem_cons.mpr ⟨lw_p75, List.forall_mem_cons.mpr ⟨lw_p76, List.forall_mem_cons.mpr ⟨lw_p77, List.forall_mem_cons.mpr ⟨lw_p78, List.forall_mem_cons.mpr ⟨lw_p79, fun _ h => absurd h List.not_mem_nil⟩⟩⟩⟩⟩⟩⟩⟩⟩⟩⟩⟩⟩⟩⟩⟩
theorem lw_p80 : lw_okq (⟨"SqueakShopModel", "isSeen", "()Z"⟩, 68) := ⟨⟨by decide +kernel, by decide +kernel⟩, List.mem_of_getElem? (i := 868) (by decide +kernel), List.mem_of_getElem? (i := 1372) (by decide +kernel), List.mem_of_getElem? (i := 1373) (by decide +kernel)⟩
theorem lw_p81 : lw_okq (⟨"SqueakShopModel", "lowest", "(III)J"⟩, 68) := ⟨⟨by decide +kernel, by decide +kernel⟩, List.mem_of_getElem? (i := 868) (by decide +kernel), List.mem_of_getElem? (i := 1389) (by decide +kernel), List.mem_of_getElem? (i := 1390) (by decide +kernel)⟩
theorem lw_p82 : lw_okq (⟨"SqueakShopModel", "divisor", "(II)I"⟩, 68) := ⟨⟨by decide +kernel, by decide +kernel⟩, List.mem_of_getElem? (i := 868) (by decide +kernel), List.mem_of_getElem? (i := 1393) (by decide +kernel), List.mem_of_getElem? (i := 1394) (by decide +kernel)⟩
theorem lw_p83 : lw_okq (⟨"SqueakShopModel", "goPlan", "(II)V"⟩, 68) := ⟨⟨by decide +kernel, by decide +kernel⟩, List.mem_of_getElem? (i := 868) (by decide +kernel), List.mem_of_getElem? (i := 1409) (by decide +kernel), List.mem_of_getElem? (i := 1410) (by decide +kernel)⟩
theorem lw_p84 : lw_okq (⟨"SqueakShopModel", "isTape", "(I)Z"⟩, 68) := ⟨⟨by decide +kernel, by decide +kernel⟩, List.mem_of_getElem? (i := 868) (by decide +kernel), List.mem_of_getElem? (i := 1425) (by decide +kernel), List.mem_of_getElem? (i := 1426) (by decide +kernel)⟩
theorem lw_p85 : lw_okq (⟨"SqueakShopModel", "creaksAct", "(II)I"⟩, 68) := ⟨⟨by decide +kernel, by decide +kernel⟩, List.mem_of_getElem? (i := 868) (by decide +kernel), List.mem_of_getElem? (i := 1441) (by decide +kernel), List.mem_of_getElem? (i := 1442) (by decide +kernel)⟩
theorem lw_p86 : lw_okq (⟨"SqueakShopModel", "body", "(I)V"⟩, 68) := ⟨⟨by decide +kernel, by decide +kernel⟩, List.mem_of_getElem? (i := 868) (by decide +kernel), List.mem_of_getElem? (i := 1445) (by decide +kernel), List.mem_of_getElem? (i := 1446) (by decide +kernel)⟩
theorem lw_p87 : lw_okq (⟨"SqueakShopModel", "soundCreaks", "(II)I"⟩, 68) := ⟨⟨by decide +kernel, by decide +kernel⟩, List.mem_of_getElem? (i := 868) (by decide +kernel), List.mem_of_getElem? (i := 1449) (by decide +kernel), List.mem_of_getElem? (i := 1450) (by decide +kernel)⟩
theorem lw_p88 : lw_okq (⟨"SqueakShopModel", "ringsAct", "(II)I"⟩, 68) := ⟨⟨by decide +kernel, by decide +kernel⟩, List.mem_of_getElem? (i := 868) (by decide +kernel), List.mem_of_getElem? (i := 1453) (by decide +kernel), List.mem_of_getElem? (i := 1454) (by decide +kernel)⟩
theorem lw_p89 : lw_okq (⟨"SqueakShopModel", "squeakRings", "(II)I"⟩, 68) := ⟨⟨by decide +kernel, by decide +kernel⟩, List.mem_of_getElem? (i := 868) (by decide +kernel), List.mem_of_getElem? (i := 1457) (by decide +kernel), List.mem_of_getElem? (i := 1458) (by decide +kernel)⟩
theorem lw_p90 : lw_okq (⟨"SqueakShopModel", "soundRings", "(II)I"⟩, 68) := ⟨⟨by decide +kernel, by decide +kernel⟩, List.mem_of_getElem? (i := 868) (by decide +kernel), List.mem_of_getElem? (i := 1461) (by decide +kernel), List.mem_of_getElem? (i := 1462) (by decide +kernel)⟩
theorem lw_p91 : lw_okq (⟨"SqueakShopModel", "tellsAct", "(II)I"⟩, 68) := ⟨⟨by decide +kernel, by decide +kernel⟩, List.mem_of_getElem? (i := 868) (by decide +kernel), List.mem_of_getElem? (i := 1465) (by decide +kernel), List.mem_of_getElem? (i := 1466) (by decide +kernel)⟩
theorem lw_p92 : lw_okq (⟨"SqueakShopModel", "soundTells", "(II)I"⟩, 68) := ⟨⟨by decide +kernel, by decide +kernel⟩, List.mem_of_getElem? (i := 868) (by decide +kernel), List.mem_of_getElem? (i := 1469) (by decide +kernel), List.mem_of_getElem? (i := 1470) (by decide +kernel)⟩
theorem lw_p93 : lw_okq (⟨"SqueakShopModel", "narrow", "(IJ)J"⟩, 68) := ⟨⟨by decide +kernel, by decide +kernel⟩, List.mem_of_getElem? (i := 868) (by decide +kernel), List.mem_of_getElem? (i := 1493) (by decide +kernel), List.mem_of_getElem? (i := 1494) (by decide +kernel)⟩
def lw_privs_6 : List (MethodName × Nat) := [(⟨"SqueakShopModel", "isSeen", "()Z"⟩, 68), (⟨"SqueakShopModel", "lowest", "(III)J"⟩, 68), (⟨"SqueakShopModel", "divisor", "(II)I"⟩, 68), (⟨"SqueakShopModel", "goPlan", "(II)V"⟩, 68), (⟨"SqueakShopModel", "isTape", "(I)Z"⟩, 68), (⟨"SqueakShopModel", "creaksAct", "(II)I"⟩, 68), (⟨"SqueakShopModel", "body", "(I)V"⟩, 68), (⟨"SqueakShopModel", "soundCreaks", "(II)I"⟩, 68), (⟨"SqueakShopModel", "ringsAct", "(II)I"⟩, 68), (⟨"SqueakShopModel", "squeakRings", "(II)I"⟩, 68), (⟨"SqueakShopModel", "soundRings", "(II)I"⟩, 68), (⟨"SqueakShopModel", "tellsAct", "(II)I"⟩, 68), (⟨"SqueakShopModel", "soundTells", "(II)I"⟩, 68), (⟨"SqueakShopModel", "narrow", "(IJ)J"⟩, 68)]
theorem lw_r6 : ∀ q ∈ lw_privs_6, lw_okq q := List.forall_mem_cons.mpr ⟨lw_p80, List.forall_mem_cons.mpr ⟨lw_p81, List.forall_mem_cons.mpr ⟨lw_p82, List.forall_mem_cons.mpr ⟨lw_p83, List.forall_mem_cons.mpr ⟨lw_p84, List.forall_mem_cons.mpr ⟨lw_p85, List.forall_mem_cons.mpr ⟨lw_p86, List.forall_mem_cons.mpr ⟨lw_p87, List.forall_mem_cons.mpr ⟨lw_p88, List.forall_mem_cons.mpr ⟨lw_p89, List.forall_mem_cons.mpr ⟨lw_p90, List.forall_mem_cons.mpr ⟨lw_p91, List.forall_mem_cons.mpr ⟨lw_p92, List.forall_mem_cons.mpr ⟨lw_p93, fun _ h => absurd h List.not_mem_nil⟩⟩⟩⟩⟩⟩⟩⟩⟩⟩⟩⟩⟩⟩
def lw_privs : List (MethodName × Nat) := lw_privs_1 ++ (lw_privs_2 ++ (lw_privs_3 ++ (lw_privs_4 ++ (lw_privs_5 ++ (lw_privs_6)))))
def lw_tbl : List Cond := k2_sels lw_privs ++ tables_1
theorem lw_privs_ok : ∀ q ∈ lw_privs, lw_okq q := by
  show ∀ q ∈ lw_privs_1 ++ (lw_privs_2 ++ (lw_privs_3 ++ (lw_privs_4 ++ (lw_privs_5 ++ (lw_privs_6))))), lw_okq q
  exact List.forall_mem_append.mpr ⟨lw_r1, List.forall_mem_append.mpr ⟨lw_r2, List.forall_mem_append.mpr ⟨lw_r3, List.forall_mem_append.mpr ⟨lw_r4, List.forall_mem_append.mpr ⟨lw_r5, lw_r6⟩⟩⟩⟩⟩
end
section
def RX0 : String := "SqueakShop$Acts"
def TX0 : u_T := fun k => match k with
  | 0 => ("SqueakShop$Acts", "ran", "I", false)
  | 1 => ("SqueakShop$Acts", "bodies", "[I", true)
  | 2 => ("SqueakShop$Acts", "kind", "I", false)
  | 3 => ("SqueakShop$Acts", "i", "I", false)
  | _ => ("SqueakShop$Acts", "v", "I", false)
def tyX0 : Nat → FieldType := fun k => match k with
  | 0 => .int
  | 1 => .array .int
  | 2 => .int
  | 3 => .int
  | _ => .int
abbrev wsX00 : List Cond := u_ws RX0 TX0 5
theorem nmX0 : ∀ a, a < 5 → ∀ b, b < 5 → a ≠ b → (TX0 a).2.1 ≠ (TX0 b).2.1 := by decide +kernel
theorem tyX0_ok : ∀ k, k < 5 → parseFieldDescriptor (TX0 k).2.2.1 = some (tyX0 k) := by decide +kernel
abbrev cX0_init : ByteArray := prog_2_method_1_code
def yX0_init : MethodName := ⟨RX0, "<init>", "()V"⟩
abbrev cX0_perform : ByteArray := prog_2_method_2_code
def yX0_perform : MethodName := ⟨RX0, "perform", "(IIIII)I"⟩
abbrev cX0_begin : ByteArray := prog_2_method_3_code
def yX0_begin : MethodName := ⟨RX0, "begin", "(I)V"⟩
abbrev cX0_creaks : ByteArray := prog_2_method_4_code
def yX0_creaks : MethodName := ⟨RX0, "creaks", "(II)I"⟩
abbrev cX0_rings : ByteArray := prog_2_method_5_code
def yX0_rings : MethodName := ⟨RX0, "rings", "(II)I"⟩
abbrev cX0_tells : ByteArray := prog_2_method_6_code
def yX0_tells : MethodName := ⟨RX0, "tells", "(II)I"⟩
def RX1 : String := "SqueakShop$Lot"
def TX1 : u_T := fun k => match k with
  | 0 => ("SqueakShop$Lot", "sounds", "I", false)
  | 1 => ("SqueakShop$Lot", "kind", "[I", true)
  | 2 => ("SqueakShop$Lot", "v", "[I", true)
  | 3 => ("SqueakShop$Lot", "loud", "[I", true)
  | 4 => ("SqueakShop$Lot", "house", "[I", true)
  | 5 => ("SqueakShop$Lot", "more", "[I", true)
  | 6 => ("SqueakShop$Lot", "year", "I", false)
  | 7 => ("SqueakShop$Lot", "street", "LSqueakShop$Street;", false)
  | 8 => ("SqueakShop$Lot", "seen", "LSqueakShop$Rows;", true)
  | 9 => ("SqueakShop$Lot", "plan", "LSqueakShop$Rows;", true)
  | 10 => ("SqueakShop$Lot", "book", "LSqueakShop$Rows;", true)
  | _ => ("SqueakShop$Lot", "letters", "[I", true)
def tyX1 : Nat → FieldType := fun k => match k with
  | 0 => .int
  | 1 => .array .int
  | 2 => .array .int
  | 3 => .array .int
  | 4 => .array .int
  | 5 => .array .int
  | 6 => .int
  | 7 => .object "SqueakShop$Street"
  | 8 => .object "SqueakShop$Rows"
  | 9 => .object "SqueakShop$Rows"
  | 10 => .object "SqueakShop$Rows"
  | _ => .array .int
abbrev wsX10 : List Cond := u_ws RX1 TX1 12
theorem nmX1 : ∀ a, a < 12 → ∀ b, b < 12 → a ≠ b → (TX1 a).2.1 ≠ (TX1 b).2.1 := by decide +kernel
theorem tyX1_ok : ∀ k, k < 12 → parseFieldDescriptor (TX1 k).2.2.1 = some (tyX1 k) := by decide +kernel
abbrev cX1_init : ByteArray := prog_3_method_1_code
def yX1_init : MethodName := ⟨RX1, "<init>", "(LSqueakShop$Street;)V"⟩
abbrev cX1_has : ByteArray := prog_3_method_2_code
def yX1_has : MethodName := ⟨RX1, "has", "(I)Z"⟩
abbrev cX1_isLost : ByteArray := prog_3_method_3_code
def yX1_isLost : MethodName := ⟨RX1, "isLost", "(I)Z"⟩
abbrev cX1_come : ByteArray := prog_3_method_4_code
def yX1_come : MethodName := ⟨RX1, "come", "(IIII)I"⟩
abbrev cX1_takeSounds : ByteArray := prog_3_method_5_code
def yX1_takeSounds : MethodName := ⟨RX1, "takeSounds", "(LSqueakShop$Lot;)V"⟩
abbrev cX1_takeAll : ByteArray := prog_3_method_6_code
def yX1_takeAll : MethodName := ⟨RX1, "takeAll", "(LSqueakShop$Lot;)V"⟩
abbrev cX1_wears : ByteArray := prog_3_method_7_code
def yX1_wears : MethodName := ⟨RX1, "wears", "(I)I"⟩
abbrev cX1_goYears : ByteArray := prog_3_method_8_code
def yX1_goYears : MethodName := ⟨RX1, "goYears", "(I)V"⟩
abbrev cX1_go : ByteArray := prog_3_method_9_code
def yX1_go : MethodName := ⟨RX1, "go", "(II)V"⟩
abbrev cX1_voiceIn : ByteArray := prog_3_method_10_code
def yX1_voiceIn : MethodName := ⟨RX1, "voiceIn", "(II)I"⟩
abbrev cX1_heard : ByteArray := prog_3_method_11_code
def yX1_heard : MethodName := ⟨RX1, "heard", "(IIII)I"⟩
abbrev cX1_heardIn : ByteArray := prog_3_method_12_code
def yX1_heardIn : MethodName := ⟨RX1, "heardIn", "(II)I"⟩
abbrev cX1_noiseOf : ByteArray := prog_3_method_13_code
def yX1_noiseOf : MethodName := ⟨RX1, "noiseOf", "(I)I"⟩
abbrev cX1_greatest : ByteArray := prog_3_method_14_code
def yX1_greatest : MethodName := ⟨RX1, "greatest", "()I"⟩
abbrev cX1_stillHouses : ByteArray := prog_3_method_15_code
def yX1_stillHouses : MethodName := ⟨RX1, "stillHouses", "()I"⟩
def RX2 : String := "SqueakShop$Rows"
def TX2 : u_T := fun k => match k with
  | 0 => ("SqueakShop$Rows", "count", "I", false)
  | 1 => ("SqueakShop$Rows", "first", "[I", true)
  | 2 => ("SqueakShop$Rows", "second", "[I", true)
  | _ => ("SqueakShop$Rows", "third", "[I", true)
def tyX2 : Nat → FieldType := fun k => match k with
  | 0 => .int
  | 1 => .array .int
  | 2 => .array .int
  | _ => .array .int
abbrev wsX20 : List Cond := u_ws RX2 TX2 4
theorem nmX2 : ∀ a, a < 4 → ∀ b, b < 4 → a ≠ b → (TX2 a).2.1 ≠ (TX2 b).2.1 := by decide +kernel
theorem tyX2_ok : ∀ k, k < 4 → parseFieldDescriptor (TX2 k).2.2.1 = some (tyX2 k) := by decide +kernel
abbrev cX2_init : ByteArray := prog_4_method_1_code
def yX2_init : MethodName := ⟨RX2, "<init>", "(I)V"⟩
abbrev cX2_isFull : ByteArray := prog_4_method_2_code
def yX2_isFull : MethodName := ⟨RX2, "isFull", "()Z"⟩
abbrev cX2_empty : ByteArray := prog_4_method_3_code
def yX2_empty : MethodName := ⟨RX2, "empty", "()I"⟩
abbrev cX2_add : ByteArray := prog_4_method_4_code
def yX2_add : MethodName := ⟨RX2, "add", "(III)I"⟩
abbrev cX2_takeAll : ByteArray := prog_4_method_5_code
def yX2_takeAll : MethodName := ⟨RX2, "takeAll", "(LSqueakShop$Rows;)V"⟩
def RX3 : String := "SqueakShop$Street"
def TX3 : u_T := fun k => match k with
  | 0 => ("SqueakShop$Street", "wall", "I", false)
  | 1 => ("SqueakShop$Street", "calm", "I", false)
  | 2 => ("SqueakShop$Street", "wear", "I", false)
  | 3 => ("SqueakShop$Street", "clauses", "I", false)
  | 4 => ("SqueakShop$Street", "louder", "[I", true)
  | 5 => ("SqueakShop$Street", "begins", "[I", true)
  | 6 => ("SqueakShop$Street", "size", "I", false)
  | 7 => ("SqueakShop$Street", "operator", "[I", true)
  | 8 => ("SqueakShop$Street", "order", "[I", true)
  | _ => ("SqueakShop$Street", "number", "[I", true)
def tyX3 : Nat → FieldType := fun k => match k with
  | 0 => .int
  | 1 => .int
  | 2 => .int
  | 3 => .int
  | 4 => .array .int
  | 5 => .array .int
  | 6 => .int
  | 7 => .array .int
  | 8 => .array .int
  | _ => .array .int
abbrev wsX30 : List Cond := u_ws RX3 TX3 10
theorem nmX3 : ∀ a, a < 10 → ∀ b, b < 10 → a ≠ b → (TX3 a).2.1 ≠ (TX3 b).2.1 := by decide +kernel
theorem tyX3_ok : ∀ k, k < 10 → parseFieldDescriptor (TX3 k).2.2.1 = some (tyX3 k) := by decide +kernel
abbrev cX3_init : ByteArray := prog_5_method_1_code
def yX3_init : MethodName := ⟨RX3, "<init>", "()V"⟩
abbrev cX3_empty : ByteArray := prog_5_method_2_code
def yX3_empty : MethodName := ⟨RX3, "empty", "()V"⟩
abbrev cX3_add : ByteArray := prog_5_method_3_code
def yX3_add : MethodName := ⟨RX3, "add", "(III)V"⟩
abbrev cX3_endClause : ByteArray := prog_5_method_4_code
def yX3_endClause : MethodName := ⟨RX3, "endClause", "(I)V"⟩
abbrev cX3_holds : ByteArray := prog_5_method_5_code
def yX3_holds : MethodName := ⟨RX3, "holds", "(I[I)Z"⟩
def RX4 : String := "SqueakShop$Tape"
def TX4 : u_T := fun k => match k with
  | 0 => ("SqueakShop$Tape", "sort", "I", false)
  | 1 => ("SqueakShop$Tape", "size", "I", false)
  | _ => ("SqueakShop$Tape", "items", "[J", true)
def tyX4 : Nat → FieldType := fun k => match k with
  | 0 => .int
  | 1 => .int
  | _ => .array .long
abbrev wsX40 : List Cond := u_ws RX4 TX4 3
theorem nmX4 : ∀ a, a < 3 → ∀ b, b < 3 → a ≠ b → (TX4 a).2.1 ≠ (TX4 b).2.1 := by decide +kernel
theorem tyX4_ok : ∀ k, k < 3 → parseFieldDescriptor (TX4 k).2.2.1 = some (tyX4 k) := by decide +kernel
abbrev cX4_init : ByteArray := prog_6_method_1_code
def yX4_init : MethodName := ⟨RX4, "<init>", "()V"⟩
abbrev cX4_become : ByteArray := prog_6_method_2_code
def yX4_become : MethodName := ⟨RX4, "become", "(II)V"⟩
abbrev cX4_hasPlace : ByteArray := prog_6_method_3_code
def yX4_hasPlace : MethodName := ⟨RX4, "hasPlace", "(I)Z"⟩
abbrev cX4_hasPlaces : ByteArray := prog_6_method_4_code
def yX4_hasPlaces : MethodName := ⟨RX4, "hasPlaces", "(II)Z"⟩
abbrev cX4_put : ByteArray := prog_6_method_5_code
def yX4_put : MethodName := ⟨RX4, "put", "(IJ)V"⟩
def RX5 : String := "SqueakShop$Text"
def TX5 : u_T := fun k => match k with
  | 0 => ("SqueakShop$Text", "signs", "[B", true)
  | 1 => ("SqueakShop$Text", "length", "I", false)
  | 2 => ("SqueakShop$Text", "at", "I", false)
  | _ => ("SqueakShop$Text", "made", "LSqueakShop$Street;", false)
def tyX5 : Nat → FieldType := fun k => match k with
  | 0 => .array .byte
  | 1 => .int
  | 2 => .int
  | _ => .object "SqueakShop$Street"
abbrev wsX50 : List Cond := u_ws RX5 TX5 4
theorem nmX5 : ∀ a, a < 4 → ∀ b, b < 4 → a ≠ b → (TX5 a).2.1 ≠ (TX5 b).2.1 := by decide +kernel
theorem tyX5_ok : ∀ k, k < 4 → parseFieldDescriptor (TX5 k).2.2.1 = some (tyX5 k) := by decide +kernel
abbrev cX5_init : ByteArray := prog_7_method_1_code
def yX5_init : MethodName := ⟨RX5, "<init>", "()V"⟩
abbrev cX5_grow : ByteArray := prog_7_method_2_code
def yX5_grow : MethodName := ⟨RX5, "grow", "(B)I"⟩
abbrev cX5_makes : ByteArray := prog_7_method_3_code
def yX5_makes : MethodName := ⟨RX5, "makes", "(LSqueakShop$Street;)Z"⟩
abbrev cX5_readsClause : ByteArray := prog_7_method_4_code
def yX5_readsClause : MethodName := ⟨RX5, "readsClause", "()Z"⟩
abbrev cX5_readWord : ByteArray := prog_7_method_5_code
def yX5_readWord : MethodName := ⟨RX5, "readWord", "()I"⟩
abbrev cX5_readsAny : ByteArray := prog_7_method_6_code
def yX5_readsAny : MethodName := ⟨RX5, "readsAny", "(I)Z"⟩
abbrev cX5_readsAll : ByteArray := prog_7_method_7_code
def yX5_readsAll : MethodName := ⟨RX5, "readsAll", "(I)Z"⟩
abbrev cX5_readsOne : ByteArray := prog_7_method_8_code
def yX5_readsOne : MethodName := ⟨RX5, "readsOne", "(I)Z"⟩
abbrev cX5_readsTest : ByteArray := prog_7_method_9_code
def yX5_readsTest : MethodName := ⟨RX5, "readsTest", "()Z"⟩
abbrev cX5_readNumber : ByteArray := prog_7_method_10_code
def yX5_readNumber : MethodName := ⟨RX5, "readNumber", "()I"⟩
abbrev cX5_readOneOf : ByteArray := prog_7_method_11_code
def yX5_readOneOf : MethodName := ⟨RX5, "readOneOf", "(Ljava/lang/String;)I"⟩
abbrev cX5_readsSign : ByteArray := prog_7_method_12_code
def yX5_readsSign : MethodName := ⟨RX5, "readsSign", "(C)Z"⟩
def RX6 : String := "SqueakShop$Ways"
def TX6 : u_T := fun k => match k with
  | 0 => ("SqueakShop$Ways", "sounds", "I", false)
  | 1 => ("SqueakShop$Ways", "calm", "I", false)
  | 2 => ("SqueakShop$Ways", "heard", "[I", true)
  | 3 => ("SqueakShop$Ways", "house", "[I", true)
  | 4 => ("SqueakShop$Ways", "noise", "[I", true)
  | 5 => ("SqueakShop$Ways", "lost", "[Z", true)
  | 6 => ("SqueakShop$Ways", "atLeast", "[I", true)
  | 7 => ("SqueakShop$Ways", "sums", "[I", true)
  | 8 => ("SqueakShop$Ways", "bestHouse", "[I", true)
  | 9 => ("SqueakShop$Ways", "bestGreatest", "I", false)
  | 10 => ("SqueakShop$Ways", "bestTotal", "I", false)
  | _ => ("SqueakShop$Ways", "steps", "[I", true)
def tyX6 : Nat → FieldType := fun k => match k with
  | 0 => .int
  | 1 => .int
  | 2 => .array .int
  | 3 => .array .int
  | 4 => .array .int
  | 5 => .array .boolean
  | 6 => .array .int
  | 7 => .array .int
  | 8 => .array .int
  | 9 => .int
  | 10 => .int
  | _ => .array .int
abbrev wsX60 : List Cond := u_ws RX6 TX6 12
theorem nmX6 : ∀ a, a < 12 → ∀ b, b < 12 → a ≠ b → (TX6 a).2.1 ≠ (TX6 b).2.1 := by decide +kernel
theorem tyX6_ok : ∀ k, k < 12 → parseFieldDescriptor (TX6 k).2.2.1 = some (tyX6 k) := by decide +kernel
abbrev cX6_init : ByteArray := prog_8_method_1_code
def yX6_init : MethodName := ⟨RX6, "<init>", "()V"⟩
abbrev cX6_take : ByteArray := prog_8_method_2_code
def yX6_take : MethodName := ⟨RX6, "take", "(LSqueakShop$Lot;)V"⟩
abbrev cX6_put : ByteArray := prog_8_method_3_code
def yX6_put : MethodName := ⟨RX6, "put", "(II)V"⟩
abbrev cX6_heardFrom : ByteArray := prog_8_method_4_code
def yX6_heardFrom : MethodName := ⟨RX6, "heardFrom", "(III)I"⟩
abbrev cX6_greatest : ByteArray := prog_8_method_5_code
def yX6_greatest : MethodName := ⟨RX6, "greatest", "()I"⟩
abbrev cX6_calmestHouse : ByteArray := prog_8_method_6_code
def yX6_calmestHouse : MethodName := ⟨RX6, "calmestHouse", "(I)I"⟩
abbrev cX6_shareOut : ByteArray := prog_8_method_7_code
def yX6_shareOut : MethodName := ⟨RX6, "shareOut", "()V"⟩
abbrev cX6_leastHeard : ByteArray := prog_8_method_8_code
def yX6_leastHeard : MethodName := ⟨RX6, "leastHeard", "(II)I"⟩
abbrev cX6_shareFrom : ByteArray := prog_8_method_9_code
def yX6_shareFrom : MethodName := ⟨RX6, "shareFrom", "(I)V"⟩
abbrev cX6_isBetter : ByteArray := prog_8_method_10_code
def yX6_isBetter : MethodName := ⟨RX6, "isBetter", "(II)Z"⟩
abbrev cX6_keepWay : ByteArray := prog_8_method_11_code
def yX6_keepWay : MethodName := ⟨RX6, "keepWay", "()V"⟩
abbrev cX6_bestSwap : ByteArray := prog_8_method_12_code
def yX6_bestSwap : MethodName := ⟨RX6, "bestSwap", "()I"⟩
abbrev cX6_swap : ByteArray := prog_8_method_13_code
def yX6_swap : MethodName := ⟨RX6, "swap", "(II)V"⟩
abbrev cX6_worstSound : ByteArray := prog_8_method_14_code
def yX6_worstSound : MethodName := ⟨RX6, "worstSound", "()I"⟩
abbrev cX6_stillWithoutOne : ByteArray := prog_8_method_15_code
def yX6_stillWithoutOne : MethodName := ⟨RX6, "stillWithoutOne", "(I)I"⟩
abbrev cX6_fewestSteps : ByteArray := prog_8_method_16_code
def yX6_fewestSteps : MethodName := ⟨RX6, "fewestSteps", "()I"⟩
abbrev cX6_isStillBy : ByteArray := prog_8_method_17_code
def yX6_isStillBy : MethodName := ⟨RX6, "isStillBy", "(II)Z"⟩
def RX7 : String := "SqueakShop"
def TX7 : u_T := fun k => match k with
  | 0 => ("SqueakShop", "now", "LSqueakShop$Lot;", true)
  | 1 => ("SqueakShop", "kept", "LSqueakShop$Lot;", true)
  | 2 => ("SqueakShop", "asked", "LSqueakShop$Lot;", true)
  | 3 => ("SqueakShop", "hasImage", "Z", false)
  | 4 => ("SqueakShop", "text", "LSqueakShop$Text;", true)
  | 5 => ("SqueakShop", "streets", "[LSqueakShop$Street;", true)
  | 6 => ("SqueakShop", "streetsMade", "I", false)
  | 7 => ("SqueakShop", "ways", "LSqueakShop$Ways;", true)
  | 8 => ("SqueakShop", "acts", "LSqueakShop$Acts;", true)
  | _ => ("SqueakShop", "tapes", "[LSqueakShop$Tape;", true)
def tyX7 : Nat → FieldType := fun k => match k with
  | 0 => .object "SqueakShop$Lot"
  | 1 => .object "SqueakShop$Lot"
  | 2 => .object "SqueakShop$Lot"
  | 3 => .boolean
  | 4 => .object "SqueakShop$Text"
  | 5 => .array (.object "SqueakShop$Street")
  | 6 => .int
  | 7 => .object "SqueakShop$Ways"
  | 8 => .object "SqueakShop$Acts"
  | _ => .array (.object "SqueakShop$Tape")
abbrev wsX70 : List Cond := u_ws RX7 TX7 10
theorem nmX7 : ∀ a, a < 10 → ∀ b, b < 10 → a ≠ b → (TX7 a).2.1 ≠ (TX7 b).2.1 := by decide +kernel
theorem tyX7_ok : ∀ k, k < 10 → parseFieldDescriptor (TX7 k).2.2.1 = some (tyX7 k) := by decide +kernel
abbrev cX7_init : ByteArray := prog_1_method_1_code
def yX7_init : MethodName := ⟨RX7, "<init>", "()V"⟩
abbrev cX7_sound : ByteArray := prog_1_method_2_code
def yX7_sound : MethodName := ⟨RX7, "sound", "(IIII)I"⟩
abbrev cX7_of : ByteArray := prog_1_method_3_code
def yX7_of : MethodName := ⟨RX7, "of", "(II)I"⟩
abbrev cX7_set : ByteArray := prog_1_method_4_code
def yX7_set : MethodName := ⟨RX7, "set", "(II)I"⟩
abbrev cX7_pass : ByteArray := prog_1_method_5_code
def yX7_pass : MethodName := ⟨RX7, "pass", "(II)I"⟩
abbrev cX7_lose : ByteArray := prog_1_method_6_code
def yX7_lose : MethodName := ⟨RX7, "lose", "(I)I"⟩
abbrev cX7_find : ByteArray := prog_1_method_7_code
def yX7_find : MethodName := ⟨RX7, "find", "(II)I"⟩
abbrev cX7_row : ByteArray := prog_1_method_8_code
def yX7_row : MethodName := ⟨RX7, "row", "(III)I"⟩
abbrev cX7_feed : ByteArray := prog_1_method_9_code
def yX7_feed : MethodName := ⟨RX7, "feed", "(I)I"⟩
abbrev cX7_street : ByteArray := prog_1_method_10_code
def yX7_street : MethodName := ⟨RX7, "street", "()I"⟩
abbrev cX7_told : ByteArray := prog_1_method_11_code
def yX7_told : MethodName := ⟨RX7, "told", "(I)I"⟩
abbrev cX7_years : ByteArray := prog_1_method_12_code
def yX7_years : MethodName := ⟨RX7, "years", "(I)I"⟩
abbrev cX7_on : ByteArray := prog_1_method_13_code
def yX7_on : MethodName := ⟨RX7, "on", "(II)I"⟩
abbrev cX7_when : ByteArray := prog_1_method_14_code
def yX7_when : MethodName := ⟨RX7, "when", "(II)I"⟩
abbrev cX7_stillBy : ByteArray := prog_1_method_15_code
def yX7_stillBy : MethodName := ⟨RX7, "stillBy", "(I)I"⟩
abbrev cX7_silentBy : ByteArray := prog_1_method_16_code
def yX7_silentBy : MethodName := ⟨RX7, "silentBy", "(I)I"⟩
abbrev cX7_home : ByteArray := prog_1_method_17_code
def yX7_home : MethodName := ⟨RX7, "home", "(I)I"⟩
abbrev cX7_shared : ByteArray := prog_1_method_18_code
def yX7_shared : MethodName := ⟨RX7, "shared", "(I)I"⟩
abbrev cX7_best : ByteArray := prog_1_method_19_code
def yX7_best : MethodName := ⟨RX7, "best", "(I)I"⟩
abbrev cX7_fewest : ByteArray := prog_1_method_20_code
def yX7_fewest : MethodName := ⟨RX7, "fewest", "(I)I"⟩
abbrev cX7_see : ByteArray := prog_1_method_21_code
def yX7_see : MethodName := ⟨RX7, "see", "(III)I"⟩
abbrev cX7_louds : ByteArray := prog_1_method_22_code
def yX7_louds : MethodName := ⟨RX7, "louds", "(II)I"⟩
abbrev cX7_can : ByteArray := prog_1_method_23_code
def yX7_can : MethodName := ⟨RX7, "can", "(II)I"⟩
abbrev cX7_fitting : ByteArray := prog_1_method_24_code
def yX7_fitting : MethodName := ⟨RX7, "fitting", "([IIII)I"⟩
abbrev cX7_where : ByteArray := prog_1_method_25_code
def yX7_where : MethodName := ⟨RX7, "where", "(I)I"⟩
abbrev cX7_isAsSeen : ByteArray := prog_1_method_26_code
def yX7_isAsSeen : MethodName := ⟨RX7, "isAsSeen", "()Z"⟩
abbrev cX7_odds : ByteArray := prog_1_method_27_code
def yX7_odds : MethodName := ⟨RX7, "odds", "(II)J"⟩
abbrev cX7_mean : ByteArray := prog_1_method_28_code
def yX7_mean : MethodName := ⟨RX7, "mean", "(II)J"⟩
abbrev cX7_ofFraction : ByteArray := prog_1_method_29_code
def yX7_ofFraction : MethodName := ⟨RX7, "ofFraction", "(III)J"⟩
abbrev cX7_commonDivisor : ByteArray := prog_1_method_30_code
def yX7_commonDivisor : MethodName := ⟨RX7, "commonDivisor", "(II)I"⟩
abbrev cX7_plan : ByteArray := prog_1_method_31_code
def yX7_plan : MethodName := ⟨RX7, "plan", "(II)I"⟩
abbrev cX7_ends : ByteArray := prog_1_method_32_code
def yX7_ends : MethodName := ⟨RX7, "ends", "(I)I"⟩
abbrev cX7_book : ByteArray := prog_1_method_33_code
def yX7_book : MethodName := ⟨RX7, "book", "(II)I"⟩
abbrev cX7_looked : ByteArray := prog_1_method_34_code
def yX7_looked : MethodName := ⟨RX7, "looked", "()I"⟩
abbrev cX7_judge : ByteArray := prog_1_method_35_code
def yX7_judge : MethodName := ⟨RX7, "judge", "(II)I"⟩
abbrev cX7_image : ByteArray := prog_1_method_36_code
def yX7_image : MethodName := ⟨RX7, "image", "()I"⟩
abbrev cX7_undo : ByteArray := prog_1_method_37_code
def yX7_undo : MethodName := ⟨RX7, "undo", "()I"⟩
abbrev cX7_act : ByteArray := prog_1_method_38_code
def yX7_act : MethodName := ⟨RX7, "act", "(III)I"⟩
abbrev cX7_trace : ByteArray := prog_1_method_39_code
def yX7_trace : MethodName := ⟨RX7, "trace", "(I)I"⟩
abbrev cX7_taken : ByteArray := prog_1_method_40_code
def yX7_taken : MethodName := ⟨RX7, "taken", "(II)I"⟩
abbrev cX7_count : ByteArray := prog_1_method_41_code
def yX7_count : MethodName := ⟨RX7, "count", "(I)I"⟩
abbrev cX7_tape : ByteArray := prog_1_method_42_code
def yX7_tape : MethodName := ⟨RX7, "tape", "(III)I"⟩
abbrev cX7_item : ByteArray := prog_1_method_43_code
def yX7_item : MethodName := ⟨RX7, "item", "(IIJ)I"⟩
abbrev cX7_read : ByteArray := prog_1_method_44_code
def yX7_read : MethodName := ⟨RX7, "read", "(II)J"⟩
abbrev cX7_shift : ByteArray := prog_1_method_45_code
def yX7_shift : MethodName := ⟨RX7, "shift", "(IIIII)I"⟩
abbrev cX7_isIn : ByteArray := prog_1_method_46_code
def yX7_isIn : MethodName := ⟨RX7, "isIn", "(II)Z"⟩
abbrev cX7_isHouse : ByteArray := prog_1_method_47_code
def yX7_isHouse : MethodName := ⟨RX7, "isHouse", "(I)Z"⟩
abbrev cX7_isTape : ByteArray := prog_1_method_48_code
def yX7_isTape : MethodName := ⟨RX7, "isTape", "(I)Z"⟩
def RX8 : String := "SqueakShopModel"
def TX8 : u_T := fun k => match k with
  | 0 => ("SqueakShopModel", "sounds", "I", false)
  | 1 => ("SqueakShopModel", "year", "I", false)
  | 2 => ("SqueakShopModel", "kind", "[I", true)
  | 3 => ("SqueakShopModel", "v", "[I", true)
  | 4 => ("SqueakShopModel", "loud", "[I", true)
  | 5 => ("SqueakShopModel", "house", "[I", true)
  | 6 => ("SqueakShopModel", "rows", "[I", true)
  | 7 => ("SqueakShopModel", "streets", "I", false)
  | 8 => ("SqueakShopModel", "the", "I", false)
  | 9 => ("SqueakShopModel", "fed", "I", false)
  | 10 => ("SqueakShopModel", "at", "I", false)
  | 11 => ("SqueakShopModel", "digits", "I", false)
  | 12 => ("SqueakShopModel", "text", "[I", true)
  | 13 => ("SqueakShopModel", "clauses", "[I", true)
  | 14 => ("SqueakShopModel", "word", "[I", true)
  | 15 => ("SqueakShopModel", "number", "[I", true)
  | 16 => ("SqueakShopModel", "from", "[I", true)
  | 17 => ("SqueakShopModel", "to", "[I", true)
  | 18 => ("SqueakShopModel", "sign", "[I", true)
  | 19 => ("SqueakShopModel", "waits", "[I", true)
  | 20 => ("SqueakShopModel", "signs", "I", false)
  | 21 => ("SqueakShopModel", "waiting", "I", false)
  | 22 => ("SqueakShopModel", "open", "I", false)
  | 23 => ("SqueakShopModel", "letters", "[I", true)
  | 24 => ("SqueakShopModel", "pile", "[Z", true)
  | 25 => ("SqueakShopModel", "noises", "[I", true)
  | 26 => ("SqueakShopModel", "keptYear", "I", false)
  | 27 => ("SqueakShopModel", "keptLoud", "[I", true)
  | 28 => ("SqueakShopModel", "keptHouse", "[I", true)
  | 29 => ("SqueakShopModel", "laid", "[I", true)
  | 30 => ("SqueakShopModel", "bestHouse", "[I", true)
  | 31 => ("SqueakShopModel", "bestGreatest", "I", false)
  | 32 => ("SqueakShopModel", "bestSum", "I", false)
  | 33 => ("SqueakShopModel", "seen", "I", false)
  | 34 => ("SqueakShopModel", "seenHouse", "[I", true)
  | 35 => ("SqueakShopModel", "seenNoise", "[I", true)
  | 36 => ("SqueakShopModel", "seenWhen", "[I", true)
  | 37 => ("SqueakShopModel", "plans", "I", false)
  | 38 => ("SqueakShopModel", "books", "I", false)
  | 39 => ("SqueakShopModel", "planWhat", "[I", true)
  | 40 => ("SqueakShopModel", "planSound", "[I", true)
  | 41 => ("SqueakShopModel", "bookSound", "[I", true)
  | 42 => ("SqueakShopModel", "bookHouse", "[I", true)
  | 43 => ("SqueakShopModel", "hasImage", "Z", false)
  | 44 => ("SqueakShopModel", "imageThe", "I", false)
  | 45 => ("SqueakShopModel", "imageSounds", "I", false)
  | 46 => ("SqueakShopModel", "imageYear", "I", false)
  | 47 => ("SqueakShopModel", "imageSeen", "I", false)
  | 48 => ("SqueakShopModel", "imagePlans", "I", false)
  | 49 => ("SqueakShopModel", "imageBooks", "I", false)
  | 50 => ("SqueakShopModel", "imageKind", "[I", true)
  | 51 => ("SqueakShopModel", "imageV", "[I", true)
  | 52 => ("SqueakShopModel", "imageLoud", "[I", true)
  | 53 => ("SqueakShopModel", "imageHouse", "[I", true)
  | 54 => ("SqueakShopModel", "imageRows", "[I", true)
  | 55 => ("SqueakShopModel", "imageSeenHouse", "[I", true)
  | 56 => ("SqueakShopModel", "imageNoise", "[I", true)
  | 57 => ("SqueakShopModel", "imageWhen", "[I", true)
  | 58 => ("SqueakShopModel", "imageWhat", "[I", true)
  | 59 => ("SqueakShopModel", "imageSound", "[I", true)
  | 60 => ("SqueakShopModel", "imageBookSound", "[I", true)
  | 61 => ("SqueakShopModel", "imageBookHouse", "[I", true)
  | 62 => ("SqueakShopModel", "ran", "I", false)
  | 63 => ("SqueakShopModel", "bodies", "[I", true)
  | 64 => ("SqueakShopModel", "sort", "[I", true)
  | 65 => ("SqueakShopModel", "length", "[I", true)
  | 66 => ("SqueakShopModel", "item", "[J", true)
  | _ => ("SqueakShopModel", "aside", "[J", true)
def tyX8 : Nat → FieldType := fun k => match k with
  | 0 => .int
  | 1 => .int
  | 2 => .array .int
  | 3 => .array .int
  | 4 => .array .int
  | 5 => .array .int
  | 6 => .array .int
  | 7 => .int
  | 8 => .int
  | 9 => .int
  | 10 => .int
  | 11 => .int
  | 12 => .array .int
  | 13 => .array .int
  | 14 => .array .int
  | 15 => .array .int
  | 16 => .array .int
  | 17 => .array .int
  | 18 => .array .int
  | 19 => .array .int
  | 20 => .int
  | 21 => .int
  | 22 => .int
  | 23 => .array .int
  | 24 => .array .boolean
  | 25 => .array .int
  | 26 => .int
  | 27 => .array .int
  | 28 => .array .int
  | 29 => .array .int
  | 30 => .array .int
  | 31 => .int
  | 32 => .int
  | 33 => .int
  | 34 => .array .int
  | 35 => .array .int
  | 36 => .array .int
  | 37 => .int
  | 38 => .int
  | 39 => .array .int
  | 40 => .array .int
  | 41 => .array .int
  | 42 => .array .int
  | 43 => .boolean
  | 44 => .int
  | 45 => .int
  | 46 => .int
  | 47 => .int
  | 48 => .int
  | 49 => .int
  | 50 => .array .int
  | 51 => .array .int
  | 52 => .array .int
  | 53 => .array .int
  | 54 => .array .int
  | 55 => .array .int
  | 56 => .array .int
  | 57 => .array .int
  | 58 => .array .int
  | 59 => .array .int
  | 60 => .array .int
  | 61 => .array .int
  | 62 => .int
  | 63 => .array .int
  | 64 => .array .int
  | 65 => .array .int
  | 66 => .array .long
  | _ => .array .long
abbrev wsX80 : List Cond := u_ws RX8 TX8 68
theorem nmX8 : ∀ a, a < 68 → ∀ b, b < 68 → a ≠ b → (TX8 a).2.1 ≠ (TX8 b).2.1 := by decide +kernel
theorem tyX8_ok : ∀ k, k < 68 → parseFieldDescriptor (TX8 k).2.2.1 = some (tyX8 k) := by decide +kernel
abbrev cX8_init : ByteArray := prog_10_method_1_code
def yX8_init : MethodName := ⟨RX8, "<init>", "()V"⟩
abbrev cX8_in : ByteArray := prog_10_method_2_code
def yX8_in : MethodName := ⟨RX8, "in", "(III)Z"⟩
abbrev cX8_least0 : ByteArray := prog_10_method_3_code
def yX8_least0 : MethodName := ⟨RX8, "least0", "(I)I"⟩
abbrev cX8_farOf : ByteArray := prog_10_method_4_code
def yX8_farOf : MethodName := ⟨RX8, "farOf", "(II)I"⟩
abbrev cX8_isSound : ByteArray := prog_10_method_5_code
def yX8_isSound : MethodName := ⟨RX8, "isSound", "(I)Z"⟩
abbrev cX8_isHouse : ByteArray := prog_10_method_6_code
def yX8_isHouse : MethodName := ⟨RX8, "isHouse", "(I)Z"⟩
abbrev cX8_isLoud : ByteArray := prog_10_method_7_code
def yX8_isLoud : MethodName := ⟨RX8, "isLoud", "(I)Z"⟩
abbrev cX8_isYears : ByteArray := prog_10_method_8_code
def yX8_isYears : MethodName := ⟨RX8, "isYears", "(I)Z"⟩
abbrev cX8_isLost : ByteArray := prog_10_method_9_code
def yX8_isLost : MethodName := ⟨RX8, "isLost", "(I)Z"⟩
abbrev cX8_sound : ByteArray := prog_10_method_10_code
def yX8_sound : MethodName := ⟨RX8, "sound", "(IIII)I"⟩
abbrev cX8_set : ByteArray := prog_10_method_11_code
def yX8_set : MethodName := ⟨RX8, "set", "(II)I"⟩
abbrev cX8_row : ByteArray := prog_10_method_12_code
def yX8_row : MethodName := ⟨RX8, "row", "(III)I"⟩
abbrev cX8_pass : ByteArray := prog_10_method_13_code
def yX8_pass : MethodName := ⟨RX8, "pass", "(II)I"⟩
abbrev cX8_lose : ByteArray := prog_10_method_14_code
def yX8_lose : MethodName := ⟨RX8, "lose", "(I)I"⟩
abbrev cX8_find : ByteArray := prog_10_method_15_code
def yX8_find : MethodName := ⟨RX8, "find", "(II)I"⟩
abbrev cX8_feed : ByteArray := prog_10_method_16_code
def yX8_feed : MethodName := ⟨RX8, "feed", "(I)I"⟩
abbrev cX8_next : ByteArray := prog_10_method_17_code
def yX8_next : MethodName := ⟨RX8, "next", "()I"⟩
abbrev cX8_second : ByteArray := prog_10_method_18_code
def yX8_second : MethodName := ⟨RX8, "second", "()I"⟩
abbrev cX8_takes : ByteArray := prog_10_method_19_code
def yX8_takes : MethodName := ⟨RX8, "takes", "(I)Z"⟩
abbrev cX8_takesWord : ByteArray := prog_10_method_20_code
def yX8_takesWord : MethodName := ⟨RX8, "takesWord", "(II)Z"⟩
abbrev cX8_isDigit : ByteArray := prog_10_method_21_code
def yX8_isDigit : MethodName := ⟨RX8, "isDigit", "()Z"⟩
abbrev cX8_takesNumber : ByteArray := prog_10_method_22_code
def yX8_takesNumber : MethodName := ⟨RX8, "takesNumber", "()Z"⟩
abbrev cX8_emits : ByteArray := prog_10_method_23_code
def yX8_emits : MethodName := ⟨RX8, "emits", "(I)V"⟩
abbrev cX8_whole : ByteArray := prog_10_method_24_code
def yX8_whole : MethodName := ⟨RX8, "whole", "()V"⟩
abbrev cX8_settle : ByteArray := prog_10_method_25_code
def yX8_settle : MethodName := ⟨RX8, "settle", "(I)V"⟩
abbrev cX8_place : ByteArray := prog_10_method_26_code
def yX8_place : MethodName := ⟨RX8, "place", "(I)I"⟩
abbrev cX8_takesTest : ByteArray := prog_10_method_27_code
def yX8_takesTest : MethodName := ⟨RX8, "takesTest", "()Z"⟩
abbrev cX8_takesE : ByteArray := prog_10_method_28_code
def yX8_takesE : MethodName := ⟨RX8, "takesE", "(I)Z"⟩
abbrev cX8_takesHead : ByteArray := prog_10_method_29_code
def yX8_takesHead : MethodName := ⟨RX8, "takesHead", "(I)Z"⟩
abbrev cX8_takesClause : ByteArray := prog_10_method_30_code
def yX8_takesClause : MethodName := ⟨RX8, "takesClause", "(I)Z"⟩
abbrev cX8_goesText : ByteArray := prog_10_method_31_code
def yX8_goesText : MethodName := ⟨RX8, "goesText", "(I)Z"⟩
abbrev cX8_street : ByteArray := prog_10_method_32_code
def yX8_street : MethodName := ⟨RX8, "street", "()I"⟩
abbrev cX8_begin : ByteArray := prog_10_method_33_code
def yX8_begin : MethodName := ⟨RX8, "begin", "()I"⟩
abbrev cX8_behind : ByteArray := prog_10_method_34_code
def yX8_behind : MethodName := ⟨RX8, "behind", "()I"⟩
abbrev cX8_lastOf : ByteArray := prog_10_method_35_code
def yX8_lastOf : MethodName := ⟨RX8, "lastOf", "(II)I"⟩
abbrev cX8_wall : ByteArray := prog_10_method_36_code
def yX8_wall : MethodName := ⟨RX8, "wall", "()I"⟩
abbrev cX8_calm : ByteArray := prog_10_method_37_code
def yX8_calm : MethodName := ⟨RX8, "calm", "()I"⟩
abbrev cX8_wear : ByteArray := prog_10_method_38_code
def yX8_wear : MethodName := ⟨RX8, "wear", "()I"⟩
abbrev cX8_factOf : ByteArray := prog_10_method_39_code
def yX8_factOf : MethodName := ⟨RX8, "factOf", "(III)I"⟩
abbrev cX8_holds : ByteArray := prog_10_method_40_code
def yX8_holds : MethodName := ⟨RX8, "holds", "(III)Z"⟩
abbrev cX8_voice : ByteArray := prog_10_method_41_code
def yX8_voice : MethodName := ⟨RX8, "voice", "(II)I"⟩
abbrev cX8_heardBy : ByteArray := prog_10_method_42_code
def yX8_heardBy : MethodName := ⟨RX8, "heardBy", "(III)I"⟩
abbrev cX8_heard : ByteArray := prog_10_method_43_code
def yX8_heard : MethodName := ⟨RX8, "heard", "(II)I"⟩
abbrev cX8_layNoises : ByteArray := prog_10_method_44_code
def yX8_layNoises : MethodName := ⟨RX8, "layNoises", "()V"⟩
abbrev cX8_noise : ByteArray := prog_10_method_45_code
def yX8_noise : MethodName := ⟨RX8, "noise", "(I)I"⟩
abbrev cX8_greatestLaid : ByteArray := prog_10_method_46_code
def yX8_greatestLaid : MethodName := ⟨RX8, "greatestLaid", "()I"⟩
abbrev cX8_greatest : ByteArray := prog_10_method_47_code
def yX8_greatest : MethodName := ⟨RX8, "greatest", "()I"⟩
abbrev cX8_stillSet : ByteArray := prog_10_method_48_code
def yX8_stillSet : MethodName := ⟨RX8, "stillSet", "()I"⟩
abbrev cX8_wears : ByteArray := prog_10_method_49_code
def yX8_wears : MethodName := ⟨RX8, "wears", "(I)I"⟩
abbrev cX8_of : ByteArray := prog_10_method_50_code
def yX8_of : MethodName := ⟨RX8, "of", "(II)I"⟩
abbrev cX8_told : ByteArray := prog_10_method_51_code
def yX8_told : MethodName := ⟨RX8, "told", "(I)I"⟩
abbrev cX8_goYear : ByteArray := prog_10_method_52_code
def yX8_goYear : MethodName := ⟨RX8, "goYear", "()V"⟩
abbrev cX8_goYears : ByteArray := prog_10_method_53_code
def yX8_goYears : MethodName := ⟨RX8, "goYears", "(I)V"⟩
abbrev cX8_years : ByteArray := prog_10_method_54_code
def yX8_years : MethodName := ⟨RX8, "years", "(I)I"⟩
abbrev cX8_save : ByteArray := prog_10_method_55_code
def yX8_save : MethodName := ⟨RX8, "save", "()V"⟩
abbrev cX8_putBack : ByteArray := prog_10_method_56_code
def yX8_putBack : MethodName := ⟨RX8, "putBack", "()V"⟩
abbrev cX8_on : ByteArray := prog_10_method_57_code
def yX8_on : MethodName := ⟨RX8, "on", "(II)I"⟩
abbrev cX8_when : ByteArray := prog_10_method_58_code
def yX8_when : MethodName := ⟨RX8, "when", "(II)I"⟩
abbrev cX8_home : ByteArray := prog_10_method_59_code
def yX8_home : MethodName := ⟨RX8, "home", "(I)I"⟩
abbrev cX8_layAll : ByteArray := prog_10_method_60_code
def yX8_layAll : MethodName := ⟨RX8, "layAll", "()V"⟩
abbrev cX8_layPlaces : ByteArray := prog_10_method_61_code
def yX8_layPlaces : MethodName := ⟨RX8, "layPlaces", "(I)V"⟩
abbrev cX8_sumLaid : ByteArray := prog_10_method_62_code
def yX8_sumLaid : MethodName := ⟨RX8, "sumLaid", "()I"⟩
abbrev cX8_layShared : ByteArray := prog_10_method_63_code
def yX8_layShared : MethodName := ⟨RX8, "layShared", "()V"⟩
abbrev cX8_shared : ByteArray := prog_10_method_64_code
def yX8_shared : MethodName := ⟨RX8, "shared", "(I)I"⟩
abbrev cX8_swaps : ByteArray := prog_10_method_65_code
def yX8_swaps : MethodName := ⟨RX8, "swaps", "(II)V"⟩
abbrev cX8_changeOf : ByteArray := prog_10_method_66_code
def yX8_changeOf : MethodName := ⟨RX8, "changeOf", "()I"⟩
abbrev cX8_greatestWithout : ByteArray := prog_10_method_67_code
def yX8_greatestWithout : MethodName := ⟨RX8, "greatestWithout", "(I)I"⟩
abbrev cX8_worstOf : ByteArray := prog_10_method_68_code
def yX8_worstOf : MethodName := ⟨RX8, "worstOf", "()I"⟩
abbrev cX8_best : ByteArray := prog_10_method_69_code
def yX8_best : MethodName := ⟨RX8, "best", "(I)I"⟩
abbrev cX8_stepOf : ByteArray := prog_10_method_70_code
def yX8_stepOf : MethodName := ⟨RX8, "stepOf", "(III)I"⟩
abbrev cX8_isStillBy : ByteArray := prog_10_method_71_code
def yX8_isStillBy : MethodName := ⟨RX8, "isStillBy", "(II)Z"⟩
abbrev cX8_fewest : ByteArray := prog_10_method_72_code
def yX8_fewest : MethodName := ⟨RX8, "fewest", "(I)I"⟩
abbrev cX8_see : ByteArray := prog_10_method_73_code
def yX8_see : MethodName := ⟨RX8, "see", "(III)I"⟩
abbrev cX8_isSeen : ByteArray := prog_10_method_74_code
def yX8_isSeen : MethodName := ⟨RX8, "isSeen", "()Z"⟩
abbrev cX8_louds : ByteArray := prog_10_method_75_code
def yX8_louds : MethodName := ⟨RX8, "louds", "(II)I"⟩
abbrev cX8_can : ByteArray := prog_10_method_76_code
def yX8_can : MethodName := ⟨RX8, "can", "(II)I"⟩
abbrev cX8_where : ByteArray := prog_10_method_77_code
def yX8_where : MethodName := ⟨RX8, "where", "(I)I"⟩
abbrev cX8_divisor : ByteArray := prog_10_method_78_code
def yX8_divisor : MethodName := ⟨RX8, "divisor", "(II)I"⟩
abbrev cX8_lowest : ByteArray := prog_10_method_79_code
def yX8_lowest : MethodName := ⟨RX8, "lowest", "(III)J"⟩
abbrev cX8_odds : ByteArray := prog_10_method_80_code
def yX8_odds : MethodName := ⟨RX8, "odds", "(II)J"⟩
abbrev cX8_mean : ByteArray := prog_10_method_81_code
def yX8_mean : MethodName := ⟨RX8, "mean", "(II)J"⟩
abbrev cX8_plan : ByteArray := prog_10_method_82_code
def yX8_plan : MethodName := ⟨RX8, "plan", "(II)I"⟩
abbrev cX8_goPlan : ByteArray := prog_10_method_83_code
def yX8_goPlan : MethodName := ⟨RX8, "goPlan", "(II)V"⟩
abbrev cX8_ends : ByteArray := prog_10_method_84_code
def yX8_ends : MethodName := ⟨RX8, "ends", "(I)I"⟩
abbrev cX8_book : ByteArray := prog_10_method_85_code
def yX8_book : MethodName := ⟨RX8, "book", "(II)I"⟩
abbrev cX8_looked : ByteArray := prog_10_method_86_code
def yX8_looked : MethodName := ⟨RX8, "looked", "()I"⟩
abbrev cX8_judge : ByteArray := prog_10_method_87_code
def yX8_judge : MethodName := ⟨RX8, "judge", "(II)I"⟩
abbrev cX8_image : ByteArray := prog_10_method_88_code
def yX8_image : MethodName := ⟨RX8, "image", "()I"⟩
abbrev cX8_undo : ByteArray := prog_10_method_89_code
def yX8_undo : MethodName := ⟨RX8, "undo", "()I"⟩
abbrev cX8_body : ByteArray := prog_10_method_90_code
def yX8_body : MethodName := ⟨RX8, "body", "(I)V"⟩
abbrev cX8_soundCreaks : ByteArray := prog_10_method_91_code
def yX8_soundCreaks : MethodName := ⟨RX8, "soundCreaks", "(II)I"⟩
abbrev cX8_creaksAct : ByteArray := prog_10_method_92_code
def yX8_creaksAct : MethodName := ⟨RX8, "creaksAct", "(II)I"⟩
abbrev cX8_soundRings : ByteArray := prog_10_method_93_code
def yX8_soundRings : MethodName := ⟨RX8, "soundRings", "(II)I"⟩
abbrev cX8_squeakRings : ByteArray := prog_10_method_94_code
def yX8_squeakRings : MethodName := ⟨RX8, "squeakRings", "(II)I"⟩
abbrev cX8_ringsAct : ByteArray := prog_10_method_95_code
def yX8_ringsAct : MethodName := ⟨RX8, "ringsAct", "(II)I"⟩
abbrev cX8_soundTells : ByteArray := prog_10_method_96_code
def yX8_soundTells : MethodName := ⟨RX8, "soundTells", "(II)I"⟩
abbrev cX8_tellsAct : ByteArray := prog_10_method_97_code
def yX8_tellsAct : MethodName := ⟨RX8, "tellsAct", "(II)I"⟩
abbrev cX8_act : ByteArray := prog_10_method_98_code
def yX8_act : MethodName := ⟨RX8, "act", "(III)I"⟩
abbrev cX8_trace : ByteArray := prog_10_method_99_code
def yX8_trace : MethodName := ⟨RX8, "trace", "(I)I"⟩
abbrev cX8_taken : ByteArray := prog_10_method_100_code
def yX8_taken : MethodName := ⟨RX8, "taken", "(II)I"⟩
abbrev cX8_count : ByteArray := prog_10_method_101_code
def yX8_count : MethodName := ⟨RX8, "count", "(I)I"⟩
abbrev cX8_isTape : ByteArray := prog_10_method_102_code
def yX8_isTape : MethodName := ⟨RX8, "isTape", "(I)Z"⟩
abbrev cX8_tape : ByteArray := prog_10_method_103_code
def yX8_tape : MethodName := ⟨RX8, "tape", "(III)I"⟩
abbrev cX8_narrow : ByteArray := prog_10_method_104_code
def yX8_narrow : MethodName := ⟨RX8, "narrow", "(IJ)J"⟩
abbrev cX8_item : ByteArray := prog_10_method_105_code
def yX8_item : MethodName := ⟨RX8, "item", "(IIJ)I"⟩
abbrev cX8_read : ByteArray := prog_10_method_106_code
def yX8_read : MethodName := ⟨RX8, "read", "(II)J"⟩
abbrev cX8_shift : ByteArray := prog_10_method_107_code
def yX8_shift : MethodName := ⟨RX8, "shift", "(IIIII)I"⟩
def RJ11 : String := "java/lang/Character"
abbrev cJ11_isValidCodePoint_9a6ad : ByteArray := prog_11_method_11_code
def yJ11_isValidCodePoint_9a6ad : MethodName := ⟨RJ11, "isValidCodePoint", "(I)Z"⟩
abbrev cJ11_highSurrogate_5068e : ByteArray := prog_11_method_28_code
def yJ11_highSurrogate_5068e : MethodName := ⟨RJ11, "highSurrogate", "(I)C"⟩
abbrev cJ11_lowSurrogate_5068e : ByteArray := prog_11_method_29_code
def yJ11_lowSurrogate_5068e : MethodName := ⟨RJ11, "lowSurrogate", "(I)C"⟩
def RJ6 : String := "java/lang/Integer"
abbrev cJ6_compare_7cf53 : ByteArray := prog_12_method_40_code
def yJ6_compare_7cf53 : MethodName := ⟨RJ6, "compare", "(II)I"⟩
abbrev cJ6_bitCount_0f7a4 : ByteArray := prog_12_method_49_code
def yJ6_bitCount_0f7a4 : MethodName := ⟨RJ6, "bitCount", "(I)I"⟩
def RJ9 : String := "java/lang/Math"
abbrev cJ9_abs_0f7a4 : ByteArray := prog_13_method_59_code
def yJ9_abs_0f7a4 : MethodName := ⟨RJ9, "abs", "(I)I"⟩
abbrev cJ9_max_7cf53 : ByteArray := prog_13_method_65_code
def yJ9_max_7cf53 : MethodName := ⟨RJ9, "max", "(II)I"⟩
abbrev cJ9_min_7cf53 : ByteArray := prog_13_method_69_code
def yJ9_min_7cf53 : MethodName := ⟨RJ9, "min", "(II)I"⟩
def RJ0 : String := "java/lang/String"
abbrev cJ0_length_8abf5 : ByteArray := prog_14_method_54_code
def yJ0_length_8abf5 : MethodName := ⟨RJ0, "length", "()I"⟩
abbrev cJ0_charAt_5068e : ByteArray := prog_14_method_56_code
def yJ0_charAt_5068e : MethodName := ⟨RJ0, "charAt", "(I)C"⟩
abbrev cJ0_indexOf_0f7a4 : ByteArray := prog_14_method_79_code
def yJ0_indexOf_0f7a4 : MethodName := ⟨RJ0, "indexOf", "(I)I"⟩
abbrev cJ0_indexOf_7cf53 : ByteArray := prog_14_method_80_code
def yJ0_indexOf_7cf53 : MethodName := ⟨RJ0, "indexOf", "(II)I"⟩
abbrev cJ0_coder_7d493 : ByteArray := prog_14_method_152_code
def yJ0_coder_7d493 : MethodName := ⟨RJ0, "coder", "()B"⟩
abbrev cJ0_isLatin1_aae02 : ByteArray := prog_14_method_154_code
def yJ0_isLatin1_aae02 : MethodName := ⟨RJ0, "isLatin1", "()Z"⟩
abbrev cJ0_checkIndex_df160 : ByteArray := prog_14_method_155_code
def yJ0_checkIndex_df160 : MethodName := ⟨RJ0, "checkIndex", "(II)V"⟩
abbrev cJ0_checkBoundsBeginEnd_23922 : ByteArray := prog_14_method_158_code
def yJ0_checkBoundsBeginEnd_23922 : MethodName := ⟨RJ0, "checkBoundsBeginEnd", "(III)V"⟩
def RJ1 : String := "java/lang/StringLatin1"
abbrev cJ1_charAt_3b067 : ByteArray := prog_15_method_2_code
def yJ1_charAt_3b067 : MethodName := ⟨RJ1, "charAt", "([BI)C"⟩
abbrev cJ1_canEncode_9a6ad : ByteArray := prog_15_method_4_code
def yJ1_canEncode_9a6ad : MethodName := ⟨RJ1, "canEncode", "(I)Z"⟩
abbrev cJ1_indexOf_4cfef : ByteArray := prog_15_method_22_code
def yJ1_indexOf_4cfef : MethodName := ⟨RJ1, "indexOf", "([BIII)I"⟩
abbrev cJ1_indexOfChar_4cfef : ByteArray := prog_15_method_23_code
def yJ1_indexOfChar_4cfef : MethodName := ⟨RJ1, "indexOfChar", "([BIII)I"⟩
def RJ2 : String := "java/lang/StringUTF16"
abbrev cJ2_getChar_3b067 : ByteArray := prog_16_method_5_code
def yJ2_getChar_3b067 : MethodName := ⟨RJ2, "getChar", "([BI)C"⟩
abbrev cJ2_length_9d52b : ByteArray := prog_16_method_6_code
def yJ2_length_9d52b : MethodName := ⟨RJ2, "length", "([B)I"⟩
abbrev cJ2_indexOf_4cfef : ByteArray := prog_16_method_40_code
def yJ2_indexOf_4cfef : MethodName := ⟨RJ2, "indexOf", "([BIII)I"⟩
abbrev cJ2_indexOfChar_4cfef : ByteArray := prog_16_method_47_code
def yJ2_indexOfChar_4cfef : MethodName := ⟨RJ2, "indexOfChar", "([BIII)I"⟩
abbrev cJ2_indexOfCharUnsafe_4cfef : ByteArray := prog_16_method_48_code
def yJ2_indexOfCharUnsafe_4cfef : MethodName := ⟨RJ2, "indexOfCharUnsafe", "([BIII)I"⟩
abbrev cJ2_indexOfSupplementary_4cfef : ByteArray := prog_16_method_49_code
def yJ2_indexOfSupplementary_4cfef : MethodName := ⟨RJ2, "indexOfSupplementary", "([BIII)I"⟩
abbrev cJ2_charAt_3b067 : ByteArray := prog_16_method_83_code
def yJ2_charAt_3b067 : MethodName := ⟨RJ2, "charAt", "([BI)C"⟩
abbrev cJ2_checkIndex_2214a : ByteArray := prog_16_method_91_code
def yJ2_checkIndex_2214a : MethodName := ⟨RJ2, "checkIndex", "(I[B)V"⟩
abbrev cJ2_checkBoundsBeginEnd_d044e : ByteArray := prog_16_method_93_code
def yJ2_checkBoundsBeginEnd_d044e : MethodName := ⟨RJ2, "checkBoundsBeginEnd", "(II[B)V"⟩
def RJ10 : String := "java/lang/System"
def RJ3 : String := "jdk/internal/util/Preconditions"
abbrev cJ3_checkIndex_8e157 : ByteArray := prog_18_method_11_code
def yJ3_checkIndex_8e157 : MethodName := ⟨RJ3, "checkIndex", "(IILjava/util/function/BiFunction;)I"⟩
abbrev cJ3_checkFromToIndex_8c36e : ByteArray := prog_18_method_12_code
def yJ3_checkFromToIndex_8c36e : MethodName := ⟨RJ3, "checkFromToIndex", "(IIILjava/util/function/BiFunction;)I"⟩
def RL : String := "SqueakShopLaw"
abbrev cL_law : ByteArray := code
def yL_law : MethodName := ⟨RL, "law", "([I)Z"⟩
abbrev vwCl : List vw_C := [(RX0, TX0, 5), (RX1, TX1, 12), (RX2, TX2, 4), (RX3, TX3, 10), (RX4, TX4, 3), (RX5, TX5, 4), (RX6, TX6, 12), (RX7, TX7, 10), (RX8, TX8, 68)]
theorem inX0 : ∀ w ∈ wsX00, w ∈ lw_tbl := by decide +kernel
theorem inX1 : ∀ w ∈ wsX10, w ∈ lw_tbl := by decide +kernel
theorem inX2 : ∀ w ∈ wsX20, w ∈ lw_tbl := by decide +kernel
theorem inX3 : ∀ w ∈ wsX30, w ∈ lw_tbl := by decide +kernel
theorem inX4 : ∀ w ∈ wsX40, w ∈ lw_tbl := by decide +kernel
theorem inX5 : ∀ w ∈ wsX50, w ∈ lw_tbl := by decide +kernel
theorem inX6 : ∀ w ∈ wsX60, w ∈ lw_tbl := by decide +kernel
theorem inX7 : ∀ w ∈ wsX70, w ∈ lw_tbl := by decide +kernel
theorem inX8 : ∀ w ∈ wsX80, w ∈ lw_tbl := by decide +kernel
end
section
theorem dX0_init_0 : decode cX0_init 0 = .ok (.aload_n 0, 1) := by decide +kernel
theorem dX0_init_1 : decode cX0_init 1 = .ok (.invokespecial 3, 3) := by decide +kernel
theorem dX0_init_4 : decode cX0_init 4 = .ok (.aload_n 0, 1) := by decide +kernel
theorem dX0_init_5 : decode cX0_init 5 = .ok (.bipush 20, 2) := by decide +kernel
theorem dX0_init_7 : decode cX0_init 7 = .ok (.newarray .int, 2) := by decide +kernel
theorem dX0_init_9 : decode cX0_init 9 = .ok (.putfield 9, 3) := by decide +kernel
theorem dX0_init_12 : decode cX0_init 12 = .ok (.return_, 1) := by decide +kernel
theorem dX0_perform_0 : decode cX0_perform 0 = .ok (.aload_n 0, 1) := by decide +kernel
theorem dX0_perform_1 : decode cX0_perform 1 = .ok (.iload_n 1, 1) := by decide +kernel
theorem dX0_perform_2 : decode cX0_perform 2 = .ok (.putfield 15, 3) := by decide +kernel
theorem dX0_perform_5 : decode cX0_perform 5 = .ok (.aload_n 0, 1) := by decide +kernel
theorem dX0_perform_6 : decode cX0_perform 6 = .ok (.iload_n 2, 1) := by decide +kernel
theorem dX0_perform_7 : decode cX0_perform 7 = .ok (.putfield 19, 3) := by decide +kernel
theorem dX0_perform_10 : decode cX0_perform 10 = .ok (.aload_n 0, 1) := by decide +kernel
theorem dX0_perform_11 : decode cX0_perform 11 = .ok (.iload_n 3, 1) := by decide +kernel
theorem dX0_perform_12 : decode cX0_perform 12 = .ok (.putfield 22, 3) := by decide +kernel
theorem dX0_perform_15 : decode cX0_perform 15 = .ok (.iload 4, 2) := by decide +kernel
theorem dX0_perform_17 : decode cX0_perform 17 = .ok (.tableswitch 60 0 2 #[27, 38, 49], 27) := by decide +kernel
theorem dX0_perform_44 : decode cX0_perform 44 = .ok (.aload_n 0, 1) := by decide +kernel
theorem dX0_perform_45 : decode cX0_perform 45 = .ok (.aload_n 0, 1) := by decide +kernel
theorem dX0_perform_46 : decode cX0_perform 46 = .ok (.getfield 15, 3) := by decide +kernel
theorem dX0_perform_49 : decode cX0_perform 49 = .ok (.iload 5, 2) := by decide +kernel
theorem dX0_perform_51 : decode cX0_perform 51 = .ok (.invokevirtual 25, 3) := by decide +kernel
theorem dX0_perform_54 : decode cX0_perform 54 = .ok (.ireturn, 1) := by decide +kernel
theorem dX0_perform_55 : decode cX0_perform 55 = .ok (.aload_n 0, 1) := by decide +kernel
theorem dX0_perform_56 : decode cX0_perform 56 = .ok (.aload_n 0, 1) := by decide +kernel
theorem dX0_perform_57 : decode cX0_perform 57 = .ok (.getfield 15, 3) := by decide +kernel
theorem dX0_perform_60 : decode cX0_perform 60 = .ok (.iload 5, 2) := by decide +kernel
theorem dX0_perform_62 : decode cX0_perform 62 = .ok (.invokevirtual 29, 3) := by decide +kernel
theorem dX0_perform_65 : decode cX0_perform 65 = .ok (.ireturn, 1) := by decide +kernel
theorem dX0_perform_66 : decode cX0_perform 66 = .ok (.aload_n 0, 1) := by decide +kernel
theorem dX0_perform_67 : decode cX0_perform 67 = .ok (.aload_n 0, 1) := by decide +kernel
theorem dX0_perform_68 : decode cX0_perform 68 = .ok (.getfield 15, 3) := by decide +kernel
theorem dX0_perform_71 : decode cX0_perform 71 = .ok (.iload 5, 2) := by decide +kernel
theorem dX0_perform_73 : decode cX0_perform 73 = .ok (.invokevirtual 32, 3) := by decide +kernel
theorem dX0_perform_76 : decode cX0_perform 76 = .ok (.ireturn, 1) := by decide +kernel
theorem dX0_perform_77 : decode cX0_perform 77 = .ok (.iconst 0, 1) := by decide +kernel
theorem dX0_perform_78 : decode cX0_perform 78 = .ok (.ireturn, 1) := by decide +kernel
theorem dX0_begin_0 : decode cX0_begin 0 = .ok (.aload_n 0, 1) := by decide +kernel
theorem dX0_begin_1 : decode cX0_begin 1 = .ok (.getfield 35, 3) := by decide +kernel
theorem dX0_begin_4 : decode cX0_begin 4 = .ok (.bipush 20, 2) := by decide +kernel
theorem dX0_begin_6 : decode cX0_begin 6 = .ok (.if_icmp .ge 13, 3) := by decide +kernel
theorem dX0_begin_9 : decode cX0_begin 9 = .ok (.aload_n 0, 1) := by decide +kernel
theorem dX0_begin_10 : decode cX0_begin 10 = .ok (.getfield 9, 3) := by decide +kernel
theorem dX0_begin_13 : decode cX0_begin 13 = .ok (.aload_n 0, 1) := by decide +kernel
theorem dX0_begin_14 : decode cX0_begin 14 = .ok (.getfield 35, 3) := by decide +kernel
theorem dX0_begin_17 : decode cX0_begin 17 = .ok (.iload_n 1, 1) := by decide +kernel
theorem dX0_begin_18 : decode cX0_begin 18 = .ok (.iastore, 1) := by decide +kernel
theorem dX0_begin_19 : decode cX0_begin 19 = .ok (.aload_n 0, 1) := by decide +kernel
theorem dX0_begin_20 : decode cX0_begin 20 = .ok (.dup, 1) := by decide +kernel
theorem dX0_begin_21 : decode cX0_begin 21 = .ok (.getfield 35, 3) := by decide +kernel
theorem dX0_begin_24 : decode cX0_begin 24 = .ok (.iconst 1, 1) := by decide +kernel
theorem dX0_begin_25 : decode cX0_begin 25 = .ok (.iadd, 1) := by decide +kernel
theorem dX0_begin_26 : decode cX0_begin 26 = .ok (.putfield 35, 3) := by decide +kernel
theorem dX0_begin_29 : decode cX0_begin 29 = .ok (.return_, 1) := by decide +kernel
theorem dX0_creaks_0 : decode cX0_creaks 0 = .ok (.iload_n 1, 1) := by decide +kernel
theorem dX0_creaks_1 : decode cX0_creaks 1 = .ok (.tableswitch 82 2 6 #[67, 82, 53, 67, 35], 35) := by decide +kernel
theorem dX0_creaks_36 : decode cX0_creaks 36 = .ok (.aload_n 0, 1) := by decide +kernel
theorem dX0_creaks_37 : decode cX0_creaks 37 = .ok (.bipush 71, 2) := by decide +kernel
theorem dX0_creaks_39 : decode cX0_creaks 39 = .ok (.invokevirtual 38, 3) := by decide +kernel
theorem dX0_creaks_42 : decode cX0_creaks 42 = .ok (.aload_n 0, 1) := by decide +kernel
theorem dX0_creaks_43 : decode cX0_creaks 43 = .ok (.iconst 3, 1) := by decide +kernel
theorem dX0_creaks_44 : decode cX0_creaks 44 = .ok (.iload_n 2, 1) := by decide +kernel
theorem dX0_creaks_45 : decode cX0_creaks 45 = .ok (.invokevirtual 25, 3) := by decide +kernel
theorem dX0_creaks_48 : decode cX0_creaks 48 = .ok (.aload_n 0, 1) := by decide +kernel
theorem dX0_creaks_49 : decode cX0_creaks 49 = .ok (.getfield 22, 3) := by decide +kernel
theorem dX0_creaks_52 : decode cX0_creaks 52 = .ok (.ixor, 1) := by decide +kernel
theorem dX0_creaks_53 : decode cX0_creaks 53 = .ok (.ireturn, 1) := by decide +kernel
theorem dX0_creaks_54 : decode cX0_creaks 54 = .ok (.aload_n 0, 1) := by decide +kernel
theorem dX0_creaks_55 : decode cX0_creaks 55 = .ok (.bipush 50, 2) := by decide +kernel
theorem dX0_creaks_57 : decode cX0_creaks 57 = .ok (.invokevirtual 38, 3) := by decide +kernel
theorem dX0_creaks_60 : decode cX0_creaks 60 = .ok (.aload_n 0, 1) := by decide +kernel
theorem dX0_creaks_61 : decode cX0_creaks 61 = .ok (.iconst 1, 1) := by decide +kernel
theorem dX0_creaks_62 : decode cX0_creaks 62 = .ok (.iload_n 2, 1) := by decide +kernel
theorem dX0_creaks_63 : decode cX0_creaks 63 = .ok (.invokevirtual 25, 3) := by decide +kernel
theorem dX0_creaks_66 : decode cX0_creaks 66 = .ok (.ineg, 1) := by decide +kernel
theorem dX0_creaks_67 : decode cX0_creaks 67 = .ok (.ireturn, 1) := by decide +kernel
theorem dX0_creaks_68 : decode cX0_creaks 68 = .ok (.aload_n 0, 1) := by decide +kernel
theorem dX0_creaks_69 : decode cX0_creaks 69 = .ok (.bipush 30, 2) := by decide +kernel
theorem dX0_creaks_71 : decode cX0_creaks 71 = .ok (.invokevirtual 38, 3) := by decide +kernel
theorem dX0_creaks_74 : decode cX0_creaks 74 = .ok (.aload_n 0, 1) := by decide +kernel
theorem dX0_creaks_75 : decode cX0_creaks 75 = .ok (.iconst 0, 1) := by decide +kernel
theorem dX0_creaks_76 : decode cX0_creaks 76 = .ok (.iload_n 2, 1) := by decide +kernel
theorem dX0_creaks_77 : decode cX0_creaks 77 = .ok (.iconst 3, 1) := by decide +kernel
theorem dX0_creaks_78 : decode cX0_creaks 78 = .ok (.imul, 1) := by decide +kernel
theorem dX0_creaks_79 : decode cX0_creaks 79 = .ok (.invokevirtual 25, 3) := by decide +kernel
theorem dX0_creaks_82 : decode cX0_creaks 82 = .ok (.ireturn, 1) := by decide +kernel
theorem dX0_creaks_83 : decode cX0_creaks 83 = .ok (.aload_n 0, 1) := by decide +kernel
theorem dX0_creaks_84 : decode cX0_creaks 84 = .ok (.bipush 10, 2) := by decide +kernel
theorem dX0_creaks_86 : decode cX0_creaks 86 = .ok (.invokevirtual 38, 3) := by decide +kernel
theorem dX0_creaks_89 : decode cX0_creaks 89 = .ok (.iload_n 2, 1) := by decide +kernel
theorem dX0_creaks_90 : decode cX0_creaks 90 = .ok (.aload_n 0, 1) := by decide +kernel
theorem dX0_creaks_91 : decode cX0_creaks 91 = .ok (.getfield 19, 3) := by decide +kernel
theorem dX0_creaks_94 : decode cX0_creaks 94 = .ok (.iadd, 1) := by decide +kernel
theorem dX0_creaks_95 : decode cX0_creaks 95 = .ok (.ireturn, 1) := by decide +kernel
theorem dX0_rings_0 : decode cX0_rings 0 = .ok (.iload_n 1, 1) := by decide +kernel
theorem dX0_rings_1 : decode cX0_rings 1 = .ok (.lookupswitch 88 #[(1, 72), (4, 57), (6, 35)], 35) := by decide +kernel
theorem dX0_rings_36 : decode cX0_rings 36 = .ok (.aload_n 0, 1) := by decide +kernel
theorem dX0_rings_37 : decode cX0_rings 37 = .ok (.bipush 70, 2) := by decide +kernel
theorem dX0_rings_39 : decode cX0_rings 39 = .ok (.invokevirtual 38, 3) := by decide +kernel
theorem dX0_rings_42 : decode cX0_rings 42 = .ok (.aload_n 0, 1) := by decide +kernel
theorem dX0_rings_43 : decode cX0_rings 43 = .ok (.iconst 3, 1) := by decide +kernel
theorem dX0_rings_44 : decode cX0_rings 44 = .ok (.iload_n 2, 1) := by decide +kernel
theorem dX0_rings_45 : decode cX0_rings 45 = .ok (.invokevirtual 29, 3) := by decide +kernel
theorem dX0_rings_48 : decode cX0_rings 48 = .ok (.istore_n 3, 1) := by decide +kernel
theorem dX0_rings_49 : decode cX0_rings 49 = .ok (.iload_n 3, 1) := by decide +kernel
theorem dX0_rings_50 : decode cX0_rings 50 = .ok (.aload_n 0, 1) := by decide +kernel
theorem dX0_rings_51 : decode cX0_rings 51 = .ok (.iconst 3, 1) := by decide +kernel
theorem dX0_rings_52 : decode cX0_rings 52 = .ok (.iconst 2, 1) := by decide +kernel
theorem dX0_rings_53 : decode cX0_rings 53 = .ok (.invokevirtual 25, 3) := by decide +kernel
theorem dX0_rings_56 : decode cX0_rings 56 = .ok (.iadd, 1) := by decide +kernel
theorem dX0_rings_57 : decode cX0_rings 57 = .ok (.ireturn, 1) := by decide +kernel
theorem dX0_rings_58 : decode cX0_rings 58 = .ok (.aload_n 0, 1) := by decide +kernel
theorem dX0_rings_59 : decode cX0_rings 59 = .ok (.bipush 51, 2) := by decide +kernel
theorem dX0_rings_61 : decode cX0_rings 61 = .ok (.invokevirtual 38, 3) := by decide +kernel
theorem dX0_rings_64 : decode cX0_rings 64 = .ok (.aload_n 0, 1) := by decide +kernel
theorem dX0_rings_65 : decode cX0_rings 65 = .ok (.iconst 1, 1) := by decide +kernel
theorem dX0_rings_66 : decode cX0_rings 66 = .ok (.iload_n 2, 1) := by decide +kernel
theorem dX0_rings_67 : decode cX0_rings 67 = .ok (.iconst 1, 1) := by decide +kernel
theorem dX0_rings_68 : decode cX0_rings 68 = .ok (.iadd, 1) := by decide +kernel
theorem dX0_rings_69 : decode cX0_rings 69 = .ok (.invokevirtual 29, 3) := by decide +kernel
theorem dX0_rings_72 : decode cX0_rings 72 = .ok (.ireturn, 1) := by decide +kernel
theorem dX0_rings_73 : decode cX0_rings 73 = .ok (.aload_n 0, 1) := by decide +kernel
theorem dX0_rings_74 : decode cX0_rings 74 = .ok (.bipush 20, 2) := by decide +kernel
theorem dX0_rings_76 : decode cX0_rings 76 = .ok (.invokevirtual 38, 3) := by decide +kernel
theorem dX0_rings_79 : decode cX0_rings 79 = .ok (.aload_n 0, 1) := by decide +kernel
theorem dX0_rings_80 : decode cX0_rings 80 = .ok (.iconst 0, 1) := by decide +kernel
theorem dX0_rings_81 : decode cX0_rings 81 = .ok (.iload_n 2, 1) := by decide +kernel
theorem dX0_rings_82 : decode cX0_rings 82 = .ok (.invokevirtual 29, 3) := by decide +kernel
theorem dX0_rings_85 : decode cX0_rings 85 = .ok (.bipush 6, 2) := by decide +kernel
theorem dX0_rings_87 : decode cX0_rings 87 = .ok (.ixor, 1) := by decide +kernel
theorem dX0_rings_88 : decode cX0_rings 88 = .ok (.ireturn, 1) := by decide +kernel
theorem dX0_rings_89 : decode cX0_rings 89 = .ok (.aload_n 0, 1) := by decide +kernel
theorem dX0_rings_90 : decode cX0_rings 90 = .ok (.bipush 11, 2) := by decide +kernel
theorem dX0_rings_92 : decode cX0_rings 92 = .ok (.invokevirtual 38, 3) := by decide +kernel
theorem dX0_rings_95 : decode cX0_rings 95 = .ok (.aload_n 0, 1) := by decide +kernel
theorem dX0_rings_96 : decode cX0_rings 96 = .ok (.aload_n 0, 1) := by decide +kernel
theorem dX0_rings_97 : decode cX0_rings 97 = .ok (.getfield 15, 3) := by decide +kernel
theorem dX0_rings_100 : decode cX0_rings 100 = .ok (.iload_n 2, 1) := by decide +kernel
theorem dX0_rings_101 : decode cX0_rings 101 = .ok (.invokevirtual 25, 3) := by decide +kernel
theorem dX0_rings_104 : decode cX0_rings 104 = .ok (.aload_n 0, 1) := by decide +kernel
theorem dX0_rings_105 : decode cX0_rings 105 = .ok (.getfield 22, 3) := by decide +kernel
theorem dX0_rings_108 : decode cX0_rings 108 = .ok (.isub, 1) := by decide +kernel
theorem dX0_rings_109 : decode cX0_rings 109 = .ok (.ireturn, 1) := by decide +kernel
theorem dX0_tells_0 : decode cX0_tells 0 = .ok (.iload_n 1, 1) := by decide +kernel
theorem dX0_tells_1 : decode cX0_tells 1 = .ok (.tableswitch 74 3 6 #[49, 74, 31, 49], 31) := by decide +kernel
theorem dX0_tells_32 : decode cX0_tells 32 = .ok (.aload_n 0, 1) := by decide +kernel
theorem dX0_tells_33 : decode cX0_tells 33 = .ok (.bipush 60, 2) := by decide +kernel
theorem dX0_tells_35 : decode cX0_tells 35 = .ok (.invokevirtual 38, 3) := by decide +kernel
theorem dX0_tells_38 : decode cX0_tells 38 = .ok (.aload_n 0, 1) := by decide +kernel
theorem dX0_tells_39 : decode cX0_tells 39 = .ok (.iconst 2, 1) := by decide +kernel
theorem dX0_tells_40 : decode cX0_tells 40 = .ok (.iload_n 2, 1) := by decide +kernel
theorem dX0_tells_41 : decode cX0_tells 41 = .ok (.aload_n 0, 1) := by decide +kernel
theorem dX0_tells_42 : decode cX0_tells 42 = .ok (.getfield 19, 3) := by decide +kernel
theorem dX0_tells_45 : decode cX0_tells 45 = .ok (.isub, 1) := by decide +kernel
theorem dX0_tells_46 : decode cX0_tells 46 = .ok (.invokevirtual 32, 3) := by decide +kernel
theorem dX0_tells_49 : decode cX0_tells 49 = .ok (.ireturn, 1) := by decide +kernel
theorem dX0_tells_50 : decode cX0_tells 50 = .ok (.aload_n 0, 1) := by decide +kernel
theorem dX0_tells_51 : decode cX0_tells 51 = .ok (.bipush 40, 2) := by decide +kernel
theorem dX0_tells_53 : decode cX0_tells 53 = .ok (.invokevirtual 38, 3) := by decide +kernel
theorem dX0_tells_56 : decode cX0_tells 56 = .ok (.aload_n 0, 1) := by decide +kernel
theorem dX0_tells_57 : decode cX0_tells 57 = .ok (.iconst 0, 1) := by decide +kernel
theorem dX0_tells_58 : decode cX0_tells 58 = .ok (.iload_n 2, 1) := by decide +kernel
theorem dX0_tells_59 : decode cX0_tells 59 = .ok (.invokevirtual 32, 3) := by decide +kernel
theorem dX0_tells_62 : decode cX0_tells 62 = .ok (.istore_n 3, 1) := by decide +kernel
theorem dX0_tells_63 : decode cX0_tells 63 = .ok (.iload_n 3, 1) := by decide +kernel
theorem dX0_tells_64 : decode cX0_tells 64 = .ok (.aload_n 0, 1) := by decide +kernel
theorem dX0_tells_65 : decode cX0_tells 65 = .ok (.aload_n 0, 1) := by decide +kernel
theorem dX0_tells_66 : decode cX0_tells 66 = .ok (.getfield 15, 3) := by decide +kernel
theorem dX0_tells_69 : decode cX0_tells 69 = .ok (.iconst 1, 1) := by decide +kernel
theorem dX0_tells_70 : decode cX0_tells 70 = .ok (.invokevirtual 29, 3) := by decide +kernel
theorem dX0_tells_73 : decode cX0_tells 73 = .ok (.iadd, 1) := by decide +kernel
theorem dX0_tells_74 : decode cX0_tells 74 = .ok (.ireturn, 1) := by decide +kernel
theorem dX0_tells_75 : decode cX0_tells 75 = .ok (.aload_n 0, 1) := by decide +kernel
theorem dX0_tells_76 : decode cX0_tells 76 = .ok (.bipush 12, 2) := by decide +kernel
theorem dX0_tells_78 : decode cX0_tells 78 = .ok (.invokevirtual 38, 3) := by decide +kernel
theorem dX0_tells_81 : decode cX0_tells 81 = .ok (.aload_n 0, 1) := by decide +kernel
theorem dX0_tells_82 : decode cX0_tells 82 = .ok (.aload_n 0, 1) := by decide +kernel
theorem dX0_tells_83 : decode cX0_tells 83 = .ok (.getfield 15, 3) := by decide +kernel
theorem dX0_tells_86 : decode cX0_tells 86 = .ok (.iload_n 2, 1) := by decide +kernel
theorem dX0_tells_87 : decode cX0_tells 87 = .ok (.invokevirtual 29, 3) := by decide +kernel
theorem dX0_tells_90 : decode cX0_tells 90 = .ok (.iconst 2, 1) := by decide +kernel
theorem dX0_tells_91 : decode cX0_tells 91 = .ok (.imul, 1) := by decide +kernel
theorem dX0_tells_92 : decode cX0_tells 92 = .ok (.ireturn, 1) := by decide +kernel
theorem dX1_init_0 : decode cX1_init 0 = .ok (.aload_n 0, 1) := by decide +kernel
theorem dX1_init_1 : decode cX1_init 1 = .ok (.invokespecial 3, 3) := by decide +kernel
theorem dX1_init_4 : decode cX1_init 4 = .ok (.aload_n 0, 1) := by decide +kernel
theorem dX1_init_5 : decode cX1_init 5 = .ok (.bipush 6, 2) := by decide +kernel
theorem dX1_init_7 : decode cX1_init 7 = .ok (.newarray .int, 2) := by decide +kernel
theorem dX1_init_9 : decode cX1_init 9 = .ok (.putfield 9, 3) := by decide +kernel
theorem dX1_init_12 : decode cX1_init 12 = .ok (.aload_n 0, 1) := by decide +kernel
theorem dX1_init_13 : decode cX1_init 13 = .ok (.bipush 6, 2) := by decide +kernel
theorem dX1_init_15 : decode cX1_init 15 = .ok (.newarray .int, 2) := by decide +kernel
theorem dX1_init_17 : decode cX1_init 17 = .ok (.putfield 15, 3) := by decide +kernel
theorem dX1_init_20 : decode cX1_init 20 = .ok (.aload_n 0, 1) := by decide +kernel
theorem dX1_init_21 : decode cX1_init 21 = .ok (.bipush 6, 2) := by decide +kernel
theorem dX1_init_23 : decode cX1_init 23 = .ok (.newarray .int, 2) := by decide +kernel
theorem dX1_init_25 : decode cX1_init 25 = .ok (.putfield 18, 3) := by decide +kernel
theorem dX1_init_28 : decode cX1_init 28 = .ok (.aload_n 0, 1) := by decide +kernel
theorem dX1_init_29 : decode cX1_init 29 = .ok (.bipush 6, 2) := by decide +kernel
theorem dX1_init_31 : decode cX1_init 31 = .ok (.newarray .int, 2) := by decide +kernel
theorem dX1_init_33 : decode cX1_init 33 = .ok (.putfield 21, 3) := by decide +kernel
theorem dX1_init_36 : decode cX1_init 36 = .ok (.aload_n 0, 1) := by decide +kernel
theorem dX1_init_37 : decode cX1_init 37 = .ok (.bipush 24, 2) := by decide +kernel
theorem dX1_init_39 : decode cX1_init 39 = .ok (.newarray .int, 2) := by decide +kernel
theorem dX1_init_41 : decode cX1_init 41 = .ok (.putfield 24, 3) := by decide +kernel
theorem dX1_init_44 : decode cX1_init 44 = .ok (.aload_n 0, 1) := by decide +kernel
theorem dX1_init_45 : decode cX1_init 45 = .ok (.new 27, 3) := by decide +kernel
theorem dX1_init_48 : decode cX1_init 48 = .ok (.dup, 1) := by decide +kernel
theorem dX1_init_49 : decode cX1_init 49 = .ok (.iconst 5, 1) := by decide +kernel
theorem dX1_init_50 : decode cX1_init 50 = .ok (.invokespecial 29, 3) := by decide +kernel
theorem dX1_init_53 : decode cX1_init 53 = .ok (.putfield 32, 3) := by decide +kernel
theorem dX1_init_56 : decode cX1_init 56 = .ok (.aload_n 0, 1) := by decide +kernel
theorem dX1_init_57 : decode cX1_init 57 = .ok (.new 27, 3) := by decide +kernel
theorem dX1_init_60 : decode cX1_init 60 = .ok (.dup, 1) := by decide +kernel
theorem dX1_init_61 : decode cX1_init 61 = .ok (.bipush 10, 2) := by decide +kernel
theorem dX1_init_63 : decode cX1_init 63 = .ok (.invokespecial 29, 3) := by decide +kernel
theorem dX1_init_66 : decode cX1_init 66 = .ok (.putfield 36, 3) := by decide +kernel
theorem dX1_init_69 : decode cX1_init 69 = .ok (.aload_n 0, 1) := by decide +kernel
theorem dX1_init_70 : decode cX1_init 70 = .ok (.new 27, 3) := by decide +kernel
theorem dX1_init_73 : decode cX1_init 73 = .ok (.dup, 1) := by decide +kernel
theorem dX1_init_74 : decode cX1_init 74 = .ok (.bipush 8, 2) := by decide +kernel
theorem dX1_init_76 : decode cX1_init 76 = .ok (.invokespecial 29, 3) := by decide +kernel
theorem dX1_init_79 : decode cX1_init 79 = .ok (.putfield 39, 3) := by decide +kernel
theorem dX1_init_82 : decode cX1_init 82 = .ok (.aload_n 0, 1) := by decide +kernel
theorem dX1_init_83 : decode cX1_init 83 = .ok (.bipush 6, 2) := by decide +kernel
theorem dX1_init_85 : decode cX1_init 85 = .ok (.newarray .int, 2) := by decide +kernel
theorem dX1_init_87 : decode cX1_init 87 = .ok (.putfield 44, 3) := by decide +kernel
theorem dX1_init_90 : decode cX1_init 90 = .ok (.aload_n 0, 1) := by decide +kernel
theorem dX1_init_91 : decode cX1_init 91 = .ok (.aload_n 1, 1) := by decide +kernel
theorem dX1_init_92 : decode cX1_init 92 = .ok (.putfield 47, 3) := by decide +kernel
theorem dX1_init_95 : decode cX1_init 95 = .ok (.return_, 1) := by decide +kernel
theorem dX1_has_0 : decode cX1_has 0 = .ok (.iload_n 1, 1) := by decide +kernel
theorem dX1_has_1 : decode cX1_has 1 = .ok (.ifCond .lt 15, 3) := by decide +kernel
theorem dX1_has_4 : decode cX1_has 4 = .ok (.iload_n 1, 1) := by decide +kernel
theorem dX1_has_5 : decode cX1_has 5 = .ok (.aload_n 0, 1) := by decide +kernel
theorem dX1_has_6 : decode cX1_has 6 = .ok (.getfield 51, 3) := by decide +kernel
theorem dX1_has_9 : decode cX1_has 9 = .ok (.if_icmp .ge 7, 3) := by decide +kernel
theorem dX1_has_12 : decode cX1_has 12 = .ok (.iconst 1, 1) := by decide +kernel
theorem dX1_has_13 : decode cX1_has 13 = .ok (.goto 4, 3) := by decide +kernel
theorem dX1_has_16 : decode cX1_has 16 = .ok (.iconst 0, 1) := by decide +kernel
theorem dX1_has_17 : decode cX1_has 17 = .ok (.ireturn, 1) := by decide +kernel
theorem dX1_isLost_0 : decode cX1_isLost 0 = .ok (.aload_n 0, 1) := by decide +kernel
theorem dX1_isLost_1 : decode cX1_isLost 1 = .ok (.getfield 21, 3) := by decide +kernel
theorem dX1_isLost_4 : decode cX1_isLost 4 = .ok (.iload_n 1, 1) := by decide +kernel
theorem dX1_isLost_5 : decode cX1_isLost 5 = .ok (.iaload, 1) := by decide +kernel
theorem dX1_isLost_6 : decode cX1_isLost 6 = .ok (.iconst (-1), 1) := by decide +kernel
theorem dX1_isLost_7 : decode cX1_isLost 7 = .ok (.if_icmp .ne 7, 3) := by decide +kernel
theorem dX1_isLost_10 : decode cX1_isLost 10 = .ok (.iconst 1, 1) := by decide +kernel
theorem dX1_isLost_11 : decode cX1_isLost 11 = .ok (.goto 4, 3) := by decide +kernel
theorem dX1_isLost_14 : decode cX1_isLost 14 = .ok (.iconst 0, 1) := by decide +kernel
theorem dX1_isLost_15 : decode cX1_isLost 15 = .ok (.ireturn, 1) := by decide +kernel
theorem dX1_come_0 : decode cX1_come 0 = .ok (.aload_n 0, 1) := by decide +kernel
theorem dX1_come_1 : decode cX1_come 1 = .ok (.getfield 9, 3) := by decide +kernel
theorem dX1_come_4 : decode cX1_come 4 = .ok (.aload_n 0, 1) := by decide +kernel
theorem dX1_come_5 : decode cX1_come 5 = .ok (.getfield 51, 3) := by decide +kernel
theorem dX1_come_8 : decode cX1_come 8 = .ok (.iload_n 1, 1) := by decide +kernel
theorem dX1_come_9 : decode cX1_come 9 = .ok (.iastore, 1) := by decide +kernel
theorem dX1_come_10 : decode cX1_come 10 = .ok (.aload_n 0, 1) := by decide +kernel
theorem dX1_come_11 : decode cX1_come 11 = .ok (.getfield 15, 3) := by decide +kernel
theorem dX1_come_14 : decode cX1_come 14 = .ok (.aload_n 0, 1) := by decide +kernel
theorem dX1_come_15 : decode cX1_come 15 = .ok (.getfield 51, 3) := by decide +kernel
theorem dX1_come_18 : decode cX1_come 18 = .ok (.iload_n 2, 1) := by decide +kernel
theorem dX1_come_19 : decode cX1_come 19 = .ok (.iastore, 1) := by decide +kernel
theorem dX1_come_20 : decode cX1_come 20 = .ok (.aload_n 0, 1) := by decide +kernel
theorem dX1_come_21 : decode cX1_come 21 = .ok (.getfield 18, 3) := by decide +kernel
theorem dX1_come_24 : decode cX1_come 24 = .ok (.aload_n 0, 1) := by decide +kernel
theorem dX1_come_25 : decode cX1_come 25 = .ok (.getfield 51, 3) := by decide +kernel
theorem dX1_come_28 : decode cX1_come 28 = .ok (.iload_n 3, 1) := by decide +kernel
theorem dX1_come_29 : decode cX1_come 29 = .ok (.iastore, 1) := by decide +kernel
theorem dX1_come_30 : decode cX1_come 30 = .ok (.aload_n 0, 1) := by decide +kernel
theorem dX1_come_31 : decode cX1_come 31 = .ok (.getfield 21, 3) := by decide +kernel
theorem dX1_come_34 : decode cX1_come 34 = .ok (.aload_n 0, 1) := by decide +kernel
theorem dX1_come_35 : decode cX1_come 35 = .ok (.getfield 51, 3) := by decide +kernel
theorem dX1_come_38 : decode cX1_come 38 = .ok (.iload 4, 2) := by decide +kernel
theorem dX1_come_40 : decode cX1_come 40 = .ok (.iastore, 1) := by decide +kernel
theorem dX1_come_41 : decode cX1_come 41 = .ok (.aload_n 0, 1) := by decide +kernel
theorem dX1_come_42 : decode cX1_come 42 = .ok (.dup, 1) := by decide +kernel
theorem dX1_come_43 : decode cX1_come 43 = .ok (.getfield 51, 3) := by decide +kernel
theorem dX1_come_46 : decode cX1_come 46 = .ok (.iconst 1, 1) := by decide +kernel
theorem dX1_come_47 : decode cX1_come 47 = .ok (.iadd, 1) := by decide +kernel
theorem dX1_come_48 : decode cX1_come 48 = .ok (.putfield 51, 3) := by decide +kernel
theorem dX1_come_51 : decode cX1_come 51 = .ok (.aload_n 0, 1) := by decide +kernel
theorem dX1_come_52 : decode cX1_come 52 = .ok (.getfield 51, 3) := by decide +kernel
theorem dX1_come_55 : decode cX1_come 55 = .ok (.iconst 1, 1) := by decide +kernel
theorem dX1_come_56 : decode cX1_come 56 = .ok (.isub, 1) := by decide +kernel
theorem dX1_come_57 : decode cX1_come 57 = .ok (.ireturn, 1) := by decide +kernel
theorem dX1_takeSounds_0 : decode cX1_takeSounds 0 = .ok (.aload_n 0, 1) := by decide +kernel
theorem dX1_takeSounds_1 : decode cX1_takeSounds 1 = .ok (.aload_n 1, 1) := by decide +kernel
theorem dX1_takeSounds_2 : decode cX1_takeSounds 2 = .ok (.getfield 51, 3) := by decide +kernel
theorem dX1_takeSounds_5 : decode cX1_takeSounds 5 = .ok (.putfield 51, 3) := by decide +kernel
theorem dX1_takeSounds_8 : decode cX1_takeSounds 8 = .ok (.aload_n 1, 1) := by decide +kernel
theorem dX1_takeSounds_9 : decode cX1_takeSounds 9 = .ok (.getfield 9, 3) := by decide +kernel
theorem dX1_takeSounds_12 : decode cX1_takeSounds 12 = .ok (.iconst 0, 1) := by decide +kernel
theorem dX1_takeSounds_13 : decode cX1_takeSounds 13 = .ok (.aload_n 0, 1) := by decide +kernel
theorem dX1_takeSounds_14 : decode cX1_takeSounds 14 = .ok (.getfield 9, 3) := by decide +kernel
theorem dX1_takeSounds_17 : decode cX1_takeSounds 17 = .ok (.iconst 0, 1) := by decide +kernel
theorem dX1_takeSounds_18 : decode cX1_takeSounds 18 = .ok (.bipush 6, 2) := by decide +kernel
theorem dX1_takeSounds_20 : decode cX1_takeSounds 20 = .ok (.invokestatic 55, 3) := by decide +kernel
theorem dX1_takeSounds_23 : decode cX1_takeSounds 23 = .ok (.aload_n 1, 1) := by decide +kernel
theorem dX1_takeSounds_24 : decode cX1_takeSounds 24 = .ok (.getfield 15, 3) := by decide +kernel
theorem dX1_takeSounds_27 : decode cX1_takeSounds 27 = .ok (.iconst 0, 1) := by decide +kernel
theorem dX1_takeSounds_28 : decode cX1_takeSounds 28 = .ok (.aload_n 0, 1) := by decide +kernel
theorem dX1_takeSounds_29 : decode cX1_takeSounds 29 = .ok (.getfield 15, 3) := by decide +kernel
theorem dX1_takeSounds_32 : decode cX1_takeSounds 32 = .ok (.iconst 0, 1) := by decide +kernel
theorem dX1_takeSounds_33 : decode cX1_takeSounds 33 = .ok (.bipush 6, 2) := by decide +kernel
theorem dX1_takeSounds_35 : decode cX1_takeSounds 35 = .ok (.invokestatic 55, 3) := by decide +kernel
theorem dX1_takeSounds_38 : decode cX1_takeSounds 38 = .ok (.aload_n 1, 1) := by decide +kernel
theorem dX1_takeSounds_39 : decode cX1_takeSounds 39 = .ok (.getfield 18, 3) := by decide +kernel
theorem dX1_takeSounds_42 : decode cX1_takeSounds 42 = .ok (.iconst 0, 1) := by decide +kernel
theorem dX1_takeSounds_43 : decode cX1_takeSounds 43 = .ok (.aload_n 0, 1) := by decide +kernel
theorem dX1_takeSounds_44 : decode cX1_takeSounds 44 = .ok (.getfield 18, 3) := by decide +kernel
theorem dX1_takeSounds_47 : decode cX1_takeSounds 47 = .ok (.iconst 0, 1) := by decide +kernel
theorem dX1_takeSounds_48 : decode cX1_takeSounds 48 = .ok (.bipush 6, 2) := by decide +kernel
theorem dX1_takeSounds_50 : decode cX1_takeSounds 50 = .ok (.invokestatic 55, 3) := by decide +kernel
theorem dX1_takeSounds_53 : decode cX1_takeSounds 53 = .ok (.aload_n 1, 1) := by decide +kernel
theorem dX1_takeSounds_54 : decode cX1_takeSounds 54 = .ok (.getfield 21, 3) := by decide +kernel
theorem dX1_takeSounds_57 : decode cX1_takeSounds 57 = .ok (.iconst 0, 1) := by decide +kernel
theorem dX1_takeSounds_58 : decode cX1_takeSounds 58 = .ok (.aload_n 0, 1) := by decide +kernel
theorem dX1_takeSounds_59 : decode cX1_takeSounds 59 = .ok (.getfield 21, 3) := by decide +kernel
theorem dX1_takeSounds_62 : decode cX1_takeSounds 62 = .ok (.iconst 0, 1) := by decide +kernel
theorem dX1_takeSounds_63 : decode cX1_takeSounds 63 = .ok (.bipush 6, 2) := by decide +kernel
theorem dX1_takeSounds_65 : decode cX1_takeSounds 65 = .ok (.invokestatic 55, 3) := by decide +kernel
theorem dX1_takeSounds_68 : decode cX1_takeSounds 68 = .ok (.aload_n 1, 1) := by decide +kernel
theorem dX1_takeSounds_69 : decode cX1_takeSounds 69 = .ok (.getfield 24, 3) := by decide +kernel
theorem dX1_takeSounds_72 : decode cX1_takeSounds 72 = .ok (.iconst 0, 1) := by decide +kernel
theorem dX1_takeSounds_73 : decode cX1_takeSounds 73 = .ok (.aload_n 0, 1) := by decide +kernel
theorem dX1_takeSounds_74 : decode cX1_takeSounds 74 = .ok (.getfield 24, 3) := by decide +kernel
theorem dX1_takeSounds_77 : decode cX1_takeSounds 77 = .ok (.iconst 0, 1) := by decide +kernel
theorem dX1_takeSounds_78 : decode cX1_takeSounds 78 = .ok (.bipush 24, 2) := by decide +kernel
theorem dX1_takeSounds_80 : decode cX1_takeSounds 80 = .ok (.invokestatic 55, 3) := by decide +kernel
theorem dX1_takeSounds_83 : decode cX1_takeSounds 83 = .ok (.aload_n 0, 1) := by decide +kernel
theorem dX1_takeSounds_84 : decode cX1_takeSounds 84 = .ok (.aload_n 1, 1) := by decide +kernel
theorem dX1_takeSounds_85 : decode cX1_takeSounds 85 = .ok (.getfield 61, 3) := by decide +kernel
theorem dX1_takeSounds_88 : decode cX1_takeSounds 88 = .ok (.putfield 61, 3) := by decide +kernel
theorem dX1_takeSounds_91 : decode cX1_takeSounds 91 = .ok (.aload_n 0, 1) := by decide +kernel
theorem dX1_takeSounds_92 : decode cX1_takeSounds 92 = .ok (.aload_n 1, 1) := by decide +kernel
theorem dX1_takeSounds_93 : decode cX1_takeSounds 93 = .ok (.getfield 47, 3) := by decide +kernel
theorem dX1_takeSounds_96 : decode cX1_takeSounds 96 = .ok (.putfield 47, 3) := by decide +kernel
theorem dX1_takeSounds_99 : decode cX1_takeSounds 99 = .ok (.return_, 1) := by decide +kernel
theorem dX1_takeAll_0 : decode cX1_takeAll 0 = .ok (.aload_n 0, 1) := by decide +kernel
theorem dX1_takeAll_1 : decode cX1_takeAll 1 = .ok (.aload_n 1, 1) := by decide +kernel
theorem dX1_takeAll_2 : decode cX1_takeAll 2 = .ok (.invokevirtual 64, 3) := by decide +kernel
theorem dX1_takeAll_5 : decode cX1_takeAll 5 = .ok (.aload_n 0, 1) := by decide +kernel
theorem dX1_takeAll_6 : decode cX1_takeAll 6 = .ok (.getfield 32, 3) := by decide +kernel
theorem dX1_takeAll_9 : decode cX1_takeAll 9 = .ok (.aload_n 1, 1) := by decide +kernel
theorem dX1_takeAll_10 : decode cX1_takeAll 10 = .ok (.getfield 32, 3) := by decide +kernel
theorem dX1_takeAll_13 : decode cX1_takeAll 13 = .ok (.invokevirtual 68, 3) := by decide +kernel
theorem dX1_takeAll_16 : decode cX1_takeAll 16 = .ok (.aload_n 0, 1) := by decide +kernel
theorem dX1_takeAll_17 : decode cX1_takeAll 17 = .ok (.getfield 36, 3) := by decide +kernel
theorem dX1_takeAll_20 : decode cX1_takeAll 20 = .ok (.aload_n 1, 1) := by decide +kernel
theorem dX1_takeAll_21 : decode cX1_takeAll 21 = .ok (.getfield 36, 3) := by decide +kernel
theorem dX1_takeAll_24 : decode cX1_takeAll 24 = .ok (.invokevirtual 68, 3) := by decide +kernel
theorem dX1_takeAll_27 : decode cX1_takeAll 27 = .ok (.aload_n 0, 1) := by decide +kernel
theorem dX1_takeAll_28 : decode cX1_takeAll 28 = .ok (.getfield 39, 3) := by decide +kernel
theorem dX1_takeAll_31 : decode cX1_takeAll 31 = .ok (.aload_n 1, 1) := by decide +kernel
theorem dX1_takeAll_32 : decode cX1_takeAll 32 = .ok (.getfield 39, 3) := by decide +kernel
theorem dX1_takeAll_35 : decode cX1_takeAll 35 = .ok (.invokevirtual 68, 3) := by decide +kernel
theorem dX1_takeAll_38 : decode cX1_takeAll 38 = .ok (.return_, 1) := by decide +kernel
theorem dX1_wears_0 : decode cX1_wears 0 = .ok (.aload_n 0, 1) := by decide +kernel
theorem dX1_wears_1 : decode cX1_wears 1 = .ok (.getfield 9, 3) := by decide +kernel
theorem dX1_wears_4 : decode cX1_wears 4 = .ok (.iload_n 1, 1) := by decide +kernel
theorem dX1_wears_5 : decode cX1_wears 5 = .ok (.iaload, 1) := by decide +kernel
theorem dX1_wears_6 : decode cX1_wears 6 = .ok (.lookupswitch 65 #[(1, 34), (4, 34), (6, 44)], 34) := by decide +kernel
theorem dX1_wears_40 : decode cX1_wears 40 = .ok (.aload_n 0, 1) := by decide +kernel
theorem dX1_wears_41 : decode cX1_wears 41 = .ok (.getfield 47, 3) := by decide +kernel
theorem dX1_wears_44 : decode cX1_wears 44 = .ok (.getfield 72, 3) := by decide +kernel
theorem dX1_wears_47 : decode cX1_wears 47 = .ok (.iconst 2, 1) := by decide +kernel
theorem dX1_wears_48 : decode cX1_wears 48 = .ok (.idiv, 1) := by decide +kernel
theorem dX1_wears_49 : decode cX1_wears 49 = .ok (.ireturn, 1) := by decide +kernel
theorem dX1_wears_50 : decode cX1_wears 50 = .ok (.aload_n 0, 1) := by decide +kernel
theorem dX1_wears_51 : decode cX1_wears 51 = .ok (.getfield 61, 3) := by decide +kernel
theorem dX1_wears_54 : decode cX1_wears 54 = .ok (.iconst 2, 1) := by decide +kernel
theorem dX1_wears_55 : decode cX1_wears 55 = .ok (.irem, 1) := by decide +kernel
theorem dX1_wears_56 : decode cX1_wears 56 = .ok (.ifCond .ne 7, 3) := by decide +kernel
theorem dX1_wears_59 : decode cX1_wears 59 = .ok (.iconst 0, 1) := by decide +kernel
theorem dX1_wears_60 : decode cX1_wears 60 = .ok (.goto 10, 3) := by decide +kernel
theorem dX1_wears_63 : decode cX1_wears 63 = .ok (.aload_n 0, 1) := by decide +kernel
theorem dX1_wears_64 : decode cX1_wears 64 = .ok (.getfield 47, 3) := by decide +kernel
theorem dX1_wears_67 : decode cX1_wears 67 = .ok (.getfield 72, 3) := by decide +kernel
theorem dX1_wears_70 : decode cX1_wears 70 = .ok (.ireturn, 1) := by decide +kernel
theorem dX1_wears_71 : decode cX1_wears 71 = .ok (.aload_n 0, 1) := by decide +kernel
theorem dX1_wears_72 : decode cX1_wears 72 = .ok (.getfield 47, 3) := by decide +kernel
theorem dX1_wears_75 : decode cX1_wears 75 = .ok (.getfield 72, 3) := by decide +kernel
theorem dX1_wears_78 : decode cX1_wears 78 = .ok (.ireturn, 1) := by decide +kernel
theorem dX1_goYears_0 : decode cX1_goYears 0 = .ok (.iconst 0, 1) := by decide +kernel
theorem dX1_goYears_1 : decode cX1_goYears 1 = .ok (.istore_n 2, 1) := by decide +kernel
theorem dX1_goYears_2 : decode cX1_goYears 2 = .ok (.iload_n 2, 1) := by decide +kernel
theorem dX1_goYears_3 : decode cX1_goYears 3 = .ok (.iload_n 1, 1) := by decide +kernel
theorem dX1_goYears_4 : decode cX1_goYears 4 = .ok (.if_icmp .ge 65, 3) := by decide +kernel
theorem dX1_goYears_7 : decode cX1_goYears 7 = .ok (.iconst 0, 1) := by decide +kernel
theorem dX1_goYears_8 : decode cX1_goYears 8 = .ok (.istore_n 3, 1) := by decide +kernel
theorem dX1_goYears_9 : decode cX1_goYears 9 = .ok (.iload_n 3, 1) := by decide +kernel
theorem dX1_goYears_10 : decode cX1_goYears 10 = .ok (.aload_n 0, 1) := by decide +kernel
theorem dX1_goYears_11 : decode cX1_goYears 11 = .ok (.getfield 51, 3) := by decide +kernel
theorem dX1_goYears_14 : decode cX1_goYears 14 = .ok (.if_icmp .ge 39, 3) := by decide +kernel
theorem dX1_goYears_17 : decode cX1_goYears 17 = .ok (.aload_n 0, 1) := by decide +kernel
theorem dX1_goYears_18 : decode cX1_goYears 18 = .ok (.iload_n 3, 1) := by decide +kernel
theorem dX1_goYears_19 : decode cX1_goYears 19 = .ok (.invokevirtual 75, 3) := by decide +kernel
theorem dX1_goYears_22 : decode cX1_goYears 22 = .ok (.ifCond .ne 25, 3) := by decide +kernel
theorem dX1_goYears_25 : decode cX1_goYears 25 = .ok (.aload_n 0, 1) := by decide +kernel
theorem dX1_goYears_26 : decode cX1_goYears 26 = .ok (.getfield 18, 3) := by decide +kernel
theorem dX1_goYears_29 : decode cX1_goYears 29 = .ok (.iload_n 3, 1) := by decide +kernel
theorem dX1_goYears_30 : decode cX1_goYears 30 = .ok (.iconst 0, 1) := by decide +kernel
theorem dX1_goYears_31 : decode cX1_goYears 31 = .ok (.aload_n 0, 1) := by decide +kernel
theorem dX1_goYears_32 : decode cX1_goYears 32 = .ok (.getfield 18, 3) := by decide +kernel
theorem dX1_goYears_35 : decode cX1_goYears 35 = .ok (.iload_n 3, 1) := by decide +kernel
theorem dX1_goYears_36 : decode cX1_goYears 36 = .ok (.iaload, 1) := by decide +kernel
theorem dX1_goYears_37 : decode cX1_goYears 37 = .ok (.aload_n 0, 1) := by decide +kernel
theorem dX1_goYears_38 : decode cX1_goYears 38 = .ok (.iload_n 3, 1) := by decide +kernel
theorem dX1_goYears_39 : decode cX1_goYears 39 = .ok (.invokevirtual 79, 3) := by decide +kernel
theorem dX1_goYears_42 : decode cX1_goYears 42 = .ok (.isub, 1) := by decide +kernel
theorem dX1_goYears_43 : decode cX1_goYears 43 = .ok (.invokestatic 83, 3) := by decide +kernel
theorem dX1_goYears_46 : decode cX1_goYears 46 = .ok (.iastore, 1) := by decide +kernel
theorem dX1_goYears_47 : decode cX1_goYears 47 = .ok (.iinc 3 1, 3) := by decide +kernel
theorem dX1_goYears_50 : decode cX1_goYears 50 = .ok (.goto (-41), 3) := by decide +kernel
theorem dX1_goYears_53 : decode cX1_goYears 53 = .ok (.aload_n 0, 1) := by decide +kernel
theorem dX1_goYears_54 : decode cX1_goYears 54 = .ok (.dup, 1) := by decide +kernel
theorem dX1_goYears_55 : decode cX1_goYears 55 = .ok (.getfield 61, 3) := by decide +kernel
theorem dX1_goYears_58 : decode cX1_goYears 58 = .ok (.iconst 1, 1) := by decide +kernel
theorem dX1_goYears_59 : decode cX1_goYears 59 = .ok (.iadd, 1) := by decide +kernel
theorem dX1_goYears_60 : decode cX1_goYears 60 = .ok (.putfield 61, 3) := by decide +kernel
theorem dX1_goYears_63 : decode cX1_goYears 63 = .ok (.iinc 2 1, 3) := by decide +kernel
theorem dX1_goYears_66 : decode cX1_goYears 66 = .ok (.goto (-64), 3) := by decide +kernel
theorem dX1_goYears_69 : decode cX1_goYears 69 = .ok (.return_, 1) := by decide +kernel
theorem dX1_go_0 : decode cX1_go 0 = .ok (.iload_n 1, 1) := by decide +kernel
theorem dX1_go_1 : decode cX1_go 1 = .ok (.ifCond .ne 11, 3) := by decide +kernel
theorem dX1_go_4 : decode cX1_go 4 = .ok (.aload_n 0, 1) := by decide +kernel
theorem dX1_go_5 : decode cX1_go 5 = .ok (.iconst 1, 1) := by decide +kernel
theorem dX1_go_6 : decode cX1_go 6 = .ok (.invokevirtual 89, 3) := by decide +kernel
theorem dX1_go_9 : decode cX1_go 9 = .ok (.goto 86, 3) := by decide +kernel
theorem dX1_go_12 : decode cX1_go 12 = .ok (.aload_n 0, 1) := by decide +kernel
theorem dX1_go_13 : decode cX1_go 13 = .ok (.iload_n 2, 1) := by decide +kernel
theorem dX1_go_14 : decode cX1_go 14 = .ok (.invokevirtual 92, 3) := by decide +kernel
theorem dX1_go_17 : decode cX1_go 17 = .ok (.ifCond .eq 78, 3) := by decide +kernel
theorem dX1_go_20 : decode cX1_go 20 = .ok (.aload_n 0, 1) := by decide +kernel
theorem dX1_go_21 : decode cX1_go 21 = .ok (.iload_n 2, 1) := by decide +kernel
theorem dX1_go_22 : decode cX1_go 22 = .ok (.invokevirtual 75, 3) := by decide +kernel
theorem dX1_go_25 : decode cX1_go 25 = .ok (.ifCond .ne 70, 3) := by decide +kernel
theorem dX1_go_28 : decode cX1_go 28 = .ok (.iload_n 1, 1) := by decide +kernel
theorem dX1_go_29 : decode cX1_go 29 = .ok (.iconst 1, 1) := by decide +kernel
theorem dX1_go_30 : decode cX1_go 30 = .ok (.if_icmp .ne 13, 3) := by decide +kernel
theorem dX1_go_33 : decode cX1_go 33 = .ok (.aload_n 0, 1) := by decide +kernel
theorem dX1_go_34 : decode cX1_go 34 = .ok (.getfield 21, 3) := by decide +kernel
theorem dX1_go_37 : decode cX1_go 37 = .ok (.iload_n 2, 1) := by decide +kernel
theorem dX1_go_38 : decode cX1_go 38 = .ok (.iconst (-1), 1) := by decide +kernel
theorem dX1_go_39 : decode cX1_go 39 = .ok (.iastore, 1) := by decide +kernel
theorem dX1_go_40 : decode cX1_go 40 = .ok (.goto 55, 3) := by decide +kernel
theorem dX1_go_43 : decode cX1_go 43 = .ok (.iload_n 1, 1) := by decide +kernel
theorem dX1_go_44 : decode cX1_go 44 = .ok (.iconst 2, 1) := by decide +kernel
theorem dX1_go_45 : decode cX1_go 45 = .ok (.if_icmp .ne 26, 3) := by decide +kernel
theorem dX1_go_48 : decode cX1_go 48 = .ok (.aload_n 0, 1) := by decide +kernel
theorem dX1_go_49 : decode cX1_go 49 = .ok (.getfield 21, 3) := by decide +kernel
theorem dX1_go_52 : decode cX1_go 52 = .ok (.iload_n 2, 1) := by decide +kernel
theorem dX1_go_53 : decode cX1_go 53 = .ok (.iaload, 1) := by decide +kernel
theorem dX1_go_54 : decode cX1_go 54 = .ok (.iconst 4, 1) := by decide +kernel
theorem dX1_go_55 : decode cX1_go 55 = .ok (.if_icmp .ge 16, 3) := by decide +kernel
theorem dX1_go_58 : decode cX1_go 58 = .ok (.aload_n 0, 1) := by decide +kernel
theorem dX1_go_59 : decode cX1_go 59 = .ok (.getfield 21, 3) := by decide +kernel
theorem dX1_go_62 : decode cX1_go 62 = .ok (.iload_n 2, 1) := by decide +kernel
theorem dX1_go_63 : decode cX1_go 63 = .ok (.dup2, 1) := by decide +kernel
theorem dX1_go_64 : decode cX1_go 64 = .ok (.iaload, 1) := by decide +kernel
theorem dX1_go_65 : decode cX1_go 65 = .ok (.iconst 1, 1) := by decide +kernel
theorem dX1_go_66 : decode cX1_go 66 = .ok (.iadd, 1) := by decide +kernel
theorem dX1_go_67 : decode cX1_go 67 = .ok (.iastore, 1) := by decide +kernel
theorem dX1_go_68 : decode cX1_go 68 = .ok (.goto 27, 3) := by decide +kernel
theorem dX1_go_71 : decode cX1_go 71 = .ok (.iload_n 1, 1) := by decide +kernel
theorem dX1_go_72 : decode cX1_go 72 = .ok (.iconst 3, 1) := by decide +kernel
theorem dX1_go_73 : decode cX1_go 73 = .ok (.if_icmp .ne 22, 3) := by decide +kernel
theorem dX1_go_76 : decode cX1_go 76 = .ok (.aload_n 0, 1) := by decide +kernel
theorem dX1_go_77 : decode cX1_go 77 = .ok (.getfield 21, 3) := by decide +kernel
theorem dX1_go_80 : decode cX1_go 80 = .ok (.iload_n 2, 1) := by decide +kernel
theorem dX1_go_81 : decode cX1_go 81 = .ok (.iaload, 1) := by decide +kernel
theorem dX1_go_82 : decode cX1_go 82 = .ok (.ifCond .le 13, 3) := by decide +kernel
theorem dX1_go_85 : decode cX1_go 85 = .ok (.aload_n 0, 1) := by decide +kernel
theorem dX1_go_86 : decode cX1_go 86 = .ok (.getfield 21, 3) := by decide +kernel
theorem dX1_go_89 : decode cX1_go 89 = .ok (.iload_n 2, 1) := by decide +kernel
theorem dX1_go_90 : decode cX1_go 90 = .ok (.dup2, 1) := by decide +kernel
theorem dX1_go_91 : decode cX1_go 91 = .ok (.iaload, 1) := by decide +kernel
theorem dX1_go_92 : decode cX1_go 92 = .ok (.iconst 1, 1) := by decide +kernel
theorem dX1_go_93 : decode cX1_go 93 = .ok (.isub, 1) := by decide +kernel
theorem dX1_go_94 : decode cX1_go 94 = .ok (.iastore, 1) := by decide +kernel
theorem dX1_go_95 : decode cX1_go 95 = .ok (.return_, 1) := by decide +kernel
theorem dX1_voiceIn_0 : decode cX1_voiceIn 0 = .ok (.aload_n 0, 1) := by decide +kernel
theorem dX1_voiceIn_1 : decode cX1_voiceIn 1 = .ok (.getfield 18, 3) := by decide +kernel
theorem dX1_voiceIn_4 : decode cX1_voiceIn 4 = .ok (.iload_n 1, 1) := by decide +kernel
theorem dX1_voiceIn_5 : decode cX1_voiceIn 5 = .ok (.iaload, 1) := by decide +kernel
theorem dX1_voiceIn_6 : decode cX1_voiceIn 6 = .ok (.ifCond .ne 5, 3) := by decide +kernel
theorem dX1_voiceIn_9 : decode cX1_voiceIn 9 = .ok (.iconst 0, 1) := by decide +kernel
theorem dX1_voiceIn_10 : decode cX1_voiceIn 10 = .ok (.ireturn, 1) := by decide +kernel
theorem dX1_voiceIn_11 : decode cX1_voiceIn 11 = .ok (.aload_n 0, 1) := by decide +kernel
theorem dX1_voiceIn_12 : decode cX1_voiceIn 12 = .ok (.getfield 44, 3) := by decide +kernel
theorem dX1_voiceIn_15 : decode cX1_voiceIn 15 = .ok (.iconst 0, 1) := by decide +kernel
theorem dX1_voiceIn_16 : decode cX1_voiceIn 16 = .ok (.iload_n 1, 1) := by decide +kernel
theorem dX1_voiceIn_17 : decode cX1_voiceIn 17 = .ok (.iastore, 1) := by decide +kernel
theorem dX1_voiceIn_18 : decode cX1_voiceIn 18 = .ok (.aload_n 0, 1) := by decide +kernel
theorem dX1_voiceIn_19 : decode cX1_voiceIn 19 = .ok (.getfield 44, 3) := by decide +kernel
theorem dX1_voiceIn_22 : decode cX1_voiceIn 22 = .ok (.iconst 1, 1) := by decide +kernel
theorem dX1_voiceIn_23 : decode cX1_voiceIn 23 = .ok (.iload_n 2, 1) := by decide +kernel
theorem dX1_voiceIn_24 : decode cX1_voiceIn 24 = .ok (.iastore, 1) := by decide +kernel
theorem dX1_voiceIn_25 : decode cX1_voiceIn 25 = .ok (.aload_n 0, 1) := by decide +kernel
theorem dX1_voiceIn_26 : decode cX1_voiceIn 26 = .ok (.getfield 44, 3) := by decide +kernel
theorem dX1_voiceIn_29 : decode cX1_voiceIn 29 = .ok (.iconst 2, 1) := by decide +kernel
theorem dX1_voiceIn_30 : decode cX1_voiceIn 30 = .ok (.aload_n 0, 1) := by decide +kernel
theorem dX1_voiceIn_31 : decode cX1_voiceIn 31 = .ok (.getfield 9, 3) := by decide +kernel
theorem dX1_voiceIn_34 : decode cX1_voiceIn 34 = .ok (.iload_n 1, 1) := by decide +kernel
theorem dX1_voiceIn_35 : decode cX1_voiceIn 35 = .ok (.iaload, 1) := by decide +kernel
theorem dX1_voiceIn_36 : decode cX1_voiceIn 36 = .ok (.iastore, 1) := by decide +kernel
theorem dX1_voiceIn_37 : decode cX1_voiceIn 37 = .ok (.aload_n 0, 1) := by decide +kernel
theorem dX1_voiceIn_38 : decode cX1_voiceIn 38 = .ok (.getfield 44, 3) := by decide +kernel
theorem dX1_voiceIn_41 : decode cX1_voiceIn 41 = .ok (.iconst 3, 1) := by decide +kernel
theorem dX1_voiceIn_42 : decode cX1_voiceIn 42 = .ok (.aload_n 0, 1) := by decide +kernel
theorem dX1_voiceIn_43 : decode cX1_voiceIn 43 = .ok (.getfield 15, 3) := by decide +kernel
theorem dX1_voiceIn_46 : decode cX1_voiceIn 46 = .ok (.iload_n 1, 1) := by decide +kernel
theorem dX1_voiceIn_47 : decode cX1_voiceIn 47 = .ok (.iaload, 1) := by decide +kernel
theorem dX1_voiceIn_48 : decode cX1_voiceIn 48 = .ok (.iastore, 1) := by decide +kernel
theorem dX1_voiceIn_49 : decode cX1_voiceIn 49 = .ok (.aload_n 0, 1) := by decide +kernel
theorem dX1_voiceIn_50 : decode cX1_voiceIn 50 = .ok (.getfield 44, 3) := by decide +kernel
theorem dX1_voiceIn_53 : decode cX1_voiceIn 53 = .ok (.iconst 4, 1) := by decide +kernel
theorem dX1_voiceIn_54 : decode cX1_voiceIn 54 = .ok (.aload_n 0, 1) := by decide +kernel
theorem dX1_voiceIn_55 : decode cX1_voiceIn 55 = .ok (.getfield 18, 3) := by decide +kernel
theorem dX1_voiceIn_58 : decode cX1_voiceIn 58 = .ok (.iload_n 1, 1) := by decide +kernel
theorem dX1_voiceIn_59 : decode cX1_voiceIn 59 = .ok (.iaload, 1) := by decide +kernel
theorem dX1_voiceIn_60 : decode cX1_voiceIn 60 = .ok (.bipush 10, 2) := by decide +kernel
theorem dX1_voiceIn_62 : decode cX1_voiceIn 62 = .ok (.idiv, 1) := by decide +kernel
theorem dX1_voiceIn_63 : decode cX1_voiceIn 63 = .ok (.iastore, 1) := by decide +kernel
theorem dX1_voiceIn_64 : decode cX1_voiceIn 64 = .ok (.aload_n 0, 1) := by decide +kernel
theorem dX1_voiceIn_65 : decode cX1_voiceIn 65 = .ok (.getfield 44, 3) := by decide +kernel
theorem dX1_voiceIn_68 : decode cX1_voiceIn 68 = .ok (.iconst 5, 1) := by decide +kernel
theorem dX1_voiceIn_69 : decode cX1_voiceIn 69 = .ok (.aload_n 0, 1) := by decide +kernel
theorem dX1_voiceIn_70 : decode cX1_voiceIn 70 = .ok (.getfield 61, 3) := by decide +kernel
theorem dX1_voiceIn_73 : decode cX1_voiceIn 73 = .ok (.bipush 10, 2) := by decide +kernel
theorem dX1_voiceIn_75 : decode cX1_voiceIn 75 = .ok (.irem, 1) := by decide +kernel
theorem dX1_voiceIn_76 : decode cX1_voiceIn 76 = .ok (.iastore, 1) := by decide +kernel
theorem dX1_voiceIn_77 : decode cX1_voiceIn 77 = .ok (.aload_n 0, 1) := by decide +kernel
theorem dX1_voiceIn_78 : decode cX1_voiceIn 78 = .ok (.getfield 18, 3) := by decide +kernel
theorem dX1_voiceIn_81 : decode cX1_voiceIn 81 = .ok (.iload_n 1, 1) := by decide +kernel
theorem dX1_voiceIn_82 : decode cX1_voiceIn 82 = .ok (.iaload, 1) := by decide +kernel
theorem dX1_voiceIn_83 : decode cX1_voiceIn 83 = .ok (.istore_n 3, 1) := by decide +kernel
theorem dX1_voiceIn_84 : decode cX1_voiceIn 84 = .ok (.iconst 0, 1) := by decide +kernel
theorem dX1_voiceIn_85 : decode cX1_voiceIn 85 = .ok (.istore 4, 2) := by decide +kernel
theorem dX1_voiceIn_87 : decode cX1_voiceIn 87 = .ok (.iload 4, 2) := by decide +kernel
theorem dX1_voiceIn_89 : decode cX1_voiceIn 89 = .ok (.aload_n 0, 1) := by decide +kernel
theorem dX1_voiceIn_90 : decode cX1_voiceIn 90 = .ok (.getfield 47, 3) := by decide +kernel
theorem dX1_voiceIn_93 : decode cX1_voiceIn 93 = .ok (.getfield 95, 3) := by decide +kernel
theorem dX1_voiceIn_96 : decode cX1_voiceIn 96 = .ok (.if_icmp .ge 38, 3) := by decide +kernel
theorem dX1_voiceIn_99 : decode cX1_voiceIn 99 = .ok (.aload_n 0, 1) := by decide +kernel
theorem dX1_voiceIn_100 : decode cX1_voiceIn 100 = .ok (.getfield 47, 3) := by decide +kernel
theorem dX1_voiceIn_103 : decode cX1_voiceIn 103 = .ok (.iload 4, 2) := by decide +kernel
theorem dX1_voiceIn_105 : decode cX1_voiceIn 105 = .ok (.aload_n 0, 1) := by decide +kernel
theorem dX1_voiceIn_106 : decode cX1_voiceIn 106 = .ok (.getfield 44, 3) := by decide +kernel
theorem dX1_voiceIn_109 : decode cX1_voiceIn 109 = .ok (.invokevirtual 98, 3) := by decide +kernel
theorem dX1_voiceIn_112 : decode cX1_voiceIn 112 = .ok (.ifCond .eq 16, 3) := by decide +kernel
theorem dX1_voiceIn_115 : decode cX1_voiceIn 115 = .ok (.iload_n 3, 1) := by decide +kernel
theorem dX1_voiceIn_116 : decode cX1_voiceIn 116 = .ok (.aload_n 0, 1) := by decide +kernel
theorem dX1_voiceIn_117 : decode cX1_voiceIn 117 = .ok (.getfield 47, 3) := by decide +kernel
theorem dX1_voiceIn_120 : decode cX1_voiceIn 120 = .ok (.getfield 102, 3) := by decide +kernel
theorem dX1_voiceIn_123 : decode cX1_voiceIn 123 = .ok (.iload 4, 2) := by decide +kernel
theorem dX1_voiceIn_125 : decode cX1_voiceIn 125 = .ok (.iaload, 1) := by decide +kernel
theorem dX1_voiceIn_126 : decode cX1_voiceIn 126 = .ok (.iadd, 1) := by decide +kernel
theorem dX1_voiceIn_127 : decode cX1_voiceIn 127 = .ok (.istore_n 3, 1) := by decide +kernel
theorem dX1_voiceIn_128 : decode cX1_voiceIn 128 = .ok (.iinc 4 1, 3) := by decide +kernel
theorem dX1_voiceIn_131 : decode cX1_voiceIn 131 = .ok (.goto (-44), 3) := by decide +kernel
theorem dX1_voiceIn_134 : decode cX1_voiceIn 134 = .ok (.iconst 0, 1) := by decide +kernel
theorem dX1_voiceIn_135 : decode cX1_voiceIn 135 = .ok (.iload_n 3, 1) := by decide +kernel
theorem dX1_voiceIn_136 : decode cX1_voiceIn 136 = .ok (.invokestatic 83, 3) := by decide +kernel
theorem dX1_voiceIn_139 : decode cX1_voiceIn 139 = .ok (.ireturn, 1) := by decide +kernel
theorem dX1_heard_0 : decode cX1_heard 0 = .ok (.iload_n 3, 1) := by decide +kernel
theorem dX1_heard_1 : decode cX1_heard 1 = .ok (.iload 4, 2) := by decide +kernel
theorem dX1_heard_3 : decode cX1_heard 3 = .ok (.isub, 1) := by decide +kernel
theorem dX1_heard_4 : decode cX1_heard 4 = .ok (.invokestatic 105, 3) := by decide +kernel
theorem dX1_heard_7 : decode cX1_heard 7 = .ok (.istore 5, 2) := by decide +kernel
theorem dX1_heard_9 : decode cX1_heard 9 = .ok (.iconst 0, 1) := by decide +kernel
theorem dX1_heard_10 : decode cX1_heard 10 = .ok (.iload_n 2, 1) := by decide +kernel
theorem dX1_heard_11 : decode cX1_heard 11 = .ok (.aload_n 0, 1) := by decide +kernel
theorem dX1_heard_12 : decode cX1_heard 12 = .ok (.getfield 47, 3) := by decide +kernel
theorem dX1_heard_15 : decode cX1_heard 15 = .ok (.getfield 108, 3) := by decide +kernel
theorem dX1_heard_18 : decode cX1_heard 18 = .ok (.iload 5, 2) := by decide +kernel
theorem dX1_heard_20 : decode cX1_heard 20 = .ok (.imul, 1) := by decide +kernel
theorem dX1_heard_21 : decode cX1_heard 21 = .ok (.isub, 1) := by decide +kernel
theorem dX1_heard_22 : decode cX1_heard 22 = .ok (.invokestatic 83, 3) := by decide +kernel
theorem dX1_heard_25 : decode cX1_heard 25 = .ok (.istore 6, 2) := by decide +kernel
theorem dX1_heard_27 : decode cX1_heard 27 = .ok (.iconst 0, 1) := by decide +kernel
theorem dX1_heard_28 : decode cX1_heard 28 = .ok (.iload_n 2, 1) := by decide +kernel
theorem dX1_heard_29 : decode cX1_heard 29 = .ok (.aload_n 0, 1) := by decide +kernel
theorem dX1_heard_30 : decode cX1_heard 30 = .ok (.getfield 47, 3) := by decide +kernel
theorem dX1_heard_33 : decode cX1_heard 33 = .ok (.getfield 108, 3) := by decide +kernel
theorem dX1_heard_36 : decode cX1_heard 36 = .ok (.iconst 2, 1) := by decide +kernel
theorem dX1_heard_37 : decode cX1_heard 37 = .ok (.idiv, 1) := by decide +kernel
theorem dX1_heard_38 : decode cX1_heard 38 = .ok (.iload 5, 2) := by decide +kernel
theorem dX1_heard_40 : decode cX1_heard 40 = .ok (.imul, 1) := by decide +kernel
theorem dX1_heard_41 : decode cX1_heard 41 = .ok (.isub, 1) := by decide +kernel
theorem dX1_heard_42 : decode cX1_heard 42 = .ok (.invokestatic 83, 3) := by decide +kernel
theorem dX1_heard_45 : decode cX1_heard 45 = .ok (.istore 7, 2) := by decide +kernel
theorem dX1_heard_47 : decode cX1_heard 47 = .ok (.aload_n 0, 1) := by decide +kernel
theorem dX1_heard_48 : decode cX1_heard 48 = .ok (.getfield 61, 3) := by decide +kernel
theorem dX1_heard_51 : decode cX1_heard 51 = .ok (.iconst 2, 1) := by decide +kernel
theorem dX1_heard_52 : decode cX1_heard 52 = .ok (.irem, 1) := by decide +kernel
theorem dX1_heard_53 : decode cX1_heard 53 = .ok (.ifCond .ne 10, 3) := by decide +kernel
theorem dX1_heard_56 : decode cX1_heard 56 = .ok (.iload 6, 2) := by decide +kernel
theorem dX1_heard_58 : decode cX1_heard 58 = .ok (.iconst 2, 1) := by decide +kernel
theorem dX1_heard_59 : decode cX1_heard 59 = .ok (.idiv, 1) := by decide +kernel
theorem dX1_heard_60 : decode cX1_heard 60 = .ok (.goto 5, 3) := by decide +kernel
theorem dX1_heard_63 : decode cX1_heard 63 = .ok (.iload 6, 2) := by decide +kernel
theorem dX1_heard_65 : decode cX1_heard 65 = .ok (.istore 8, 2) := by decide +kernel
theorem dX1_heard_67 : decode cX1_heard 67 = .ok (.aload_n 0, 1) := by decide +kernel
theorem dX1_heard_68 : decode cX1_heard 68 = .ok (.getfield 9, 3) := by decide +kernel
theorem dX1_heard_71 : decode cX1_heard 71 = .ok (.iload_n 1, 1) := by decide +kernel
theorem dX1_heard_72 : decode cX1_heard 72 = .ok (.iaload, 1) := by decide +kernel
theorem dX1_heard_73 : decode cX1_heard 73 = .ok (.tableswitch 103 2 6 #[35, 38, 41, 53, 74], 35) := by decide +kernel
theorem dX1_heard_108 : decode cX1_heard 108 = .ok (.iload 8, 2) := by decide +kernel
theorem dX1_heard_110 : decode cX1_heard 110 = .ok (.ireturn, 1) := by decide +kernel
theorem dX1_heard_111 : decode cX1_heard 111 = .ok (.iload 7, 2) := by decide +kernel
theorem dX1_heard_113 : decode cX1_heard 113 = .ok (.ireturn, 1) := by decide +kernel
theorem dX1_heard_114 : decode cX1_heard 114 = .ok (.iload 5, 2) := by decide +kernel
theorem dX1_heard_116 : decode cX1_heard 116 = .ok (.ifCond .ne 8, 3) := by decide +kernel
theorem dX1_heard_119 : decode cX1_heard 119 = .ok (.iload 6, 2) := by decide +kernel
theorem dX1_heard_121 : decode cX1_heard 121 = .ok (.goto 4, 3) := by decide +kernel
theorem dX1_heard_124 : decode cX1_heard 124 = .ok (.iconst 0, 1) := by decide +kernel
theorem dX1_heard_125 : decode cX1_heard 125 = .ok (.ireturn, 1) := by decide +kernel
theorem dX1_heard_126 : decode cX1_heard 126 = .ok (.iload 4, 2) := by decide +kernel
theorem dX1_heard_128 : decode cX1_heard 128 = .ok (.iload_n 3, 1) := by decide +kernel
theorem dX1_heard_129 : decode cX1_heard 129 = .ok (.if_icmp .ge 15, 3) := by decide +kernel
theorem dX1_heard_132 : decode cX1_heard 132 = .ok (.iload 8, 2) := by decide +kernel
theorem dX1_heard_134 : decode cX1_heard 134 = .ok (.aload_n 0, 1) := by decide +kernel
theorem dX1_heard_135 : decode cX1_heard 135 = .ok (.getfield 15, 3) := by decide +kernel
theorem dX1_heard_138 : decode cX1_heard 138 = .ok (.iload_n 1, 1) := by decide +kernel
theorem dX1_heard_139 : decode cX1_heard 139 = .ok (.iaload, 1) := by decide +kernel
theorem dX1_heard_140 : decode cX1_heard 140 = .ok (.iadd, 1) := by decide +kernel
theorem dX1_heard_141 : decode cX1_heard 141 = .ok (.goto 5, 3) := by decide +kernel
theorem dX1_heard_144 : decode cX1_heard 144 = .ok (.iload 8, 2) := by decide +kernel
theorem dX1_heard_146 : decode cX1_heard 146 = .ok (.ireturn, 1) := by decide +kernel
theorem dX1_heard_147 : decode cX1_heard 147 = .ok (.iload 5, 2) := by decide +kernel
theorem dX1_heard_149 : decode cX1_heard 149 = .ok (.ifCond .ne 24, 3) := by decide +kernel
theorem dX1_heard_152 : decode cX1_heard 152 = .ok (.iload 7, 2) := by decide +kernel
theorem dX1_heard_154 : decode cX1_heard 154 = .ok (.aload_n 0, 1) := by decide +kernel
theorem dX1_heard_155 : decode cX1_heard 155 = .ok (.getfield 24, 3) := by decide +kernel
theorem dX1_heard_158 : decode cX1_heard 158 = .ok (.iload_n 1, 1) := by decide +kernel
theorem dX1_heard_159 : decode cX1_heard 159 = .ok (.iconst 4, 1) := by decide +kernel
theorem dX1_heard_160 : decode cX1_heard 160 = .ok (.imul, 1) := by decide +kernel
theorem dX1_heard_161 : decode cX1_heard 161 = .ok (.aload_n 0, 1) := by decide +kernel
theorem dX1_heard_162 : decode cX1_heard 162 = .ok (.getfield 61, 3) := by decide +kernel
theorem dX1_heard_165 : decode cX1_heard 165 = .ok (.iconst 4, 1) := by decide +kernel
theorem dX1_heard_166 : decode cX1_heard 166 = .ok (.irem, 1) := by decide +kernel
theorem dX1_heard_167 : decode cX1_heard 167 = .ok (.iadd, 1) := by decide +kernel
theorem dX1_heard_168 : decode cX1_heard 168 = .ok (.iaload, 1) := by decide +kernel
theorem dX1_heard_169 : decode cX1_heard 169 = .ok (.iadd, 1) := by decide +kernel
theorem dX1_heard_170 : decode cX1_heard 170 = .ok (.goto 5, 3) := by decide +kernel
theorem dX1_heard_173 : decode cX1_heard 173 = .ok (.iload 7, 2) := by decide +kernel
theorem dX1_heard_175 : decode cX1_heard 175 = .ok (.ireturn, 1) := by decide +kernel
theorem dX1_heard_176 : decode cX1_heard 176 = .ok (.iload 6, 2) := by decide +kernel
theorem dX1_heard_178 : decode cX1_heard 178 = .ok (.ireturn, 1) := by decide +kernel
theorem dX1_heardIn_0 : decode cX1_heardIn 0 = .ok (.aload_n 0, 1) := by decide +kernel
theorem dX1_heardIn_1 : decode cX1_heardIn 1 = .ok (.iload_n 1, 1) := by decide +kernel
theorem dX1_heardIn_2 : decode cX1_heardIn 2 = .ok (.invokevirtual 75, 3) := by decide +kernel
theorem dX1_heardIn_5 : decode cX1_heardIn 5 = .ok (.ifCond .eq 5, 3) := by decide +kernel
theorem dX1_heardIn_8 : decode cX1_heardIn 8 = .ok (.iconst 0, 1) := by decide +kernel
theorem dX1_heardIn_9 : decode cX1_heardIn 9 = .ok (.ireturn, 1) := by decide +kernel
theorem dX1_heardIn_10 : decode cX1_heardIn 10 = .ok (.aload_n 0, 1) := by decide +kernel
theorem dX1_heardIn_11 : decode cX1_heardIn 11 = .ok (.iload_n 1, 1) := by decide +kernel
theorem dX1_heardIn_12 : decode cX1_heardIn 12 = .ok (.aload_n 0, 1) := by decide +kernel
theorem dX1_heardIn_13 : decode cX1_heardIn 13 = .ok (.iload_n 1, 1) := by decide +kernel
theorem dX1_heardIn_14 : decode cX1_heardIn 14 = .ok (.aload_n 0, 1) := by decide +kernel
theorem dX1_heardIn_15 : decode cX1_heardIn 15 = .ok (.getfield 21, 3) := by decide +kernel
theorem dX1_heardIn_18 : decode cX1_heardIn 18 = .ok (.iload_n 1, 1) := by decide +kernel
theorem dX1_heardIn_19 : decode cX1_heardIn 19 = .ok (.iaload, 1) := by decide +kernel
theorem dX1_heardIn_20 : decode cX1_heardIn 20 = .ok (.invokevirtual 111, 3) := by decide +kernel
theorem dX1_heardIn_23 : decode cX1_heardIn 23 = .ok (.aload_n 0, 1) := by decide +kernel
theorem dX1_heardIn_24 : decode cX1_heardIn 24 = .ok (.getfield 21, 3) := by decide +kernel
theorem dX1_heardIn_27 : decode cX1_heardIn 27 = .ok (.iload_n 1, 1) := by decide +kernel
theorem dX1_heardIn_28 : decode cX1_heardIn 28 = .ok (.iaload, 1) := by decide +kernel
theorem dX1_heardIn_29 : decode cX1_heardIn 29 = .ok (.iload_n 2, 1) := by decide +kernel
theorem dX1_heardIn_30 : decode cX1_heardIn 30 = .ok (.invokevirtual 114, 3) := by decide +kernel
theorem dX1_heardIn_33 : decode cX1_heardIn 33 = .ok (.ireturn, 1) := by decide +kernel
theorem dX1_noiseOf_0 : decode cX1_noiseOf 0 = .ok (.iconst 0, 1) := by decide +kernel
theorem dX1_noiseOf_1 : decode cX1_noiseOf 1 = .ok (.istore_n 2, 1) := by decide +kernel
theorem dX1_noiseOf_2 : decode cX1_noiseOf 2 = .ok (.iconst 0, 1) := by decide +kernel
theorem dX1_noiseOf_3 : decode cX1_noiseOf 3 = .ok (.istore_n 3, 1) := by decide +kernel
theorem dX1_noiseOf_4 : decode cX1_noiseOf 4 = .ok (.iload_n 3, 1) := by decide +kernel
theorem dX1_noiseOf_5 : decode cX1_noiseOf 5 = .ok (.aload_n 0, 1) := by decide +kernel
theorem dX1_noiseOf_6 : decode cX1_noiseOf 6 = .ok (.getfield 51, 3) := by decide +kernel
theorem dX1_noiseOf_9 : decode cX1_noiseOf 9 = .ok (.if_icmp .ge 18, 3) := by decide +kernel
theorem dX1_noiseOf_12 : decode cX1_noiseOf 12 = .ok (.iload_n 2, 1) := by decide +kernel
theorem dX1_noiseOf_13 : decode cX1_noiseOf 13 = .ok (.aload_n 0, 1) := by decide +kernel
theorem dX1_noiseOf_14 : decode cX1_noiseOf 14 = .ok (.iload_n 3, 1) := by decide +kernel
theorem dX1_noiseOf_15 : decode cX1_noiseOf 15 = .ok (.iload_n 1, 1) := by decide +kernel
theorem dX1_noiseOf_16 : decode cX1_noiseOf 16 = .ok (.invokevirtual 118, 3) := by decide +kernel
theorem dX1_noiseOf_19 : decode cX1_noiseOf 19 = .ok (.iadd, 1) := by decide +kernel
theorem dX1_noiseOf_20 : decode cX1_noiseOf 20 = .ok (.istore_n 2, 1) := by decide +kernel
theorem dX1_noiseOf_21 : decode cX1_noiseOf 21 = .ok (.iinc 3 1, 3) := by decide +kernel
theorem dX1_noiseOf_24 : decode cX1_noiseOf 24 = .ok (.goto (-20), 3) := by decide +kernel
theorem dX1_noiseOf_27 : decode cX1_noiseOf 27 = .ok (.iload_n 2, 1) := by decide +kernel
theorem dX1_noiseOf_28 : decode cX1_noiseOf 28 = .ok (.ireturn, 1) := by decide +kernel
theorem dX1_greatest_0 : decode cX1_greatest 0 = .ok (.iconst 0, 1) := by decide +kernel
theorem dX1_greatest_1 : decode cX1_greatest 1 = .ok (.istore_n 1, 1) := by decide +kernel
theorem dX1_greatest_2 : decode cX1_greatest 2 = .ok (.iconst 0, 1) := by decide +kernel
theorem dX1_greatest_3 : decode cX1_greatest 3 = .ok (.istore_n 2, 1) := by decide +kernel
theorem dX1_greatest_4 : decode cX1_greatest 4 = .ok (.iload_n 2, 1) := by decide +kernel
theorem dX1_greatest_5 : decode cX1_greatest 5 = .ok (.iconst 5, 1) := by decide +kernel
theorem dX1_greatest_6 : decode cX1_greatest 6 = .ok (.if_icmp .ge 19, 3) := by decide +kernel
theorem dX1_greatest_9 : decode cX1_greatest 9 = .ok (.iload_n 1, 1) := by decide +kernel
theorem dX1_greatest_10 : decode cX1_greatest 10 = .ok (.aload_n 0, 1) := by decide +kernel
theorem dX1_greatest_11 : decode cX1_greatest 11 = .ok (.iload_n 2, 1) := by decide +kernel
theorem dX1_greatest_12 : decode cX1_greatest 12 = .ok (.invokevirtual 121, 3) := by decide +kernel
theorem dX1_greatest_15 : decode cX1_greatest 15 = .ok (.invokestatic 83, 3) := by decide +kernel
theorem dX1_greatest_18 : decode cX1_greatest 18 = .ok (.istore_n 1, 1) := by decide +kernel
theorem dX1_greatest_19 : decode cX1_greatest 19 = .ok (.iinc 2 1, 3) := by decide +kernel
theorem dX1_greatest_22 : decode cX1_greatest 22 = .ok (.goto (-18), 3) := by decide +kernel
theorem dX1_greatest_25 : decode cX1_greatest 25 = .ok (.iload_n 1, 1) := by decide +kernel
theorem dX1_greatest_26 : decode cX1_greatest 26 = .ok (.ireturn, 1) := by decide +kernel
theorem dX1_stillHouses_0 : decode cX1_stillHouses 0 = .ok (.iconst 0, 1) := by decide +kernel
theorem dX1_stillHouses_1 : decode cX1_stillHouses 1 = .ok (.istore_n 1, 1) := by decide +kernel
theorem dX1_stillHouses_2 : decode cX1_stillHouses 2 = .ok (.iconst 0, 1) := by decide +kernel
theorem dX1_stillHouses_3 : decode cX1_stillHouses 3 = .ok (.istore_n 2, 1) := by decide +kernel
theorem dX1_stillHouses_4 : decode cX1_stillHouses 4 = .ok (.iload_n 2, 1) := by decide +kernel
theorem dX1_stillHouses_5 : decode cX1_stillHouses 5 = .ok (.iconst 5, 1) := by decide +kernel
theorem dX1_stillHouses_6 : decode cX1_stillHouses 6 = .ok (.if_icmp .ge 30, 3) := by decide +kernel
theorem dX1_stillHouses_9 : decode cX1_stillHouses 9 = .ok (.aload_n 0, 1) := by decide +kernel
theorem dX1_stillHouses_10 : decode cX1_stillHouses 10 = .ok (.iload_n 2, 1) := by decide +kernel
theorem dX1_stillHouses_11 : decode cX1_stillHouses 11 = .ok (.invokevirtual 121, 3) := by decide +kernel
theorem dX1_stillHouses_14 : decode cX1_stillHouses 14 = .ok (.aload_n 0, 1) := by decide +kernel
theorem dX1_stillHouses_15 : decode cX1_stillHouses 15 = .ok (.getfield 47, 3) := by decide +kernel
theorem dX1_stillHouses_18 : decode cX1_stillHouses 18 = .ok (.getfield 124, 3) := by decide +kernel
theorem dX1_stillHouses_21 : decode cX1_stillHouses 21 = .ok (.if_icmp .gt 9, 3) := by decide +kernel
theorem dX1_stillHouses_24 : decode cX1_stillHouses 24 = .ok (.iload_n 1, 1) := by decide +kernel
theorem dX1_stillHouses_25 : decode cX1_stillHouses 25 = .ok (.iconst 1, 1) := by decide +kernel
theorem dX1_stillHouses_26 : decode cX1_stillHouses 26 = .ok (.iload_n 2, 1) := by decide +kernel
theorem dX1_stillHouses_27 : decode cX1_stillHouses 27 = .ok (.ishl, 1) := by decide +kernel
theorem dX1_stillHouses_28 : decode cX1_stillHouses 28 = .ok (.ior, 1) := by decide +kernel
theorem dX1_stillHouses_29 : decode cX1_stillHouses 29 = .ok (.istore_n 1, 1) := by decide +kernel
theorem dX1_stillHouses_30 : decode cX1_stillHouses 30 = .ok (.iinc 2 1, 3) := by decide +kernel
theorem dX1_stillHouses_33 : decode cX1_stillHouses 33 = .ok (.goto (-29), 3) := by decide +kernel
theorem dX1_stillHouses_36 : decode cX1_stillHouses 36 = .ok (.iload_n 1, 1) := by decide +kernel
theorem dX1_stillHouses_37 : decode cX1_stillHouses 37 = .ok (.ireturn, 1) := by decide +kernel
theorem dX2_init_0 : decode cX2_init 0 = .ok (.aload_n 0, 1) := by decide +kernel
theorem dX2_init_1 : decode cX2_init 1 = .ok (.invokespecial 1, 3) := by decide +kernel
theorem dX2_init_4 : decode cX2_init 4 = .ok (.aload_n 0, 1) := by decide +kernel
theorem dX2_init_5 : decode cX2_init 5 = .ok (.iload_n 1, 1) := by decide +kernel
theorem dX2_init_6 : decode cX2_init 6 = .ok (.newarray .int, 2) := by decide +kernel
theorem dX2_init_8 : decode cX2_init 8 = .ok (.putfield 7, 3) := by decide +kernel
theorem dX2_init_11 : decode cX2_init 11 = .ok (.aload_n 0, 1) := by decide +kernel
theorem dX2_init_12 : decode cX2_init 12 = .ok (.iload_n 1, 1) := by decide +kernel
theorem dX2_init_13 : decode cX2_init 13 = .ok (.newarray .int, 2) := by decide +kernel
theorem dX2_init_15 : decode cX2_init 15 = .ok (.putfield 13, 3) := by decide +kernel
theorem dX2_init_18 : decode cX2_init 18 = .ok (.aload_n 0, 1) := by decide +kernel
theorem dX2_init_19 : decode cX2_init 19 = .ok (.iload_n 1, 1) := by decide +kernel
theorem dX2_init_20 : decode cX2_init 20 = .ok (.newarray .int, 2) := by decide +kernel
theorem dX2_init_22 : decode cX2_init 22 = .ok (.putfield 16, 3) := by decide +kernel
theorem dX2_init_25 : decode cX2_init 25 = .ok (.return_, 1) := by decide +kernel
theorem dX2_isFull_0 : decode cX2_isFull 0 = .ok (.aload_n 0, 1) := by decide +kernel
theorem dX2_isFull_1 : decode cX2_isFull 1 = .ok (.getfield 19, 3) := by decide +kernel
theorem dX2_isFull_4 : decode cX2_isFull 4 = .ok (.aload_n 0, 1) := by decide +kernel
theorem dX2_isFull_5 : decode cX2_isFull 5 = .ok (.getfield 7, 3) := by decide +kernel
theorem dX2_isFull_8 : decode cX2_isFull 8 = .ok (.arraylength, 1) := by decide +kernel
theorem dX2_isFull_9 : decode cX2_isFull 9 = .ok (.if_icmp .lt 7, 3) := by decide +kernel
theorem dX2_isFull_12 : decode cX2_isFull 12 = .ok (.iconst 1, 1) := by decide +kernel
theorem dX2_isFull_13 : decode cX2_isFull 13 = .ok (.goto 4, 3) := by decide +kernel
theorem dX2_isFull_16 : decode cX2_isFull 16 = .ok (.iconst 0, 1) := by decide +kernel
theorem dX2_isFull_17 : decode cX2_isFull 17 = .ok (.ireturn, 1) := by decide +kernel
theorem dX2_empty_0 : decode cX2_empty 0 = .ok (.aload_n 0, 1) := by decide +kernel
theorem dX2_empty_1 : decode cX2_empty 1 = .ok (.iconst 0, 1) := by decide +kernel
theorem dX2_empty_2 : decode cX2_empty 2 = .ok (.putfield 19, 3) := by decide +kernel
theorem dX2_empty_5 : decode cX2_empty 5 = .ok (.aload_n 0, 1) := by decide +kernel
theorem dX2_empty_6 : decode cX2_empty 6 = .ok (.getfield 19, 3) := by decide +kernel
theorem dX2_empty_9 : decode cX2_empty 9 = .ok (.ireturn, 1) := by decide +kernel
theorem dX2_add_0 : decode cX2_add 0 = .ok (.aload_n 0, 1) := by decide +kernel
theorem dX2_add_1 : decode cX2_add 1 = .ok (.getfield 7, 3) := by decide +kernel
theorem dX2_add_4 : decode cX2_add 4 = .ok (.aload_n 0, 1) := by decide +kernel
theorem dX2_add_5 : decode cX2_add 5 = .ok (.getfield 19, 3) := by decide +kernel
theorem dX2_add_8 : decode cX2_add 8 = .ok (.iload_n 1, 1) := by decide +kernel
theorem dX2_add_9 : decode cX2_add 9 = .ok (.iastore, 1) := by decide +kernel
theorem dX2_add_10 : decode cX2_add 10 = .ok (.aload_n 0, 1) := by decide +kernel
theorem dX2_add_11 : decode cX2_add 11 = .ok (.getfield 13, 3) := by decide +kernel
theorem dX2_add_14 : decode cX2_add 14 = .ok (.aload_n 0, 1) := by decide +kernel
theorem dX2_add_15 : decode cX2_add 15 = .ok (.getfield 19, 3) := by decide +kernel
theorem dX2_add_18 : decode cX2_add 18 = .ok (.iload_n 2, 1) := by decide +kernel
theorem dX2_add_19 : decode cX2_add 19 = .ok (.iastore, 1) := by decide +kernel
theorem dX2_add_20 : decode cX2_add 20 = .ok (.aload_n 0, 1) := by decide +kernel
theorem dX2_add_21 : decode cX2_add 21 = .ok (.getfield 16, 3) := by decide +kernel
theorem dX2_add_24 : decode cX2_add 24 = .ok (.aload_n 0, 1) := by decide +kernel
theorem dX2_add_25 : decode cX2_add 25 = .ok (.getfield 19, 3) := by decide +kernel
theorem dX2_add_28 : decode cX2_add 28 = .ok (.iload_n 3, 1) := by decide +kernel
theorem dX2_add_29 : decode cX2_add 29 = .ok (.iastore, 1) := by decide +kernel
theorem dX2_add_30 : decode cX2_add 30 = .ok (.aload_n 0, 1) := by decide +kernel
theorem dX2_add_31 : decode cX2_add 31 = .ok (.dup, 1) := by decide +kernel
theorem dX2_add_32 : decode cX2_add 32 = .ok (.getfield 19, 3) := by decide +kernel
theorem dX2_add_35 : decode cX2_add 35 = .ok (.iconst 1, 1) := by decide +kernel
theorem dX2_add_36 : decode cX2_add 36 = .ok (.iadd, 1) := by decide +kernel
theorem dX2_add_37 : decode cX2_add 37 = .ok (.putfield 19, 3) := by decide +kernel
theorem dX2_add_40 : decode cX2_add 40 = .ok (.aload_n 0, 1) := by decide +kernel
theorem dX2_add_41 : decode cX2_add 41 = .ok (.getfield 19, 3) := by decide +kernel
theorem dX2_add_44 : decode cX2_add 44 = .ok (.ireturn, 1) := by decide +kernel
theorem dX2_takeAll_0 : decode cX2_takeAll 0 = .ok (.aload_n 1, 1) := by decide +kernel
theorem dX2_takeAll_1 : decode cX2_takeAll 1 = .ok (.getfield 7, 3) := by decide +kernel
theorem dX2_takeAll_4 : decode cX2_takeAll 4 = .ok (.iconst 0, 1) := by decide +kernel
theorem dX2_takeAll_5 : decode cX2_takeAll 5 = .ok (.aload_n 0, 1) := by decide +kernel
theorem dX2_takeAll_6 : decode cX2_takeAll 6 = .ok (.getfield 7, 3) := by decide +kernel
theorem dX2_takeAll_9 : decode cX2_takeAll 9 = .ok (.iconst 0, 1) := by decide +kernel
theorem dX2_takeAll_10 : decode cX2_takeAll 10 = .ok (.aload_n 0, 1) := by decide +kernel
theorem dX2_takeAll_11 : decode cX2_takeAll 11 = .ok (.getfield 7, 3) := by decide +kernel
theorem dX2_takeAll_14 : decode cX2_takeAll 14 = .ok (.arraylength, 1) := by decide +kernel
theorem dX2_takeAll_15 : decode cX2_takeAll 15 = .ok (.invokestatic 23, 3) := by decide +kernel
theorem dX2_takeAll_18 : decode cX2_takeAll 18 = .ok (.aload_n 1, 1) := by decide +kernel
theorem dX2_takeAll_19 : decode cX2_takeAll 19 = .ok (.getfield 13, 3) := by decide +kernel
theorem dX2_takeAll_22 : decode cX2_takeAll 22 = .ok (.iconst 0, 1) := by decide +kernel
theorem dX2_takeAll_23 : decode cX2_takeAll 23 = .ok (.aload_n 0, 1) := by decide +kernel
theorem dX2_takeAll_24 : decode cX2_takeAll 24 = .ok (.getfield 13, 3) := by decide +kernel
theorem dX2_takeAll_27 : decode cX2_takeAll 27 = .ok (.iconst 0, 1) := by decide +kernel
theorem dX2_takeAll_28 : decode cX2_takeAll 28 = .ok (.aload_n 0, 1) := by decide +kernel
theorem dX2_takeAll_29 : decode cX2_takeAll 29 = .ok (.getfield 13, 3) := by decide +kernel
theorem dX2_takeAll_32 : decode cX2_takeAll 32 = .ok (.arraylength, 1) := by decide +kernel
theorem dX2_takeAll_33 : decode cX2_takeAll 33 = .ok (.invokestatic 23, 3) := by decide +kernel
theorem dX2_takeAll_36 : decode cX2_takeAll 36 = .ok (.aload_n 1, 1) := by decide +kernel
theorem dX2_takeAll_37 : decode cX2_takeAll 37 = .ok (.getfield 16, 3) := by decide +kernel
theorem dX2_takeAll_40 : decode cX2_takeAll 40 = .ok (.iconst 0, 1) := by decide +kernel
theorem dX2_takeAll_41 : decode cX2_takeAll 41 = .ok (.aload_n 0, 1) := by decide +kernel
theorem dX2_takeAll_42 : decode cX2_takeAll 42 = .ok (.getfield 16, 3) := by decide +kernel
theorem dX2_takeAll_45 : decode cX2_takeAll 45 = .ok (.iconst 0, 1) := by decide +kernel
theorem dX2_takeAll_46 : decode cX2_takeAll 46 = .ok (.aload_n 0, 1) := by decide +kernel
theorem dX2_takeAll_47 : decode cX2_takeAll 47 = .ok (.getfield 16, 3) := by decide +kernel
theorem dX2_takeAll_50 : decode cX2_takeAll 50 = .ok (.arraylength, 1) := by decide +kernel
theorem dX2_takeAll_51 : decode cX2_takeAll 51 = .ok (.invokestatic 23, 3) := by decide +kernel
theorem dX2_takeAll_54 : decode cX2_takeAll 54 = .ok (.aload_n 0, 1) := by decide +kernel
theorem dX2_takeAll_55 : decode cX2_takeAll 55 = .ok (.aload_n 1, 1) := by decide +kernel
theorem dX2_takeAll_56 : decode cX2_takeAll 56 = .ok (.getfield 19, 3) := by decide +kernel
theorem dX2_takeAll_59 : decode cX2_takeAll 59 = .ok (.putfield 19, 3) := by decide +kernel
theorem dX2_takeAll_62 : decode cX2_takeAll 62 = .ok (.return_, 1) := by decide +kernel
theorem dX3_init_0 : decode cX3_init 0 = .ok (.aload_n 0, 1) := by decide +kernel
theorem dX3_init_1 : decode cX3_init 1 = .ok (.invokespecial 3, 3) := by decide +kernel
theorem dX3_init_4 : decode cX3_init 4 = .ok (.aload_n 0, 1) := by decide +kernel
theorem dX3_init_5 : decode cX3_init 5 = .ok (.bipush 10, 2) := by decide +kernel
theorem dX3_init_7 : decode cX3_init 7 = .ok (.newarray .int, 2) := by decide +kernel
theorem dX3_init_9 : decode cX3_init 9 = .ok (.putfield 9, 3) := by decide +kernel
theorem dX3_init_12 : decode cX3_init 12 = .ok (.aload_n 0, 1) := by decide +kernel
theorem dX3_init_13 : decode cX3_init 13 = .ok (.bipush 11, 2) := by decide +kernel
theorem dX3_init_15 : decode cX3_init 15 = .ok (.newarray .int, 2) := by decide +kernel
theorem dX3_init_17 : decode cX3_init 17 = .ok (.putfield 15, 3) := by decide +kernel
theorem dX3_init_20 : decode cX3_init 20 = .ok (.aload_n 0, 1) := by decide +kernel
theorem dX3_init_21 : decode cX3_init 21 = .ok (.bipush 100, 2) := by decide +kernel
theorem dX3_init_23 : decode cX3_init 23 = .ok (.newarray .int, 2) := by decide +kernel
theorem dX3_init_25 : decode cX3_init 25 = .ok (.putfield 18, 3) := by decide +kernel
theorem dX3_init_28 : decode cX3_init 28 = .ok (.aload_n 0, 1) := by decide +kernel
theorem dX3_init_29 : decode cX3_init 29 = .ok (.bipush 100, 2) := by decide +kernel
theorem dX3_init_31 : decode cX3_init 31 = .ok (.newarray .int, 2) := by decide +kernel
theorem dX3_init_33 : decode cX3_init 33 = .ok (.putfield 21, 3) := by decide +kernel
theorem dX3_init_36 : decode cX3_init 36 = .ok (.aload_n 0, 1) := by decide +kernel
theorem dX3_init_37 : decode cX3_init 37 = .ok (.bipush 100, 2) := by decide +kernel
theorem dX3_init_39 : decode cX3_init 39 = .ok (.newarray .int, 2) := by decide +kernel
theorem dX3_init_41 : decode cX3_init 41 = .ok (.putfield 24, 3) := by decide +kernel
theorem dX3_init_44 : decode cX3_init 44 = .ok (.aload_n 0, 1) := by decide +kernel
theorem dX3_init_45 : decode cX3_init 45 = .ok (.invokevirtual 27, 3) := by decide +kernel
theorem dX3_init_48 : decode cX3_init 48 = .ok (.return_, 1) := by decide +kernel
theorem dX3_empty_0 : decode cX3_empty 0 = .ok (.aload_n 0, 1) := by decide +kernel
theorem dX3_empty_1 : decode cX3_empty 1 = .ok (.bipush 6, 2) := by decide +kernel
theorem dX3_empty_3 : decode cX3_empty 3 = .ok (.putfield 30, 3) := by decide +kernel
theorem dX3_empty_6 : decode cX3_empty 6 = .ok (.aload_n 0, 1) := by decide +kernel
theorem dX3_empty_7 : decode cX3_empty 7 = .ok (.bipush 10, 2) := by decide +kernel
theorem dX3_empty_9 : decode cX3_empty 9 = .ok (.putfield 34, 3) := by decide +kernel
theorem dX3_empty_12 : decode cX3_empty 12 = .ok (.aload_n 0, 1) := by decide +kernel
theorem dX3_empty_13 : decode cX3_empty 13 = .ok (.iconst 1, 1) := by decide +kernel
theorem dX3_empty_14 : decode cX3_empty 14 = .ok (.putfield 37, 3) := by decide +kernel
theorem dX3_empty_17 : decode cX3_empty 17 = .ok (.aload_n 0, 1) := by decide +kernel
theorem dX3_empty_18 : decode cX3_empty 18 = .ok (.iconst 0, 1) := by decide +kernel
theorem dX3_empty_19 : decode cX3_empty 19 = .ok (.putfield 40, 3) := by decide +kernel
theorem dX3_empty_22 : decode cX3_empty 22 = .ok (.aload_n 0, 1) := by decide +kernel
theorem dX3_empty_23 : decode cX3_empty 23 = .ok (.iconst 0, 1) := by decide +kernel
theorem dX3_empty_24 : decode cX3_empty 24 = .ok (.putfield 43, 3) := by decide +kernel
theorem dX3_empty_27 : decode cX3_empty 27 = .ok (.return_, 1) := by decide +kernel
theorem dX3_add_0 : decode cX3_add 0 = .ok (.aload_n 0, 1) := by decide +kernel
theorem dX3_add_1 : decode cX3_add 1 = .ok (.getfield 43, 3) := by decide +kernel
theorem dX3_add_4 : decode cX3_add 4 = .ok (.bipush 100, 2) := by decide +kernel
theorem dX3_add_6 : decode cX3_add 6 = .ok (.if_icmp .ge 43, 3) := by decide +kernel
theorem dX3_add_9 : decode cX3_add 9 = .ok (.aload_n 0, 1) := by decide +kernel
theorem dX3_add_10 : decode cX3_add 10 = .ok (.getfield 18, 3) := by decide +kernel
theorem dX3_add_13 : decode cX3_add 13 = .ok (.aload_n 0, 1) := by decide +kernel
theorem dX3_add_14 : decode cX3_add 14 = .ok (.getfield 43, 3) := by decide +kernel
theorem dX3_add_17 : decode cX3_add 17 = .ok (.iload_n 1, 1) := by decide +kernel
theorem dX3_add_18 : decode cX3_add 18 = .ok (.iastore, 1) := by decide +kernel
theorem dX3_add_19 : decode cX3_add 19 = .ok (.aload_n 0, 1) := by decide +kernel
theorem dX3_add_20 : decode cX3_add 20 = .ok (.getfield 21, 3) := by decide +kernel
theorem dX3_add_23 : decode cX3_add 23 = .ok (.aload_n 0, 1) := by decide +kernel
theorem dX3_add_24 : decode cX3_add 24 = .ok (.getfield 43, 3) := by decide +kernel
theorem dX3_add_27 : decode cX3_add 27 = .ok (.iload_n 2, 1) := by decide +kernel
theorem dX3_add_28 : decode cX3_add 28 = .ok (.iastore, 1) := by decide +kernel
theorem dX3_add_29 : decode cX3_add 29 = .ok (.aload_n 0, 1) := by decide +kernel
theorem dX3_add_30 : decode cX3_add 30 = .ok (.getfield 24, 3) := by decide +kernel
theorem dX3_add_33 : decode cX3_add 33 = .ok (.aload_n 0, 1) := by decide +kernel
theorem dX3_add_34 : decode cX3_add 34 = .ok (.getfield 43, 3) := by decide +kernel
theorem dX3_add_37 : decode cX3_add 37 = .ok (.iload_n 3, 1) := by decide +kernel
theorem dX3_add_38 : decode cX3_add 38 = .ok (.iastore, 1) := by decide +kernel
theorem dX3_add_39 : decode cX3_add 39 = .ok (.aload_n 0, 1) := by decide +kernel
theorem dX3_add_40 : decode cX3_add 40 = .ok (.dup, 1) := by decide +kernel
theorem dX3_add_41 : decode cX3_add 41 = .ok (.getfield 43, 3) := by decide +kernel
theorem dX3_add_44 : decode cX3_add 44 = .ok (.iconst 1, 1) := by decide +kernel
theorem dX3_add_45 : decode cX3_add 45 = .ok (.iadd, 1) := by decide +kernel
theorem dX3_add_46 : decode cX3_add 46 = .ok (.putfield 43, 3) := by decide +kernel
theorem dX3_add_49 : decode cX3_add 49 = .ok (.return_, 1) := by decide +kernel
theorem dX3_endClause_0 : decode cX3_endClause 0 = .ok (.aload_n 0, 1) := by decide +kernel
theorem dX3_endClause_1 : decode cX3_endClause 1 = .ok (.getfield 40, 3) := by decide +kernel
theorem dX3_endClause_4 : decode cX3_endClause 4 = .ok (.bipush 10, 2) := by decide +kernel
theorem dX3_endClause_6 : decode cX3_endClause 6 = .ok (.if_icmp .ge 36, 3) := by decide +kernel
theorem dX3_endClause_9 : decode cX3_endClause 9 = .ok (.aload_n 0, 1) := by decide +kernel
theorem dX3_endClause_10 : decode cX3_endClause 10 = .ok (.getfield 9, 3) := by decide +kernel
theorem dX3_endClause_13 : decode cX3_endClause 13 = .ok (.aload_n 0, 1) := by decide +kernel
theorem dX3_endClause_14 : decode cX3_endClause 14 = .ok (.getfield 40, 3) := by decide +kernel
theorem dX3_endClause_17 : decode cX3_endClause 17 = .ok (.iload_n 1, 1) := by decide +kernel
theorem dX3_endClause_18 : decode cX3_endClause 18 = .ok (.iastore, 1) := by decide +kernel
theorem dX3_endClause_19 : decode cX3_endClause 19 = .ok (.aload_n 0, 1) := by decide +kernel
theorem dX3_endClause_20 : decode cX3_endClause 20 = .ok (.dup, 1) := by decide +kernel
theorem dX3_endClause_21 : decode cX3_endClause 21 = .ok (.getfield 40, 3) := by decide +kernel
theorem dX3_endClause_24 : decode cX3_endClause 24 = .ok (.iconst 1, 1) := by decide +kernel
theorem dX3_endClause_25 : decode cX3_endClause 25 = .ok (.iadd, 1) := by decide +kernel
theorem dX3_endClause_26 : decode cX3_endClause 26 = .ok (.putfield 40, 3) := by decide +kernel
theorem dX3_endClause_29 : decode cX3_endClause 29 = .ok (.aload_n 0, 1) := by decide +kernel
theorem dX3_endClause_30 : decode cX3_endClause 30 = .ok (.getfield 15, 3) := by decide +kernel
theorem dX3_endClause_33 : decode cX3_endClause 33 = .ok (.aload_n 0, 1) := by decide +kernel
theorem dX3_endClause_34 : decode cX3_endClause 34 = .ok (.getfield 40, 3) := by decide +kernel
theorem dX3_endClause_37 : decode cX3_endClause 37 = .ok (.aload_n 0, 1) := by decide +kernel
theorem dX3_endClause_38 : decode cX3_endClause 38 = .ok (.getfield 43, 3) := by decide +kernel
theorem dX3_endClause_41 : decode cX3_endClause 41 = .ok (.iastore, 1) := by decide +kernel
theorem dX3_endClause_42 : decode cX3_endClause 42 = .ok (.return_, 1) := by decide +kernel
theorem dX3_holds_0 : decode cX3_holds 0 = .ok (.iconst 0, 1) := by decide +kernel
theorem dX3_holds_1 : decode cX3_holds 1 = .ok (.istore_n 3, 1) := by decide +kernel
theorem dX3_holds_2 : decode cX3_holds 2 = .ok (.aload_n 0, 1) := by decide +kernel
theorem dX3_holds_3 : decode cX3_holds 3 = .ok (.getfield 15, 3) := by decide +kernel
theorem dX3_holds_6 : decode cX3_holds 6 = .ok (.iload_n 1, 1) := by decide +kernel
theorem dX3_holds_7 : decode cX3_holds 7 = .ok (.iaload, 1) := by decide +kernel
theorem dX3_holds_8 : decode cX3_holds 8 = .ok (.istore 4, 2) := by decide +kernel
theorem dX3_holds_10 : decode cX3_holds 10 = .ok (.iload 4, 2) := by decide +kernel
theorem dX3_holds_12 : decode cX3_holds 12 = .ok (.aload_n 0, 1) := by decide +kernel
theorem dX3_holds_13 : decode cX3_holds 13 = .ok (.getfield 15, 3) := by decide +kernel
theorem dX3_holds_16 : decode cX3_holds 16 = .ok (.iload_n 1, 1) := by decide +kernel
theorem dX3_holds_17 : decode cX3_holds 17 = .ok (.iconst 1, 1) := by decide +kernel
theorem dX3_holds_18 : decode cX3_holds 18 = .ok (.iadd, 1) := by decide +kernel
theorem dX3_holds_19 : decode cX3_holds 19 = .ok (.iaload, 1) := by decide +kernel
theorem dX3_holds_20 : decode cX3_holds 20 = .ok (.if_icmp .ge 123, 3) := by decide +kernel
theorem dX3_holds_23 : decode cX3_holds 23 = .ok (.aload_n 0, 1) := by decide +kernel
theorem dX3_holds_24 : decode cX3_holds 24 = .ok (.getfield 18, 3) := by decide +kernel
theorem dX3_holds_27 : decode cX3_holds 27 = .ok (.iload 4, 2) := by decide +kernel
theorem dX3_holds_29 : decode cX3_holds 29 = .ok (.iaload, 1) := by decide +kernel
theorem dX3_holds_30 : decode cX3_holds 30 = .ok (.tableswitch 56 6 8 #[26, 33, 45], 26) := by decide +kernel
theorem dX3_holds_56 : decode cX3_holds 56 = .ok (.iload_n 3, 1) := by decide +kernel
theorem dX3_holds_57 : decode cX3_holds 57 = .ok (.iconst 1, 1) := by decide +kernel
theorem dX3_holds_58 : decode cX3_holds 58 = .ok (.ixor, 1) := by decide +kernel
theorem dX3_holds_59 : decode cX3_holds 59 = .ok (.istore_n 3, 1) := by decide +kernel
theorem dX3_holds_60 : decode cX3_holds 60 = .ok (.goto 77, 3) := by decide +kernel
theorem dX3_holds_63 : decode cX3_holds 63 = .ok (.iload_n 3, 1) := by decide +kernel
theorem dX3_holds_64 : decode cX3_holds 64 = .ok (.iconst 1, 1) := by decide +kernel
theorem dX3_holds_65 : decode cX3_holds 65 = .ok (.ishr, 1) := by decide +kernel
theorem dX3_holds_66 : decode cX3_holds 66 = .ok (.iload_n 3, 1) := by decide +kernel
theorem dX3_holds_67 : decode cX3_holds 67 = .ok (.bipush (-2), 2) := by decide +kernel
theorem dX3_holds_69 : decode cX3_holds 69 = .ok (.ior, 1) := by decide +kernel
theorem dX3_holds_70 : decode cX3_holds 70 = .ok (.iand, 1) := by decide +kernel
theorem dX3_holds_71 : decode cX3_holds 71 = .ok (.istore_n 3, 1) := by decide +kernel
theorem dX3_holds_72 : decode cX3_holds 72 = .ok (.goto 65, 3) := by decide +kernel
theorem dX3_holds_75 : decode cX3_holds 75 = .ok (.iload_n 3, 1) := by decide +kernel
theorem dX3_holds_76 : decode cX3_holds 76 = .ok (.iconst 1, 1) := by decide +kernel
theorem dX3_holds_77 : decode cX3_holds 77 = .ok (.ishr, 1) := by decide +kernel
theorem dX3_holds_78 : decode cX3_holds 78 = .ok (.iload_n 3, 1) := by decide +kernel
theorem dX3_holds_79 : decode cX3_holds 79 = .ok (.iconst 1, 1) := by decide +kernel
theorem dX3_holds_80 : decode cX3_holds 80 = .ok (.iand, 1) := by decide +kernel
theorem dX3_holds_81 : decode cX3_holds 81 = .ok (.ior, 1) := by decide +kernel
theorem dX3_holds_82 : decode cX3_holds 82 = .ok (.istore_n 3, 1) := by decide +kernel
theorem dX3_holds_83 : decode cX3_holds 83 = .ok (.goto 54, 3) := by decide +kernel
theorem dX3_holds_86 : decode cX3_holds 86 = .ok (.aload_n 2, 1) := by decide +kernel
theorem dX3_holds_87 : decode cX3_holds 87 = .ok (.aload_n 0, 1) := by decide +kernel
theorem dX3_holds_88 : decode cX3_holds 88 = .ok (.getfield 18, 3) := by decide +kernel
theorem dX3_holds_91 : decode cX3_holds 91 = .ok (.iload 4, 2) := by decide +kernel
theorem dX3_holds_93 : decode cX3_holds 93 = .ok (.iaload, 1) := by decide +kernel
theorem dX3_holds_94 : decode cX3_holds 94 = .ok (.iaload, 1) := by decide +kernel
theorem dX3_holds_95 : decode cX3_holds 95 = .ok (.aload_n 0, 1) := by decide +kernel
theorem dX3_holds_96 : decode cX3_holds 96 = .ok (.getfield 24, 3) := by decide +kernel
theorem dX3_holds_99 : decode cX3_holds 99 = .ok (.iload 4, 2) := by decide +kernel
theorem dX3_holds_101 : decode cX3_holds 101 = .ok (.iaload, 1) := by decide +kernel
theorem dX3_holds_102 : decode cX3_holds 102 = .ok (.invokestatic 46, 3) := by decide +kernel
theorem dX3_holds_105 : decode cX3_holds 105 = .ok (.aload_n 0, 1) := by decide +kernel
theorem dX3_holds_106 : decode cX3_holds 106 = .ok (.getfield 21, 3) := by decide +kernel
theorem dX3_holds_109 : decode cX3_holds 109 = .ok (.iload 4, 2) := by decide +kernel
theorem dX3_holds_111 : decode cX3_holds 111 = .ok (.iaload, 1) := by decide +kernel
theorem dX3_holds_112 : decode cX3_holds 112 = .ok (.if_icmp .ne 7, 3) := by decide +kernel
theorem dX3_holds_115 : decode cX3_holds 115 = .ok (.iconst 1, 1) := by decide +kernel
theorem dX3_holds_116 : decode cX3_holds 116 = .ok (.goto 4, 3) := by decide +kernel
theorem dX3_holds_119 : decode cX3_holds 119 = .ok (.iconst 0, 1) := by decide +kernel
theorem dX3_holds_120 : decode cX3_holds 120 = .ok (.istore 5, 2) := by decide +kernel
theorem dX3_holds_122 : decode cX3_holds 122 = .ok (.iload_n 3, 1) := by decide +kernel
theorem dX3_holds_123 : decode cX3_holds 123 = .ok (.iconst 1, 1) := by decide +kernel
theorem dX3_holds_124 : decode cX3_holds 124 = .ok (.ishl, 1) := by decide +kernel
theorem dX3_holds_125 : decode cX3_holds 125 = .ok (.iload 5, 2) := by decide +kernel
theorem dX3_holds_127 : decode cX3_holds 127 = .ok (.ifCond .eq 7, 3) := by decide +kernel
theorem dX3_holds_130 : decode cX3_holds 130 = .ok (.iconst 1, 1) := by decide +kernel
theorem dX3_holds_131 : decode cX3_holds 131 = .ok (.goto 4, 3) := by decide +kernel
theorem dX3_holds_134 : decode cX3_holds 134 = .ok (.iconst 0, 1) := by decide +kernel
theorem dX3_holds_135 : decode cX3_holds 135 = .ok (.ior, 1) := by decide +kernel
theorem dX3_holds_136 : decode cX3_holds 136 = .ok (.istore_n 3, 1) := by decide +kernel
theorem dX3_holds_137 : decode cX3_holds 137 = .ok (.iinc 4 1, 3) := by decide +kernel
theorem dX3_holds_140 : decode cX3_holds 140 = .ok (.goto (-130), 3) := by decide +kernel
theorem dX3_holds_143 : decode cX3_holds 143 = .ok (.iload_n 3, 1) := by decide +kernel
theorem dX3_holds_144 : decode cX3_holds 144 = .ok (.iconst 1, 1) := by decide +kernel
theorem dX3_holds_145 : decode cX3_holds 145 = .ok (.iand, 1) := by decide +kernel
theorem dX3_holds_146 : decode cX3_holds 146 = .ok (.iconst 1, 1) := by decide +kernel
theorem dX3_holds_147 : decode cX3_holds 147 = .ok (.if_icmp .ne 7, 3) := by decide +kernel
theorem dX3_holds_150 : decode cX3_holds 150 = .ok (.iconst 1, 1) := by decide +kernel
theorem dX3_holds_151 : decode cX3_holds 151 = .ok (.goto 4, 3) := by decide +kernel
theorem dX3_holds_154 : decode cX3_holds 154 = .ok (.iconst 0, 1) := by decide +kernel
theorem dX3_holds_155 : decode cX3_holds 155 = .ok (.ireturn, 1) := by decide +kernel
theorem dX4_init_0 : decode cX4_init 0 = .ok (.aload_n 0, 1) := by decide +kernel
theorem dX4_init_1 : decode cX4_init 1 = .ok (.invokespecial 3, 3) := by decide +kernel
theorem dX4_init_4 : decode cX4_init 4 = .ok (.aload_n 0, 1) := by decide +kernel
theorem dX4_init_5 : decode cX4_init 5 = .ok (.iconst (-1), 1) := by decide +kernel
theorem dX4_init_6 : decode cX4_init 6 = .ok (.putfield 9, 3) := by decide +kernel
theorem dX4_init_9 : decode cX4_init 9 = .ok (.aload_n 0, 1) := by decide +kernel
theorem dX4_init_10 : decode cX4_init 10 = .ok (.bipush 60, 2) := by decide +kernel
theorem dX4_init_12 : decode cX4_init 12 = .ok (.newarray .long, 2) := by decide +kernel
theorem dX4_init_14 : decode cX4_init 14 = .ok (.putfield 15, 3) := by decide +kernel
theorem dX4_init_17 : decode cX4_init 17 = .ok (.return_, 1) := by decide +kernel
theorem dX4_become_0 : decode cX4_become 0 = .ok (.aload_n 0, 1) := by decide +kernel
theorem dX4_become_1 : decode cX4_become 1 = .ok (.iload_n 1, 1) := by decide +kernel
theorem dX4_become_2 : decode cX4_become 2 = .ok (.putfield 9, 3) := by decide +kernel
theorem dX4_become_5 : decode cX4_become 5 = .ok (.aload_n 0, 1) := by decide +kernel
theorem dX4_become_6 : decode cX4_become 6 = .ok (.iload_n 2, 1) := by decide +kernel
theorem dX4_become_7 : decode cX4_become 7 = .ok (.putfield 19, 3) := by decide +kernel
theorem dX4_become_10 : decode cX4_become 10 = .ok (.iconst 0, 1) := by decide +kernel
theorem dX4_become_11 : decode cX4_become 11 = .ok (.istore_n 3, 1) := by decide +kernel
theorem dX4_become_12 : decode cX4_become 12 = .ok (.iload_n 3, 1) := by decide +kernel
theorem dX4_become_13 : decode cX4_become 13 = .ok (.bipush 60, 2) := by decide +kernel
theorem dX4_become_15 : decode cX4_become 15 = .ok (.if_icmp .ge 16, 3) := by decide +kernel
theorem dX4_become_18 : decode cX4_become 18 = .ok (.aload_n 0, 1) := by decide +kernel
theorem dX4_become_19 : decode cX4_become 19 = .ok (.getfield 15, 3) := by decide +kernel
theorem dX4_become_22 : decode cX4_become 22 = .ok (.iload_n 3, 1) := by decide +kernel
theorem dX4_become_23 : decode cX4_become 23 = .ok (.lconst 0, 1) := by decide +kernel
theorem dX4_become_24 : decode cX4_become 24 = .ok (.lastore, 1) := by decide +kernel
theorem dX4_become_25 : decode cX4_become 25 = .ok (.iinc 3 1, 3) := by decide +kernel
theorem dX4_become_28 : decode cX4_become 28 = .ok (.goto (-16), 3) := by decide +kernel
theorem dX4_become_31 : decode cX4_become 31 = .ok (.return_, 1) := by decide +kernel
theorem dX4_hasPlace_0 : decode cX4_hasPlace 0 = .ok (.iload_n 1, 1) := by decide +kernel
theorem dX4_hasPlace_1 : decode cX4_hasPlace 1 = .ok (.ifCond .lt 15, 3) := by decide +kernel
theorem dX4_hasPlace_4 : decode cX4_hasPlace 4 = .ok (.iload_n 1, 1) := by decide +kernel
theorem dX4_hasPlace_5 : decode cX4_hasPlace 5 = .ok (.aload_n 0, 1) := by decide +kernel
theorem dX4_hasPlace_6 : decode cX4_hasPlace 6 = .ok (.getfield 19, 3) := by decide +kernel
theorem dX4_hasPlace_9 : decode cX4_hasPlace 9 = .ok (.if_icmp .ge 7, 3) := by decide +kernel
theorem dX4_hasPlace_12 : decode cX4_hasPlace 12 = .ok (.iconst 1, 1) := by decide +kernel
theorem dX4_hasPlace_13 : decode cX4_hasPlace 13 = .ok (.goto 4, 3) := by decide +kernel
theorem dX4_hasPlace_16 : decode cX4_hasPlace 16 = .ok (.iconst 0, 1) := by decide +kernel
theorem dX4_hasPlace_17 : decode cX4_hasPlace 17 = .ok (.ireturn, 1) := by decide +kernel
theorem dX4_hasPlaces_0 : decode cX4_hasPlaces 0 = .ok (.iload_n 2, 1) := by decide +kernel
theorem dX4_hasPlaces_1 : decode cX4_hasPlaces 1 = .ok (.ifCond .lt 29, 3) := by decide +kernel
theorem dX4_hasPlaces_4 : decode cX4_hasPlaces 4 = .ok (.iload_n 1, 1) := by decide +kernel
theorem dX4_hasPlaces_5 : decode cX4_hasPlaces 5 = .ok (.ifCond .lt 25, 3) := by decide +kernel
theorem dX4_hasPlaces_8 : decode cX4_hasPlaces 8 = .ok (.iload_n 2, 1) := by decide +kernel
theorem dX4_hasPlaces_9 : decode cX4_hasPlaces 9 = .ok (.aload_n 0, 1) := by decide +kernel
theorem dX4_hasPlaces_10 : decode cX4_hasPlaces 10 = .ok (.getfield 19, 3) := by decide +kernel
theorem dX4_hasPlaces_13 : decode cX4_hasPlaces 13 = .ok (.if_icmp .gt 17, 3) := by decide +kernel
theorem dX4_hasPlaces_16 : decode cX4_hasPlaces 16 = .ok (.iload_n 1, 1) := by decide +kernel
theorem dX4_hasPlaces_17 : decode cX4_hasPlaces 17 = .ok (.aload_n 0, 1) := by decide +kernel
theorem dX4_hasPlaces_18 : decode cX4_hasPlaces 18 = .ok (.getfield 19, 3) := by decide +kernel
theorem dX4_hasPlaces_21 : decode cX4_hasPlaces 21 = .ok (.iload_n 2, 1) := by decide +kernel
theorem dX4_hasPlaces_22 : decode cX4_hasPlaces 22 = .ok (.isub, 1) := by decide +kernel
theorem dX4_hasPlaces_23 : decode cX4_hasPlaces 23 = .ok (.if_icmp .gt 7, 3) := by decide +kernel
theorem dX4_hasPlaces_26 : decode cX4_hasPlaces 26 = .ok (.iconst 1, 1) := by decide +kernel
theorem dX4_hasPlaces_27 : decode cX4_hasPlaces 27 = .ok (.goto 4, 3) := by decide +kernel
theorem dX4_hasPlaces_30 : decode cX4_hasPlaces 30 = .ok (.iconst 0, 1) := by decide +kernel
theorem dX4_hasPlaces_31 : decode cX4_hasPlaces 31 = .ok (.ireturn, 1) := by decide +kernel
theorem dX4_put_0 : decode cX4_put 0 = .ok (.aload_n 0, 1) := by decide +kernel
theorem dX4_put_1 : decode cX4_put 1 = .ok (.getfield 9, 3) := by decide +kernel
theorem dX4_put_4 : decode cX4_put 4 = .ok (.tableswitch 80 0 3 #[32, 45, 58, 70], 32) := by decide +kernel
theorem dX4_put_36 : decode cX4_put 36 = .ok (.aload_n 0, 1) := by decide +kernel
theorem dX4_put_37 : decode cX4_put 37 = .ok (.getfield 15, 3) := by decide +kernel
theorem dX4_put_40 : decode cX4_put 40 = .ok (.iload_n 1, 1) := by decide +kernel
theorem dX4_put_41 : decode cX4_put 41 = .ok (.lload_n 2, 1) := by decide +kernel
theorem dX4_put_42 : decode cX4_put 42 = .ok (.l2i, 1) := by decide +kernel
theorem dX4_put_43 : decode cX4_put 43 = .ok (.i2b, 1) := by decide +kernel
theorem dX4_put_44 : decode cX4_put 44 = .ok (.i2l, 1) := by decide +kernel
theorem dX4_put_45 : decode cX4_put 45 = .ok (.lastore, 1) := by decide +kernel
theorem dX4_put_46 : decode cX4_put 46 = .ok (.goto 55, 3) := by decide +kernel
theorem dX4_put_49 : decode cX4_put 49 = .ok (.aload_n 0, 1) := by decide +kernel
theorem dX4_put_50 : decode cX4_put 50 = .ok (.getfield 15, 3) := by decide +kernel
theorem dX4_put_53 : decode cX4_put 53 = .ok (.iload_n 1, 1) := by decide +kernel
theorem dX4_put_54 : decode cX4_put 54 = .ok (.lload_n 2, 1) := by decide +kernel
theorem dX4_put_55 : decode cX4_put 55 = .ok (.l2i, 1) := by decide +kernel
theorem dX4_put_56 : decode cX4_put 56 = .ok (.i2s, 1) := by decide +kernel
theorem dX4_put_57 : decode cX4_put 57 = .ok (.i2l, 1) := by decide +kernel
theorem dX4_put_58 : decode cX4_put 58 = .ok (.lastore, 1) := by decide +kernel
theorem dX4_put_59 : decode cX4_put 59 = .ok (.goto 42, 3) := by decide +kernel
theorem dX4_put_62 : decode cX4_put 62 = .ok (.aload_n 0, 1) := by decide +kernel
theorem dX4_put_63 : decode cX4_put 63 = .ok (.getfield 15, 3) := by decide +kernel
theorem dX4_put_66 : decode cX4_put 66 = .ok (.iload_n 1, 1) := by decide +kernel
theorem dX4_put_67 : decode cX4_put 67 = .ok (.lload_n 2, 1) := by decide +kernel
theorem dX4_put_68 : decode cX4_put 68 = .ok (.l2i, 1) := by decide +kernel
theorem dX4_put_69 : decode cX4_put 69 = .ok (.i2l, 1) := by decide +kernel
theorem dX4_put_70 : decode cX4_put 70 = .ok (.lastore, 1) := by decide +kernel
theorem dX4_put_71 : decode cX4_put 71 = .ok (.goto 30, 3) := by decide +kernel
theorem dX4_put_74 : decode cX4_put 74 = .ok (.aload_n 0, 1) := by decide +kernel
theorem dX4_put_75 : decode cX4_put 75 = .ok (.getfield 15, 3) := by decide +kernel
theorem dX4_put_78 : decode cX4_put 78 = .ok (.iload_n 1, 1) := by decide +kernel
theorem dX4_put_79 : decode cX4_put 79 = .ok (.lload_n 2, 1) := by decide +kernel
theorem dX4_put_80 : decode cX4_put 80 = .ok (.lastore, 1) := by decide +kernel
theorem dX4_put_81 : decode cX4_put 81 = .ok (.goto 20, 3) := by decide +kernel
theorem dX4_put_84 : decode cX4_put 84 = .ok (.aload_n 0, 1) := by decide +kernel
theorem dX4_put_85 : decode cX4_put 85 = .ok (.getfield 15, 3) := by decide +kernel
theorem dX4_put_88 : decode cX4_put 88 = .ok (.iload_n 1, 1) := by decide +kernel
theorem dX4_put_89 : decode cX4_put 89 = .ok (.lload_n 2, 1) := by decide +kernel
theorem dX4_put_90 : decode cX4_put 90 = .ok (.lconst 0, 1) := by decide +kernel
theorem dX4_put_91 : decode cX4_put 91 = .ok (.lcmp, 1) := by decide +kernel
theorem dX4_put_92 : decode cX4_put 92 = .ok (.ifCond .eq 7, 3) := by decide +kernel
theorem dX4_put_95 : decode cX4_put 95 = .ok (.lconst 1, 1) := by decide +kernel
theorem dX4_put_96 : decode cX4_put 96 = .ok (.goto 4, 3) := by decide +kernel
theorem dX4_put_99 : decode cX4_put 99 = .ok (.lconst 0, 1) := by decide +kernel
theorem dX4_put_100 : decode cX4_put 100 = .ok (.lastore, 1) := by decide +kernel
theorem dX4_put_101 : decode cX4_put 101 = .ok (.return_, 1) := by decide +kernel
theorem dX5_init_0 : decode cX5_init 0 = .ok (.aload_n 0, 1) := by decide +kernel
theorem dX5_init_1 : decode cX5_init 1 = .ok (.invokespecial 3, 3) := by decide +kernel
theorem dX5_init_4 : decode cX5_init 4 = .ok (.aload_n 0, 1) := by decide +kernel
theorem dX5_init_5 : decode cX5_init 5 = .ok (.bipush 100, 2) := by decide +kernel
theorem dX5_init_7 : decode cX5_init 7 = .ok (.newarray .byte, 2) := by decide +kernel
theorem dX5_init_9 : decode cX5_init 9 = .ok (.putfield 9, 3) := by decide +kernel
theorem dX5_init_12 : decode cX5_init 12 = .ok (.return_, 1) := by decide +kernel
theorem dX5_grow_0 : decode cX5_grow 0 = .ok (.aload_n 0, 1) := by decide +kernel
theorem dX5_grow_1 : decode cX5_grow 1 = .ok (.getfield 9, 3) := by decide +kernel
theorem dX5_grow_4 : decode cX5_grow 4 = .ok (.aload_n 0, 1) := by decide +kernel
theorem dX5_grow_5 : decode cX5_grow 5 = .ok (.getfield 15, 3) := by decide +kernel
theorem dX5_grow_8 : decode cX5_grow 8 = .ok (.iload_n 1, 1) := by decide +kernel
theorem dX5_grow_9 : decode cX5_grow 9 = .ok (.bastore, 1) := by decide +kernel
theorem dX5_grow_10 : decode cX5_grow 10 = .ok (.aload_n 0, 1) := by decide +kernel
theorem dX5_grow_11 : decode cX5_grow 11 = .ok (.dup, 1) := by decide +kernel
theorem dX5_grow_12 : decode cX5_grow 12 = .ok (.getfield 15, 3) := by decide +kernel
theorem dX5_grow_15 : decode cX5_grow 15 = .ok (.iconst 1, 1) := by decide +kernel
theorem dX5_grow_16 : decode cX5_grow 16 = .ok (.iadd, 1) := by decide +kernel
theorem dX5_grow_17 : decode cX5_grow 17 = .ok (.putfield 15, 3) := by decide +kernel
theorem dX5_grow_20 : decode cX5_grow 20 = .ok (.aload_n 0, 1) := by decide +kernel
theorem dX5_grow_21 : decode cX5_grow 21 = .ok (.getfield 15, 3) := by decide +kernel
theorem dX5_grow_24 : decode cX5_grow 24 = .ok (.ireturn, 1) := by decide +kernel
theorem dX5_makes_0 : decode cX5_makes 0 = .ok (.aload_n 0, 1) := by decide +kernel
theorem dX5_makes_1 : decode cX5_makes 1 = .ok (.aload_n 1, 1) := by decide +kernel
theorem dX5_makes_2 : decode cX5_makes 2 = .ok (.putfield 19, 3) := by decide +kernel
theorem dX5_makes_5 : decode cX5_makes 5 = .ok (.aload_n 0, 1) := by decide +kernel
theorem dX5_makes_6 : decode cX5_makes 6 = .ok (.getfield 19, 3) := by decide +kernel
theorem dX5_makes_9 : decode cX5_makes 9 = .ok (.invokevirtual 23, 3) := by decide +kernel
theorem dX5_makes_12 : decode cX5_makes 12 = .ok (.aload_n 0, 1) := by decide +kernel
theorem dX5_makes_13 : decode cX5_makes 13 = .ok (.iconst 0, 1) := by decide +kernel
theorem dX5_makes_14 : decode cX5_makes 14 = .ok (.putfield 28, 3) := by decide +kernel
theorem dX5_makes_17 : decode cX5_makes 17 = .ok (.aload_n 0, 1) := by decide +kernel
theorem dX5_makes_18 : decode cX5_makes 18 = .ok (.invokevirtual 31, 3) := by decide +kernel
theorem dX5_makes_21 : decode cX5_makes 21 = .ok (.istore_n 2, 1) := by decide +kernel
theorem dX5_makes_22 : decode cX5_makes 22 = .ok (.iconst 1, 1) := by decide +kernel
theorem dX5_makes_23 : decode cX5_makes 23 = .ok (.istore_n 3, 1) := by decide +kernel
theorem dX5_makes_24 : decode cX5_makes 24 = .ok (.iload_n 2, 1) := by decide +kernel
theorem dX5_makes_25 : decode cX5_makes 25 = .ok (.ifCond .eq 29, 3) := by decide +kernel
theorem dX5_makes_28 : decode cX5_makes 28 = .ok (.iload_n 3, 1) := by decide +kernel
theorem dX5_makes_29 : decode cX5_makes 29 = .ok (.bipush 10, 2) := by decide +kernel
theorem dX5_makes_31 : decode cX5_makes 31 = .ok (.if_icmp .ge 23, 3) := by decide +kernel
theorem dX5_makes_34 : decode cX5_makes 34 = .ok (.aload_n 0, 1) := by decide +kernel
theorem dX5_makes_35 : decode cX5_makes 35 = .ok (.bipush 59, 2) := by decide +kernel
theorem dX5_makes_37 : decode cX5_makes 37 = .ok (.invokevirtual 35, 3) := by decide +kernel
theorem dX5_makes_40 : decode cX5_makes 40 = .ok (.ifCond .eq 14, 3) := by decide +kernel
theorem dX5_makes_43 : decode cX5_makes 43 = .ok (.aload_n 0, 1) := by decide +kernel
theorem dX5_makes_44 : decode cX5_makes 44 = .ok (.invokevirtual 31, 3) := by decide +kernel
theorem dX5_makes_47 : decode cX5_makes 47 = .ok (.istore_n 2, 1) := by decide +kernel
theorem dX5_makes_48 : decode cX5_makes 48 = .ok (.iinc 3 1, 3) := by decide +kernel
theorem dX5_makes_51 : decode cX5_makes 51 = .ok (.goto (-27), 3) := by decide +kernel
theorem dX5_makes_54 : decode cX5_makes 54 = .ok (.iload_n 2, 1) := by decide +kernel
theorem dX5_makes_55 : decode cX5_makes 55 = .ok (.ifCond .eq 18, 3) := by decide +kernel
theorem dX5_makes_58 : decode cX5_makes 58 = .ok (.aload_n 0, 1) := by decide +kernel
theorem dX5_makes_59 : decode cX5_makes 59 = .ok (.getfield 28, 3) := by decide +kernel
theorem dX5_makes_62 : decode cX5_makes 62 = .ok (.aload_n 0, 1) := by decide +kernel
theorem dX5_makes_63 : decode cX5_makes 63 = .ok (.getfield 15, 3) := by decide +kernel
theorem dX5_makes_66 : decode cX5_makes 66 = .ok (.if_icmp .ne 7, 3) := by decide +kernel
theorem dX5_makes_69 : decode cX5_makes 69 = .ok (.iconst 1, 1) := by decide +kernel
theorem dX5_makes_70 : decode cX5_makes 70 = .ok (.goto 4, 3) := by decide +kernel
theorem dX5_makes_73 : decode cX5_makes 73 = .ok (.iconst 0, 1) := by decide +kernel
theorem dX5_makes_74 : decode cX5_makes 74 = .ok (.ireturn, 1) := by decide +kernel
theorem dX5_readsClause_0 : decode cX5_readsClause 0 = .ok (.aload_n 0, 1) := by decide +kernel
theorem dX5_readsClause_1 : decode cX5_readsClause 1 = .ok (.invokevirtual 39, 3) := by decide +kernel
theorem dX5_readsClause_4 : decode cX5_readsClause 4 = .ok (.istore_n 1, 1) := by decide +kernel
theorem dX5_readsClause_5 : decode cX5_readsClause 5 = .ok (.iload_n 1, 1) := by decide +kernel
theorem dX5_readsClause_6 : decode cX5_readsClause 6 = .ok (.ifCond .lt 19, 3) := by decide +kernel
theorem dX5_readsClause_9 : decode cX5_readsClause 9 = .ok (.aload_n 0, 1) := by decide +kernel
theorem dX5_readsClause_10 : decode cX5_readsClause 10 = .ok (.bipush 32, 2) := by decide +kernel
theorem dX5_readsClause_12 : decode cX5_readsClause 12 = .ok (.invokevirtual 35, 3) := by decide +kernel
theorem dX5_readsClause_15 : decode cX5_readsClause 15 = .ok (.ifCond .eq 10, 3) := by decide +kernel
theorem dX5_readsClause_18 : decode cX5_readsClause 18 = .ok (.aload_n 0, 1) := by decide +kernel
theorem dX5_readsClause_19 : decode cX5_readsClause 19 = .ok (.invokevirtual 43, 3) := by decide +kernel
theorem dX5_readsClause_22 : decode cX5_readsClause 22 = .ok (.goto 4, 3) := by decide +kernel
theorem dX5_readsClause_25 : decode cX5_readsClause 25 = .ok (.iconst (-1), 1) := by decide +kernel
theorem dX5_readsClause_26 : decode cX5_readsClause 26 = .ok (.istore_n 2, 1) := by decide +kernel
theorem dX5_readsClause_27 : decode cX5_readsClause 27 = .ok (.iload_n 2, 1) := by decide +kernel
theorem dX5_readsClause_28 : decode cX5_readsClause 28 = .ok (.ifCond .ge 5, 3) := by decide +kernel
theorem dX5_readsClause_31 : decode cX5_readsClause 31 = .ok (.iconst 0, 1) := by decide +kernel
theorem dX5_readsClause_32 : decode cX5_readsClause 32 = .ok (.ireturn, 1) := by decide +kernel
theorem dX5_readsClause_33 : decode cX5_readsClause 33 = .ok (.iload_n 1, 1) := by decide +kernel
theorem dX5_readsClause_34 : decode cX5_readsClause 34 = .ok (.tableswitch 56 2 4 #[26, 36, 46], 26) := by decide +kernel
theorem dX5_readsClause_60 : decode cX5_readsClause 60 = .ok (.aload_n 0, 1) := by decide +kernel
theorem dX5_readsClause_61 : decode cX5_readsClause 61 = .ok (.getfield 19, 3) := by decide +kernel
theorem dX5_readsClause_64 : decode cX5_readsClause 64 = .ok (.iload_n 2, 1) := by decide +kernel
theorem dX5_readsClause_65 : decode cX5_readsClause 65 = .ok (.putfield 46, 3) := by decide +kernel
theorem dX5_readsClause_68 : decode cX5_readsClause 68 = .ok (.iconst 1, 1) := by decide +kernel
theorem dX5_readsClause_69 : decode cX5_readsClause 69 = .ok (.ireturn, 1) := by decide +kernel
theorem dX5_readsClause_70 : decode cX5_readsClause 70 = .ok (.aload_n 0, 1) := by decide +kernel
theorem dX5_readsClause_71 : decode cX5_readsClause 71 = .ok (.getfield 19, 3) := by decide +kernel
theorem dX5_readsClause_74 : decode cX5_readsClause 74 = .ok (.iload_n 2, 1) := by decide +kernel
theorem dX5_readsClause_75 : decode cX5_readsClause 75 = .ok (.putfield 49, 3) := by decide +kernel
theorem dX5_readsClause_78 : decode cX5_readsClause 78 = .ok (.iconst 1, 1) := by decide +kernel
theorem dX5_readsClause_79 : decode cX5_readsClause 79 = .ok (.ireturn, 1) := by decide +kernel
theorem dX5_readsClause_80 : decode cX5_readsClause 80 = .ok (.aload_n 0, 1) := by decide +kernel
theorem dX5_readsClause_81 : decode cX5_readsClause 81 = .ok (.getfield 19, 3) := by decide +kernel
theorem dX5_readsClause_84 : decode cX5_readsClause 84 = .ok (.iload_n 2, 1) := by decide +kernel
theorem dX5_readsClause_85 : decode cX5_readsClause 85 = .ok (.putfield 52, 3) := by decide +kernel
theorem dX5_readsClause_88 : decode cX5_readsClause 88 = .ok (.iconst 1, 1) := by decide +kernel
theorem dX5_readsClause_89 : decode cX5_readsClause 89 = .ok (.ireturn, 1) := by decide +kernel
theorem dX5_readsClause_90 : decode cX5_readsClause 90 = .ok (.aload_n 0, 1) := by decide +kernel
theorem dX5_readsClause_91 : decode cX5_readsClause 91 = .ok (.bipush 32, 2) := by decide +kernel
theorem dX5_readsClause_93 : decode cX5_readsClause 93 = .ok (.invokevirtual 35, 3) := by decide +kernel
theorem dX5_readsClause_96 : decode cX5_readsClause 96 = .ok (.ifCond .eq 15, 3) := by decide +kernel
theorem dX5_readsClause_99 : decode cX5_readsClause 99 = .ok (.aload_n 0, 1) := by decide +kernel
theorem dX5_readsClause_100 : decode cX5_readsClause 100 = .ok (.iconst 0, 1) := by decide +kernel
theorem dX5_readsClause_101 : decode cX5_readsClause 101 = .ok (.invokevirtual 55, 3) := by decide +kernel
theorem dX5_readsClause_104 : decode cX5_readsClause 104 = .ok (.ifCond .eq 7, 3) := by decide +kernel
theorem dX5_readsClause_107 : decode cX5_readsClause 107 = .ok (.iconst 1, 1) := by decide +kernel
theorem dX5_readsClause_108 : decode cX5_readsClause 108 = .ok (.goto 4, 3) := by decide +kernel
theorem dX5_readsClause_111 : decode cX5_readsClause 111 = .ok (.iconst 0, 1) := by decide +kernel
theorem dX5_readsClause_112 : decode cX5_readsClause 112 = .ok (.istore_n 3, 1) := by decide +kernel
theorem dX5_readsClause_113 : decode cX5_readsClause 113 = .ok (.aload_n 0, 1) := by decide +kernel
theorem dX5_readsClause_114 : decode cX5_readsClause 114 = .ok (.getfield 19, 3) := by decide +kernel
theorem dX5_readsClause_117 : decode cX5_readsClause 117 = .ok (.iload_n 1, 1) := by decide +kernel
theorem dX5_readsClause_118 : decode cX5_readsClause 118 = .ok (.iconst 1, 1) := by decide +kernel
theorem dX5_readsClause_119 : decode cX5_readsClause 119 = .ok (.if_icmp .ne 8, 3) := by decide +kernel
theorem dX5_readsClause_122 : decode cX5_readsClause 122 = .ok (.iload_n 2, 1) := by decide +kernel
theorem dX5_readsClause_123 : decode cX5_readsClause 123 = .ok (.ineg, 1) := by decide +kernel
theorem dX5_readsClause_124 : decode cX5_readsClause 124 = .ok (.goto 4, 3) := by decide +kernel
theorem dX5_readsClause_127 : decode cX5_readsClause 127 = .ok (.iload_n 2, 1) := by decide +kernel
theorem dX5_readsClause_128 : decode cX5_readsClause 128 = .ok (.invokevirtual 59, 3) := by decide +kernel
theorem dX5_readsClause_131 : decode cX5_readsClause 131 = .ok (.iload_n 3, 1) := by decide +kernel
theorem dX5_readsClause_132 : decode cX5_readsClause 132 = .ok (.ireturn, 1) := by decide +kernel
theorem dX5_readWord_0 : decode cX5_readWord 0 = .ok (.iconst 0, 1) := by decide +kernel
theorem dX5_readWord_1 : decode cX5_readWord 1 = .ok (.istore_n 1, 1) := by decide +kernel
theorem dX5_readWord_2 : decode cX5_readWord 2 = .ok (.iconst 0, 1) := by decide +kernel
theorem dX5_readWord_3 : decode cX5_readWord 3 = .ok (.istore_n 2, 1) := by decide +kernel
theorem dX5_readWord_4 : decode cX5_readWord 4 = .ok (.iload_n 2, 1) := by decide +kernel
theorem dX5_readWord_5 : decode cX5_readWord 5 = .ok (.iconst 5, 1) := by decide +kernel
theorem dX5_readWord_6 : decode cX5_readWord 6 = .ok (.if_icmp .ge 82, 3) := by decide +kernel
theorem dX5_readWord_9 : decode cX5_readWord 9 = .ok (.iconst 0, 1) := by decide +kernel
theorem dX5_readWord_10 : decode cX5_readWord 10 = .ok (.istore_n 3, 1) := by decide +kernel
theorem dX5_readWord_11 : decode cX5_readWord 11 = .ok (.iload_n 3, 1) := by decide +kernel
theorem dX5_readWord_12 : decode cX5_readWord 12 = .ok (.iconst 4, 1) := by decide +kernel
theorem dX5_readWord_13 : decode cX5_readWord 13 = .ok (.if_icmp .ge 46, 3) := by decide +kernel
theorem dX5_readWord_16 : decode cX5_readWord 16 = .ok (.aload_n 0, 1) := by decide +kernel
theorem dX5_readWord_17 : decode cX5_readWord 17 = .ok (.getfield 28, 3) := by decide +kernel
theorem dX5_readWord_20 : decode cX5_readWord 20 = .ok (.iload_n 3, 1) := by decide +kernel
theorem dX5_readWord_21 : decode cX5_readWord 21 = .ok (.iadd, 1) := by decide +kernel
theorem dX5_readWord_22 : decode cX5_readWord 22 = .ok (.aload_n 0, 1) := by decide +kernel
theorem dX5_readWord_23 : decode cX5_readWord 23 = .ok (.getfield 15, 3) := by decide +kernel
theorem dX5_readWord_26 : decode cX5_readWord 26 = .ok (.if_icmp .ge 33, 3) := by decide +kernel
theorem dX5_readWord_29 : decode cX5_readWord 29 = .ok (.aload_n 0, 1) := by decide +kernel
theorem dX5_readWord_30 : decode cX5_readWord 30 = .ok (.getfield 9, 3) := by decide +kernel
theorem dX5_readWord_33 : decode cX5_readWord 33 = .ok (.aload_n 0, 1) := by decide +kernel
theorem dX5_readWord_34 : decode cX5_readWord 34 = .ok (.getfield 28, 3) := by decide +kernel
theorem dX5_readWord_37 : decode cX5_readWord 37 = .ok (.iload_n 3, 1) := by decide +kernel
theorem dX5_readWord_38 : decode cX5_readWord 38 = .ok (.iadd, 1) := by decide +kernel
theorem dX5_readWord_39 : decode cX5_readWord 39 = .ok (.baload, 1) := by decide +kernel
theorem dX5_readWord_40 : decode cX5_readWord 40 = .ok (.ldc 63, 2) := by decide +kernel
theorem dX5_readWord_42 : decode cX5_readWord 42 = .ok (.iload_n 2, 1) := by decide +kernel
theorem dX5_readWord_43 : decode cX5_readWord 43 = .ok (.iconst 4, 1) := by decide +kernel
theorem dX5_readWord_44 : decode cX5_readWord 44 = .ok (.imul, 1) := by decide +kernel
theorem dX5_readWord_45 : decode cX5_readWord 45 = .ok (.iload_n 3, 1) := by decide +kernel
theorem dX5_readWord_46 : decode cX5_readWord 46 = .ok (.iadd, 1) := by decide +kernel
theorem dX5_readWord_47 : decode cX5_readWord 47 = .ok (.invokevirtual 65, 3) := by decide +kernel
theorem dX5_readWord_50 : decode cX5_readWord 50 = .ok (.if_icmp .ne 9, 3) := by decide +kernel
theorem dX5_readWord_53 : decode cX5_readWord 53 = .ok (.iinc 3 1, 3) := by decide +kernel
theorem dX5_readWord_56 : decode cX5_readWord 56 = .ok (.goto (-45), 3) := by decide +kernel
theorem dX5_readWord_59 : decode cX5_readWord 59 = .ok (.iload_n 3, 1) := by decide +kernel
theorem dX5_readWord_60 : decode cX5_readWord 60 = .ok (.iconst 4, 1) := by decide +kernel
theorem dX5_readWord_61 : decode cX5_readWord 61 = .ok (.if_icmp .ne 15, 3) := by decide +kernel
theorem dX5_readWord_64 : decode cX5_readWord 64 = .ok (.aload_n 0, 1) := by decide +kernel
theorem dX5_readWord_65 : decode cX5_readWord 65 = .ok (.dup, 1) := by decide +kernel
theorem dX5_readWord_66 : decode cX5_readWord 66 = .ok (.getfield 28, 3) := by decide +kernel
theorem dX5_readWord_69 : decode cX5_readWord 69 = .ok (.iconst 4, 1) := by decide +kernel
theorem dX5_readWord_70 : decode cX5_readWord 70 = .ok (.iadd, 1) := by decide +kernel
theorem dX5_readWord_71 : decode cX5_readWord 71 = .ok (.putfield 28, 3) := by decide +kernel
theorem dX5_readWord_74 : decode cX5_readWord 74 = .ok (.iload_n 2, 1) := by decide +kernel
theorem dX5_readWord_75 : decode cX5_readWord 75 = .ok (.ireturn, 1) := by decide +kernel
theorem dX5_readWord_76 : decode cX5_readWord 76 = .ok (.iload_n 1, 1) := by decide +kernel
theorem dX5_readWord_77 : decode cX5_readWord 77 = .ok (.iload_n 3, 1) := by decide +kernel
theorem dX5_readWord_78 : decode cX5_readWord 78 = .ok (.invokestatic 71, 3) := by decide +kernel
theorem dX5_readWord_81 : decode cX5_readWord 81 = .ok (.istore_n 1, 1) := by decide +kernel
theorem dX5_readWord_82 : decode cX5_readWord 82 = .ok (.iinc 2 1, 3) := by decide +kernel
theorem dX5_readWord_85 : decode cX5_readWord 85 = .ok (.goto (-81), 3) := by decide +kernel
theorem dX5_readWord_88 : decode cX5_readWord 88 = .ok (.aload_n 0, 1) := by decide +kernel
theorem dX5_readWord_89 : decode cX5_readWord 89 = .ok (.dup, 1) := by decide +kernel
theorem dX5_readWord_90 : decode cX5_readWord 90 = .ok (.getfield 28, 3) := by decide +kernel
theorem dX5_readWord_93 : decode cX5_readWord 93 = .ok (.iload_n 1, 1) := by decide +kernel
theorem dX5_readWord_94 : decode cX5_readWord 94 = .ok (.iadd, 1) := by decide +kernel
theorem dX5_readWord_95 : decode cX5_readWord 95 = .ok (.putfield 28, 3) := by decide +kernel
theorem dX5_readWord_98 : decode cX5_readWord 98 = .ok (.iconst (-1), 1) := by decide +kernel
theorem dX5_readWord_99 : decode cX5_readWord 99 = .ok (.ireturn, 1) := by decide +kernel
theorem dX5_readsAny_0 : decode cX5_readsAny 0 = .ok (.aload_n 0, 1) := by decide +kernel
theorem dX5_readsAny_1 : decode cX5_readsAny 1 = .ok (.iload_n 1, 1) := by decide +kernel
theorem dX5_readsAny_2 : decode cX5_readsAny 2 = .ok (.invokevirtual 77, 3) := by decide +kernel
theorem dX5_readsAny_5 : decode cX5_readsAny 5 = .ok (.istore_n 2, 1) := by decide +kernel
theorem dX5_readsAny_6 : decode cX5_readsAny 6 = .ok (.iconst 0, 1) := by decide +kernel
theorem dX5_readsAny_7 : decode cX5_readsAny 7 = .ok (.istore_n 3, 1) := by decide +kernel
theorem dX5_readsAny_8 : decode cX5_readsAny 8 = .ok (.iload_n 2, 1) := by decide +kernel
theorem dX5_readsAny_9 : decode cX5_readsAny 9 = .ok (.ifCond .eq 41, 3) := by decide +kernel
theorem dX5_readsAny_12 : decode cX5_readsAny 12 = .ok (.iload_n 3, 1) := by decide +kernel
theorem dX5_readsAny_13 : decode cX5_readsAny 13 = .ok (.bipush 100, 2) := by decide +kernel
theorem dX5_readsAny_15 : decode cX5_readsAny 15 = .ok (.if_icmp .ge 35, 3) := by decide +kernel
theorem dX5_readsAny_18 : decode cX5_readsAny 18 = .ok (.aload_n 0, 1) := by decide +kernel
theorem dX5_readsAny_19 : decode cX5_readsAny 19 = .ok (.bipush 124, 2) := by decide +kernel
theorem dX5_readsAny_21 : decode cX5_readsAny 21 = .ok (.invokevirtual 35, 3) := by decide +kernel
theorem dX5_readsAny_24 : decode cX5_readsAny 24 = .ok (.ifCond .eq 26, 3) := by decide +kernel
theorem dX5_readsAny_27 : decode cX5_readsAny 27 = .ok (.aload_n 0, 1) := by decide +kernel
theorem dX5_readsAny_28 : decode cX5_readsAny 28 = .ok (.iload_n 1, 1) := by decide +kernel
theorem dX5_readsAny_29 : decode cX5_readsAny 29 = .ok (.invokevirtual 77, 3) := by decide +kernel
theorem dX5_readsAny_32 : decode cX5_readsAny 32 = .ok (.istore_n 2, 1) := by decide +kernel
theorem dX5_readsAny_33 : decode cX5_readsAny 33 = .ok (.aload_n 0, 1) := by decide +kernel
theorem dX5_readsAny_34 : decode cX5_readsAny 34 = .ok (.getfield 19, 3) := by decide +kernel
theorem dX5_readsAny_37 : decode cX5_readsAny 37 = .ok (.bipush 8, 2) := by decide +kernel
theorem dX5_readsAny_39 : decode cX5_readsAny 39 = .ok (.iconst 0, 1) := by decide +kernel
theorem dX5_readsAny_40 : decode cX5_readsAny 40 = .ok (.iconst 0, 1) := by decide +kernel
theorem dX5_readsAny_41 : decode cX5_readsAny 41 = .ok (.invokevirtual 80, 3) := by decide +kernel
theorem dX5_readsAny_44 : decode cX5_readsAny 44 = .ok (.iinc 3 1, 3) := by decide +kernel
theorem dX5_readsAny_47 : decode cX5_readsAny 47 = .ok (.goto (-39), 3) := by decide +kernel
theorem dX5_readsAny_50 : decode cX5_readsAny 50 = .ok (.iload_n 2, 1) := by decide +kernel
theorem dX5_readsAny_51 : decode cX5_readsAny 51 = .ok (.ireturn, 1) := by decide +kernel
theorem dX5_readsAll_0 : decode cX5_readsAll 0 = .ok (.aload_n 0, 1) := by decide +kernel
theorem dX5_readsAll_1 : decode cX5_readsAll 1 = .ok (.iload_n 1, 1) := by decide +kernel
theorem dX5_readsAll_2 : decode cX5_readsAll 2 = .ok (.invokevirtual 84, 3) := by decide +kernel
theorem dX5_readsAll_5 : decode cX5_readsAll 5 = .ok (.istore_n 2, 1) := by decide +kernel
theorem dX5_readsAll_6 : decode cX5_readsAll 6 = .ok (.iconst 0, 1) := by decide +kernel
theorem dX5_readsAll_7 : decode cX5_readsAll 7 = .ok (.istore_n 3, 1) := by decide +kernel
theorem dX5_readsAll_8 : decode cX5_readsAll 8 = .ok (.iload_n 2, 1) := by decide +kernel
theorem dX5_readsAll_9 : decode cX5_readsAll 9 = .ok (.ifCond .eq 41, 3) := by decide +kernel
theorem dX5_readsAll_12 : decode cX5_readsAll 12 = .ok (.iload_n 3, 1) := by decide +kernel
theorem dX5_readsAll_13 : decode cX5_readsAll 13 = .ok (.bipush 100, 2) := by decide +kernel
theorem dX5_readsAll_15 : decode cX5_readsAll 15 = .ok (.if_icmp .ge 35, 3) := by decide +kernel
theorem dX5_readsAll_18 : decode cX5_readsAll 18 = .ok (.aload_n 0, 1) := by decide +kernel
theorem dX5_readsAll_19 : decode cX5_readsAll 19 = .ok (.bipush 38, 2) := by decide +kernel
theorem dX5_readsAll_21 : decode cX5_readsAll 21 = .ok (.invokevirtual 35, 3) := by decide +kernel
theorem dX5_readsAll_24 : decode cX5_readsAll 24 = .ok (.ifCond .eq 26, 3) := by decide +kernel
theorem dX5_readsAll_27 : decode cX5_readsAll 27 = .ok (.aload_n 0, 1) := by decide +kernel
theorem dX5_readsAll_28 : decode cX5_readsAll 28 = .ok (.iload_n 1, 1) := by decide +kernel
theorem dX5_readsAll_29 : decode cX5_readsAll 29 = .ok (.invokevirtual 84, 3) := by decide +kernel
theorem dX5_readsAll_32 : decode cX5_readsAll 32 = .ok (.istore_n 2, 1) := by decide +kernel
theorem dX5_readsAll_33 : decode cX5_readsAll 33 = .ok (.aload_n 0, 1) := by decide +kernel
theorem dX5_readsAll_34 : decode cX5_readsAll 34 = .ok (.getfield 19, 3) := by decide +kernel
theorem dX5_readsAll_37 : decode cX5_readsAll 37 = .ok (.bipush 7, 2) := by decide +kernel
theorem dX5_readsAll_39 : decode cX5_readsAll 39 = .ok (.iconst 0, 1) := by decide +kernel
theorem dX5_readsAll_40 : decode cX5_readsAll 40 = .ok (.iconst 0, 1) := by decide +kernel
theorem dX5_readsAll_41 : decode cX5_readsAll 41 = .ok (.invokevirtual 80, 3) := by decide +kernel
theorem dX5_readsAll_44 : decode cX5_readsAll 44 = .ok (.iinc 3 1, 3) := by decide +kernel
theorem dX5_readsAll_47 : decode cX5_readsAll 47 = .ok (.goto (-39), 3) := by decide +kernel
theorem dX5_readsAll_50 : decode cX5_readsAll 50 = .ok (.iload_n 2, 1) := by decide +kernel
theorem dX5_readsAll_51 : decode cX5_readsAll 51 = .ok (.ireturn, 1) := by decide +kernel
theorem dX5_readsOne_0 : decode cX5_readsOne 0 = .ok (.iload_n 1, 1) := by decide +kernel
theorem dX5_readsOne_1 : decode cX5_readsOne 1 = .ok (.iconst 4, 1) := by decide +kernel
theorem dX5_readsOne_2 : decode cX5_readsOne 2 = .ok (.if_icmp .ge 33, 3) := by decide +kernel
theorem dX5_readsOne_5 : decode cX5_readsOne 5 = .ok (.aload_n 0, 1) := by decide +kernel
theorem dX5_readsOne_6 : decode cX5_readsOne 6 = .ok (.bipush 33, 2) := by decide +kernel
theorem dX5_readsOne_8 : decode cX5_readsOne 8 = .ok (.invokevirtual 35, 3) := by decide +kernel
theorem dX5_readsOne_11 : decode cX5_readsOne 11 = .ok (.ifCond .eq 24, 3) := by decide +kernel
theorem dX5_readsOne_14 : decode cX5_readsOne 14 = .ok (.aload_n 0, 1) := by decide +kernel
theorem dX5_readsOne_15 : decode cX5_readsOne 15 = .ok (.iload_n 1, 1) := by decide +kernel
theorem dX5_readsOne_16 : decode cX5_readsOne 16 = .ok (.iconst 1, 1) := by decide +kernel
theorem dX5_readsOne_17 : decode cX5_readsOne 17 = .ok (.iadd, 1) := by decide +kernel
theorem dX5_readsOne_18 : decode cX5_readsOne 18 = .ok (.invokevirtual 84, 3) := by decide +kernel
theorem dX5_readsOne_21 : decode cX5_readsOne 21 = .ok (.istore_n 2, 1) := by decide +kernel
theorem dX5_readsOne_22 : decode cX5_readsOne 22 = .ok (.aload_n 0, 1) := by decide +kernel
theorem dX5_readsOne_23 : decode cX5_readsOne 23 = .ok (.getfield 19, 3) := by decide +kernel
theorem dX5_readsOne_26 : decode cX5_readsOne 26 = .ok (.bipush 6, 2) := by decide +kernel
theorem dX5_readsOne_28 : decode cX5_readsOne 28 = .ok (.iconst 0, 1) := by decide +kernel
theorem dX5_readsOne_29 : decode cX5_readsOne 29 = .ok (.iconst 0, 1) := by decide +kernel
theorem dX5_readsOne_30 : decode cX5_readsOne 30 = .ok (.invokevirtual 80, 3) := by decide +kernel
theorem dX5_readsOne_33 : decode cX5_readsOne 33 = .ok (.iload_n 2, 1) := by decide +kernel
theorem dX5_readsOne_34 : decode cX5_readsOne 34 = .ok (.ireturn, 1) := by decide +kernel
theorem dX5_readsOne_35 : decode cX5_readsOne 35 = .ok (.iload_n 1, 1) := by decide +kernel
theorem dX5_readsOne_36 : decode cX5_readsOne 36 = .ok (.iconst 4, 1) := by decide +kernel
theorem dX5_readsOne_37 : decode cX5_readsOne 37 = .ok (.if_icmp .ge 37, 3) := by decide +kernel
theorem dX5_readsOne_40 : decode cX5_readsOne 40 = .ok (.aload_n 0, 1) := by decide +kernel
theorem dX5_readsOne_41 : decode cX5_readsOne 41 = .ok (.bipush 40, 2) := by decide +kernel
theorem dX5_readsOne_43 : decode cX5_readsOne 43 = .ok (.invokevirtual 35, 3) := by decide +kernel
theorem dX5_readsOne_46 : decode cX5_readsOne 46 = .ok (.ifCond .eq 28, 3) := by decide +kernel
theorem dX5_readsOne_49 : decode cX5_readsOne 49 = .ok (.aload_n 0, 1) := by decide +kernel
theorem dX5_readsOne_50 : decode cX5_readsOne 50 = .ok (.iload_n 1, 1) := by decide +kernel
theorem dX5_readsOne_51 : decode cX5_readsOne 51 = .ok (.iconst 1, 1) := by decide +kernel
theorem dX5_readsOne_52 : decode cX5_readsOne 52 = .ok (.iadd, 1) := by decide +kernel
theorem dX5_readsOne_53 : decode cX5_readsOne 53 = .ok (.invokevirtual 55, 3) := by decide +kernel
theorem dX5_readsOne_56 : decode cX5_readsOne 56 = .ok (.ifCond .eq 16, 3) := by decide +kernel
theorem dX5_readsOne_59 : decode cX5_readsOne 59 = .ok (.aload_n 0, 1) := by decide +kernel
theorem dX5_readsOne_60 : decode cX5_readsOne 60 = .ok (.bipush 41, 2) := by decide +kernel
theorem dX5_readsOne_62 : decode cX5_readsOne 62 = .ok (.invokevirtual 35, 3) := by decide +kernel
theorem dX5_readsOne_65 : decode cX5_readsOne 65 = .ok (.ifCond .eq 7, 3) := by decide +kernel
theorem dX5_readsOne_68 : decode cX5_readsOne 68 = .ok (.iconst 1, 1) := by decide +kernel
theorem dX5_readsOne_69 : decode cX5_readsOne 69 = .ok (.goto 4, 3) := by decide +kernel
theorem dX5_readsOne_72 : decode cX5_readsOne 72 = .ok (.iconst 0, 1) := by decide +kernel
theorem dX5_readsOne_73 : decode cX5_readsOne 73 = .ok (.ireturn, 1) := by decide +kernel
theorem dX5_readsOne_74 : decode cX5_readsOne 74 = .ok (.aload_n 0, 1) := by decide +kernel
theorem dX5_readsOne_75 : decode cX5_readsOne 75 = .ok (.invokevirtual 87, 3) := by decide +kernel
theorem dX5_readsOne_78 : decode cX5_readsOne 78 = .ok (.ireturn, 1) := by decide +kernel
theorem dX5_readsTest_0 : decode cX5_readsTest 0 = .ok (.aload_n 0, 1) := by decide +kernel
theorem dX5_readsTest_1 : decode cX5_readsTest 1 = .ok (.ldc 90, 2) := by decide +kernel
theorem dX5_readsTest_3 : decode cX5_readsTest 3 = .ok (.invokevirtual 92, 3) := by decide +kernel
theorem dX5_readsTest_6 : decode cX5_readsTest 6 = .ok (.istore_n 1, 1) := by decide +kernel
theorem dX5_readsTest_7 : decode cX5_readsTest 7 = .ok (.iload_n 1, 1) := by decide +kernel
theorem dX5_readsTest_8 : decode cX5_readsTest 8 = .ok (.ifCond .ge 7, 3) := by decide +kernel
theorem dX5_readsTest_11 : decode cX5_readsTest 11 = .ok (.iconst (-1), 1) := by decide +kernel
theorem dX5_readsTest_12 : decode cX5_readsTest 12 = .ok (.goto 9, 3) := by decide +kernel
theorem dX5_readsTest_15 : decode cX5_readsTest 15 = .ok (.aload_n 0, 1) := by decide +kernel
theorem dX5_readsTest_16 : decode cX5_readsTest 16 = .ok (.ldc 96, 2) := by decide +kernel
theorem dX5_readsTest_18 : decode cX5_readsTest 18 = .ok (.invokevirtual 92, 3) := by decide +kernel
theorem dX5_readsTest_21 : decode cX5_readsTest 21 = .ok (.istore_n 2, 1) := by decide +kernel
theorem dX5_readsTest_22 : decode cX5_readsTest 22 = .ok (.iload_n 2, 1) := by decide +kernel
theorem dX5_readsTest_23 : decode cX5_readsTest 23 = .ok (.ifCond .ge 7, 3) := by decide +kernel
theorem dX5_readsTest_26 : decode cX5_readsTest 26 = .ok (.iconst (-1), 1) := by decide +kernel
theorem dX5_readsTest_27 : decode cX5_readsTest 27 = .ok (.goto 7, 3) := by decide +kernel
theorem dX5_readsTest_30 : decode cX5_readsTest 30 = .ok (.aload_n 0, 1) := by decide +kernel
theorem dX5_readsTest_31 : decode cX5_readsTest 31 = .ok (.invokevirtual 43, 3) := by decide +kernel
theorem dX5_readsTest_34 : decode cX5_readsTest 34 = .ok (.istore_n 3, 1) := by decide +kernel
theorem dX5_readsTest_35 : decode cX5_readsTest 35 = .ok (.iload_n 3, 1) := by decide +kernel
theorem dX5_readsTest_36 : decode cX5_readsTest 36 = .ok (.ifCond .ge 5, 3) := by decide +kernel
theorem dX5_readsTest_39 : decode cX5_readsTest 39 = .ok (.iconst 0, 1) := by decide +kernel
theorem dX5_readsTest_40 : decode cX5_readsTest 40 = .ok (.ireturn, 1) := by decide +kernel
theorem dX5_readsTest_41 : decode cX5_readsTest 41 = .ok (.aload_n 0, 1) := by decide +kernel
theorem dX5_readsTest_42 : decode cX5_readsTest 42 = .ok (.getfield 19, 3) := by decide +kernel
theorem dX5_readsTest_45 : decode cX5_readsTest 45 = .ok (.iload_n 1, 1) := by decide +kernel
theorem dX5_readsTest_46 : decode cX5_readsTest 46 = .ok (.iload_n 2, 1) := by decide +kernel
theorem dX5_readsTest_47 : decode cX5_readsTest 47 = .ok (.iconst 1, 1) := by decide +kernel
theorem dX5_readsTest_48 : decode cX5_readsTest 48 = .ok (.isub, 1) := by decide +kernel
theorem dX5_readsTest_49 : decode cX5_readsTest 49 = .ok (.iload_n 3, 1) := by decide +kernel
theorem dX5_readsTest_50 : decode cX5_readsTest 50 = .ok (.invokevirtual 80, 3) := by decide +kernel
theorem dX5_readsTest_53 : decode cX5_readsTest 53 = .ok (.iconst 1, 1) := by decide +kernel
theorem dX5_readsTest_54 : decode cX5_readsTest 54 = .ok (.ireturn, 1) := by decide +kernel
theorem dX5_readNumber_0 : decode cX5_readNumber 0 = .ok (.aload_n 0, 1) := by decide +kernel
theorem dX5_readNumber_1 : decode cX5_readNumber 1 = .ok (.ldc 98, 2) := by decide +kernel
theorem dX5_readNumber_3 : decode cX5_readNumber 3 = .ok (.invokevirtual 92, 3) := by decide +kernel
theorem dX5_readNumber_6 : decode cX5_readNumber 6 = .ok (.istore_n 1, 1) := by decide +kernel
theorem dX5_readNumber_7 : decode cX5_readNumber 7 = .ok (.iload_n 1, 1) := by decide +kernel
theorem dX5_readNumber_8 : decode cX5_readNumber 8 = .ok (.ifCond .ge 7, 3) := by decide +kernel
theorem dX5_readNumber_11 : decode cX5_readNumber 11 = .ok (.iconst (-1), 1) := by decide +kernel
theorem dX5_readNumber_12 : decode cX5_readNumber 12 = .ok (.goto 9, 3) := by decide +kernel
theorem dX5_readNumber_15 : decode cX5_readNumber 15 = .ok (.aload_n 0, 1) := by decide +kernel
theorem dX5_readNumber_16 : decode cX5_readNumber 16 = .ok (.ldc 98, 2) := by decide +kernel
theorem dX5_readNumber_18 : decode cX5_readNumber 18 = .ok (.invokevirtual 92, 3) := by decide +kernel
theorem dX5_readNumber_21 : decode cX5_readNumber 21 = .ok (.istore_n 2, 1) := by decide +kernel
theorem dX5_readNumber_22 : decode cX5_readNumber 22 = .ok (.iload_n 2, 1) := by decide +kernel
theorem dX5_readNumber_23 : decode cX5_readNumber 23 = .ok (.ifCond .ge 7, 3) := by decide +kernel
theorem dX5_readNumber_26 : decode cX5_readNumber 26 = .ok (.iload_n 1, 1) := by decide +kernel
theorem dX5_readNumber_27 : decode cX5_readNumber 27 = .ok (.goto 9, 3) := by decide +kernel
theorem dX5_readNumber_30 : decode cX5_readNumber 30 = .ok (.bipush 10, 2) := by decide +kernel
theorem dX5_readNumber_32 : decode cX5_readNumber 32 = .ok (.iload_n 1, 1) := by decide +kernel
theorem dX5_readNumber_33 : decode cX5_readNumber 33 = .ok (.imul, 1) := by decide +kernel
theorem dX5_readNumber_34 : decode cX5_readNumber 34 = .ok (.iload_n 2, 1) := by decide +kernel
theorem dX5_readNumber_35 : decode cX5_readNumber 35 = .ok (.iadd, 1) := by decide +kernel
theorem dX5_readNumber_36 : decode cX5_readNumber 36 = .ok (.ireturn, 1) := by decide +kernel
theorem dX5_readOneOf_0 : decode cX5_readOneOf 0 = .ok (.aload_n 0, 1) := by decide +kernel
theorem dX5_readOneOf_1 : decode cX5_readOneOf 1 = .ok (.getfield 28, 3) := by decide +kernel
theorem dX5_readOneOf_4 : decode cX5_readOneOf 4 = .ok (.aload_n 0, 1) := by decide +kernel
theorem dX5_readOneOf_5 : decode cX5_readOneOf 5 = .ok (.getfield 15, 3) := by decide +kernel
theorem dX5_readOneOf_8 : decode cX5_readOneOf 8 = .ok (.if_icmp .ge 20, 3) := by decide +kernel
theorem dX5_readOneOf_11 : decode cX5_readOneOf 11 = .ok (.aload_n 1, 1) := by decide +kernel
theorem dX5_readOneOf_12 : decode cX5_readOneOf 12 = .ok (.aload_n 0, 1) := by decide +kernel
theorem dX5_readOneOf_13 : decode cX5_readOneOf 13 = .ok (.getfield 9, 3) := by decide +kernel
theorem dX5_readOneOf_16 : decode cX5_readOneOf 16 = .ok (.aload_n 0, 1) := by decide +kernel
theorem dX5_readOneOf_17 : decode cX5_readOneOf 17 = .ok (.getfield 28, 3) := by decide +kernel
theorem dX5_readOneOf_20 : decode cX5_readOneOf 20 = .ok (.baload, 1) := by decide +kernel
theorem dX5_readOneOf_21 : decode cX5_readOneOf 21 = .ok (.i2c, 1) := by decide +kernel
theorem dX5_readOneOf_22 : decode cX5_readOneOf 22 = .ok (.invokevirtual 100, 3) := by decide +kernel
theorem dX5_readOneOf_25 : decode cX5_readOneOf 25 = .ok (.goto 4, 3) := by decide +kernel
theorem dX5_readOneOf_28 : decode cX5_readOneOf 28 = .ok (.iconst (-1), 1) := by decide +kernel
theorem dX5_readOneOf_29 : decode cX5_readOneOf 29 = .ok (.istore_n 2, 1) := by decide +kernel
theorem dX5_readOneOf_30 : decode cX5_readOneOf 30 = .ok (.iload_n 2, 1) := by decide +kernel
theorem dX5_readOneOf_31 : decode cX5_readOneOf 31 = .ok (.ifCond .lt 13, 3) := by decide +kernel
theorem dX5_readOneOf_34 : decode cX5_readOneOf 34 = .ok (.aload_n 0, 1) := by decide +kernel
theorem dX5_readOneOf_35 : decode cX5_readOneOf 35 = .ok (.dup, 1) := by decide +kernel
theorem dX5_readOneOf_36 : decode cX5_readOneOf 36 = .ok (.getfield 28, 3) := by decide +kernel
theorem dX5_readOneOf_39 : decode cX5_readOneOf 39 = .ok (.iconst 1, 1) := by decide +kernel
theorem dX5_readOneOf_40 : decode cX5_readOneOf 40 = .ok (.iadd, 1) := by decide +kernel
theorem dX5_readOneOf_41 : decode cX5_readOneOf 41 = .ok (.putfield 28, 3) := by decide +kernel
theorem dX5_readOneOf_44 : decode cX5_readOneOf 44 = .ok (.iload_n 2, 1) := by decide +kernel
theorem dX5_readOneOf_45 : decode cX5_readOneOf 45 = .ok (.ireturn, 1) := by decide +kernel
theorem dX5_readsSign_0 : decode cX5_readsSign 0 = .ok (.aload_n 0, 1) := by decide +kernel
theorem dX5_readsSign_1 : decode cX5_readsSign 1 = .ok (.getfield 28, 3) := by decide +kernel
theorem dX5_readsSign_4 : decode cX5_readsSign 4 = .ok (.aload_n 0, 1) := by decide +kernel
theorem dX5_readsSign_5 : decode cX5_readsSign 5 = .ok (.getfield 15, 3) := by decide +kernel
theorem dX5_readsSign_8 : decode cX5_readsSign 8 = .ok (.if_icmp .ge 16, 3) := by decide +kernel
theorem dX5_readsSign_11 : decode cX5_readsSign 11 = .ok (.aload_n 0, 1) := by decide +kernel
theorem dX5_readsSign_12 : decode cX5_readsSign 12 = .ok (.getfield 9, 3) := by decide +kernel
theorem dX5_readsSign_15 : decode cX5_readsSign 15 = .ok (.aload_n 0, 1) := by decide +kernel
theorem dX5_readsSign_16 : decode cX5_readsSign 16 = .ok (.getfield 28, 3) := by decide +kernel
theorem dX5_readsSign_19 : decode cX5_readsSign 19 = .ok (.baload, 1) := by decide +kernel
theorem dX5_readsSign_20 : decode cX5_readsSign 20 = .ok (.iload_n 1, 1) := by decide +kernel
theorem dX5_readsSign_21 : decode cX5_readsSign 21 = .ok (.if_icmp .eq 5, 3) := by decide +kernel
theorem dX5_readsSign_24 : decode cX5_readsSign 24 = .ok (.iconst 0, 1) := by decide +kernel
theorem dX5_readsSign_25 : decode cX5_readsSign 25 = .ok (.ireturn, 1) := by decide +kernel
theorem dX5_readsSign_26 : decode cX5_readsSign 26 = .ok (.aload_n 0, 1) := by decide +kernel
theorem dX5_readsSign_27 : decode cX5_readsSign 27 = .ok (.dup, 1) := by decide +kernel
theorem dX5_readsSign_28 : decode cX5_readsSign 28 = .ok (.getfield 28, 3) := by decide +kernel
theorem dX5_readsSign_31 : decode cX5_readsSign 31 = .ok (.iconst 1, 1) := by decide +kernel
theorem dX5_readsSign_32 : decode cX5_readsSign 32 = .ok (.iadd, 1) := by decide +kernel
theorem dX5_readsSign_33 : decode cX5_readsSign 33 = .ok (.putfield 28, 3) := by decide +kernel
theorem dX5_readsSign_36 : decode cX5_readsSign 36 = .ok (.iconst 1, 1) := by decide +kernel
theorem dX5_readsSign_37 : decode cX5_readsSign 37 = .ok (.ireturn, 1) := by decide +kernel
theorem dX6_init_0 : decode cX6_init 0 = .ok (.aload_n 0, 1) := by decide +kernel
theorem dX6_init_1 : decode cX6_init 1 = .ok (.invokespecial 3, 3) := by decide +kernel
theorem dX6_init_4 : decode cX6_init 4 = .ok (.aload_n 0, 1) := by decide +kernel
theorem dX6_init_5 : decode cX6_init 5 = .ok (.sipush 150, 3) := by decide +kernel
theorem dX6_init_8 : decode cX6_init 8 = .ok (.newarray .int, 2) := by decide +kernel
theorem dX6_init_10 : decode cX6_init 10 = .ok (.putfield 9, 3) := by decide +kernel
theorem dX6_init_13 : decode cX6_init 13 = .ok (.aload_n 0, 1) := by decide +kernel
theorem dX6_init_14 : decode cX6_init 14 = .ok (.bipush 6, 2) := by decide +kernel
theorem dX6_init_16 : decode cX6_init 16 = .ok (.newarray .int, 2) := by decide +kernel
theorem dX6_init_18 : decode cX6_init 18 = .ok (.putfield 15, 3) := by decide +kernel
theorem dX6_init_21 : decode cX6_init 21 = .ok (.aload_n 0, 1) := by decide +kernel
theorem dX6_init_22 : decode cX6_init 22 = .ok (.iconst 5, 1) := by decide +kernel
theorem dX6_init_23 : decode cX6_init 23 = .ok (.newarray .int, 2) := by decide +kernel
theorem dX6_init_25 : decode cX6_init 25 = .ok (.putfield 18, 3) := by decide +kernel
theorem dX6_init_28 : decode cX6_init 28 = .ok (.aload_n 0, 1) := by decide +kernel
theorem dX6_init_29 : decode cX6_init 29 = .ok (.bipush 6, 2) := by decide +kernel
theorem dX6_init_31 : decode cX6_init 31 = .ok (.newarray .boolean, 2) := by decide +kernel
theorem dX6_init_33 : decode cX6_init 33 = .ok (.putfield 21, 3) := by decide +kernel
theorem dX6_init_36 : decode cX6_init 36 = .ok (.aload_n 0, 1) := by decide +kernel
theorem dX6_init_37 : decode cX6_init 37 = .ok (.bipush 30, 2) := by decide +kernel
theorem dX6_init_39 : decode cX6_init 39 = .ok (.newarray .int, 2) := by decide +kernel
theorem dX6_init_41 : decode cX6_init 41 = .ok (.putfield 25, 3) := by decide +kernel
theorem dX6_init_44 : decode cX6_init 44 = .ok (.aload_n 0, 1) := by decide +kernel
theorem dX6_init_45 : decode cX6_init 45 = .ok (.bipush 35, 2) := by decide +kernel
theorem dX6_init_47 : decode cX6_init 47 = .ok (.newarray .int, 2) := by decide +kernel
theorem dX6_init_49 : decode cX6_init 49 = .ok (.putfield 28, 3) := by decide +kernel
theorem dX6_init_52 : decode cX6_init 52 = .ok (.aload_n 0, 1) := by decide +kernel
theorem dX6_init_53 : decode cX6_init 53 = .ok (.bipush 6, 2) := by decide +kernel
theorem dX6_init_55 : decode cX6_init 55 = .ok (.newarray .int, 2) := by decide +kernel
theorem dX6_init_57 : decode cX6_init 57 = .ok (.putfield 31, 3) := by decide +kernel
theorem dX6_init_60 : decode cX6_init 60 = .ok (.aload_n 0, 1) := by decide +kernel
theorem dX6_init_61 : decode cX6_init 61 = .ok (.iconst 3, 1) := by decide +kernel
theorem dX6_init_62 : decode cX6_init 62 = .ok (.newarray .int, 2) := by decide +kernel
theorem dX6_init_64 : decode cX6_init 64 = .ok (.putfield 34, 3) := by decide +kernel
theorem dX6_init_67 : decode cX6_init 67 = .ok (.return_, 1) := by decide +kernel
theorem dX6_take_0 : decode cX6_take 0 = .ok (.aload_n 0, 1) := by decide +kernel
theorem dX6_take_1 : decode cX6_take 1 = .ok (.aload_n 1, 1) := by decide +kernel
theorem dX6_take_2 : decode cX6_take 2 = .ok (.getfield 37, 3) := by decide +kernel
theorem dX6_take_5 : decode cX6_take 5 = .ok (.putfield 43, 3) := by decide +kernel
theorem dX6_take_8 : decode cX6_take 8 = .ok (.aload_n 0, 1) := by decide +kernel
theorem dX6_take_9 : decode cX6_take 9 = .ok (.aload_n 1, 1) := by decide +kernel
theorem dX6_take_10 : decode cX6_take 10 = .ok (.getfield 44, 3) := by decide +kernel
theorem dX6_take_13 : decode cX6_take 13 = .ok (.getfield 48, 3) := by decide +kernel
theorem dX6_take_16 : decode cX6_take 16 = .ok (.putfield 53, 3) := by decide +kernel
theorem dX6_take_19 : decode cX6_take 19 = .ok (.iconst 0, 1) := by decide +kernel
theorem dX6_take_20 : decode cX6_take 20 = .ok (.istore_n 2, 1) := by decide +kernel
theorem dX6_take_21 : decode cX6_take 21 = .ok (.iload_n 2, 1) := by decide +kernel
theorem dX6_take_22 : decode cX6_take 22 = .ok (.iconst 5, 1) := by decide +kernel
theorem dX6_take_23 : decode cX6_take 23 = .ok (.if_icmp .ge 16, 3) := by decide +kernel
theorem dX6_take_26 : decode cX6_take 26 = .ok (.aload_n 0, 1) := by decide +kernel
theorem dX6_take_27 : decode cX6_take 27 = .ok (.getfield 18, 3) := by decide +kernel
theorem dX6_take_30 : decode cX6_take 30 = .ok (.iload_n 2, 1) := by decide +kernel
theorem dX6_take_31 : decode cX6_take 31 = .ok (.iconst 0, 1) := by decide +kernel
theorem dX6_take_32 : decode cX6_take 32 = .ok (.iastore, 1) := by decide +kernel
theorem dX6_take_33 : decode cX6_take 33 = .ok (.iinc 2 1, 3) := by decide +kernel
theorem dX6_take_36 : decode cX6_take 36 = .ok (.goto (-15), 3) := by decide +kernel
theorem dX6_take_39 : decode cX6_take 39 = .ok (.iconst 0, 1) := by decide +kernel
theorem dX6_take_40 : decode cX6_take 40 = .ok (.istore_n 2, 1) := by decide +kernel
theorem dX6_take_41 : decode cX6_take 41 = .ok (.iload_n 2, 1) := by decide +kernel
theorem dX6_take_42 : decode cX6_take 42 = .ok (.aload_n 0, 1) := by decide +kernel
theorem dX6_take_43 : decode cX6_take 43 = .ok (.getfield 43, 3) := by decide +kernel
theorem dX6_take_46 : decode cX6_take 46 = .ok (.if_icmp .ge 99, 3) := by decide +kernel
theorem dX6_take_49 : decode cX6_take 49 = .ok (.iconst 0, 1) := by decide +kernel
theorem dX6_take_50 : decode cX6_take 50 = .ok (.istore_n 3, 1) := by decide +kernel
theorem dX6_take_51 : decode cX6_take 51 = .ok (.iload_n 3, 1) := by decide +kernel
theorem dX6_take_52 : decode cX6_take 52 = .ok (.iconst 5, 1) := by decide +kernel
theorem dX6_take_53 : decode cX6_take 53 = .ok (.if_icmp .ge 57, 3) := by decide +kernel
theorem dX6_take_56 : decode cX6_take 56 = .ok (.aload_n 1, 1) := by decide +kernel
theorem dX6_take_57 : decode cX6_take 57 = .ok (.iload_n 2, 1) := by decide +kernel
theorem dX6_take_58 : decode cX6_take 58 = .ok (.iload_n 3, 1) := by decide +kernel
theorem dX6_take_59 : decode cX6_take 59 = .ok (.invokevirtual 54, 3) := by decide +kernel
theorem dX6_take_62 : decode cX6_take 62 = .ok (.istore 4, 2) := by decide +kernel
theorem dX6_take_64 : decode cX6_take 64 = .ok (.iconst 0, 1) := by decide +kernel
theorem dX6_take_65 : decode cX6_take 65 = .ok (.istore 5, 2) := by decide +kernel
theorem dX6_take_67 : decode cX6_take 67 = .ok (.iload 5, 2) := by decide +kernel
theorem dX6_take_69 : decode cX6_take 69 = .ok (.iconst 5, 1) := by decide +kernel
theorem dX6_take_70 : decode cX6_take 70 = .ok (.if_icmp .ge 34, 3) := by decide +kernel
theorem dX6_take_73 : decode cX6_take 73 = .ok (.aload_n 0, 1) := by decide +kernel
theorem dX6_take_74 : decode cX6_take 74 = .ok (.getfield 9, 3) := by decide +kernel
theorem dX6_take_77 : decode cX6_take 77 = .ok (.iload_n 2, 1) := by decide +kernel
theorem dX6_take_78 : decode cX6_take 78 = .ok (.iconst 5, 1) := by decide +kernel
theorem dX6_take_79 : decode cX6_take 79 = .ok (.imul, 1) := by decide +kernel
theorem dX6_take_80 : decode cX6_take 80 = .ok (.iload_n 3, 1) := by decide +kernel
theorem dX6_take_81 : decode cX6_take 81 = .ok (.iadd, 1) := by decide +kernel
theorem dX6_take_82 : decode cX6_take 82 = .ok (.iconst 5, 1) := by decide +kernel
theorem dX6_take_83 : decode cX6_take 83 = .ok (.imul, 1) := by decide +kernel
theorem dX6_take_84 : decode cX6_take 84 = .ok (.iload 5, 2) := by decide +kernel
theorem dX6_take_86 : decode cX6_take 86 = .ok (.iadd, 1) := by decide +kernel
theorem dX6_take_87 : decode cX6_take 87 = .ok (.aload_n 1, 1) := by decide +kernel
theorem dX6_take_88 : decode cX6_take 88 = .ok (.iload_n 2, 1) := by decide +kernel
theorem dX6_take_89 : decode cX6_take 89 = .ok (.iload 4, 2) := by decide +kernel
theorem dX6_take_91 : decode cX6_take 91 = .ok (.iload_n 3, 1) := by decide +kernel
theorem dX6_take_92 : decode cX6_take 92 = .ok (.iload 5, 2) := by decide +kernel
theorem dX6_take_94 : decode cX6_take 94 = .ok (.invokevirtual 58, 3) := by decide +kernel
theorem dX6_take_97 : decode cX6_take 97 = .ok (.iastore, 1) := by decide +kernel
theorem dX6_take_98 : decode cX6_take 98 = .ok (.iinc 5 1, 3) := by decide +kernel
theorem dX6_take_101 : decode cX6_take 101 = .ok (.goto (-34), 3) := by decide +kernel
theorem dX6_take_104 : decode cX6_take 104 = .ok (.iinc 3 1, 3) := by decide +kernel
theorem dX6_take_107 : decode cX6_take 107 = .ok (.goto (-56), 3) := by decide +kernel
theorem dX6_take_110 : decode cX6_take 110 = .ok (.aload_n 0, 1) := by decide +kernel
theorem dX6_take_111 : decode cX6_take 111 = .ok (.getfield 21, 3) := by decide +kernel
theorem dX6_take_114 : decode cX6_take 114 = .ok (.iload_n 2, 1) := by decide +kernel
theorem dX6_take_115 : decode cX6_take 115 = .ok (.aload_n 1, 1) := by decide +kernel
theorem dX6_take_116 : decode cX6_take 116 = .ok (.iload_n 2, 1) := by decide +kernel
theorem dX6_take_117 : decode cX6_take 117 = .ok (.invokevirtual 61, 3) := by decide +kernel
theorem dX6_take_120 : decode cX6_take 120 = .ok (.bastore, 1) := by decide +kernel
theorem dX6_take_121 : decode cX6_take 121 = .ok (.aload_n 0, 1) := by decide +kernel
theorem dX6_take_122 : decode cX6_take 122 = .ok (.getfield 15, 3) := by decide +kernel
theorem dX6_take_125 : decode cX6_take 125 = .ok (.iload_n 2, 1) := by decide +kernel
theorem dX6_take_126 : decode cX6_take 126 = .ok (.iconst (-1), 1) := by decide +kernel
theorem dX6_take_127 : decode cX6_take 127 = .ok (.iastore, 1) := by decide +kernel
theorem dX6_take_128 : decode cX6_take 128 = .ok (.aload_n 0, 1) := by decide +kernel
theorem dX6_take_129 : decode cX6_take 129 = .ok (.iload_n 2, 1) := by decide +kernel
theorem dX6_take_130 : decode cX6_take 130 = .ok (.aload_n 1, 1) := by decide +kernel
theorem dX6_take_131 : decode cX6_take 131 = .ok (.getfield 65, 3) := by decide +kernel
theorem dX6_take_134 : decode cX6_take 134 = .ok (.iload_n 2, 1) := by decide +kernel
theorem dX6_take_135 : decode cX6_take 135 = .ok (.iaload, 1) := by decide +kernel
theorem dX6_take_136 : decode cX6_take 136 = .ok (.invokevirtual 66, 3) := by decide +kernel
theorem dX6_take_139 : decode cX6_take 139 = .ok (.iinc 2 1, 3) := by decide +kernel
theorem dX6_take_142 : decode cX6_take 142 = .ok (.goto (-101), 3) := by decide +kernel
theorem dX6_take_145 : decode cX6_take 145 = .ok (.return_, 1) := by decide +kernel
theorem dX6_put_0 : decode cX6_put 0 = .ok (.iconst 0, 1) := by decide +kernel
theorem dX6_put_1 : decode cX6_put 1 = .ok (.istore_n 3, 1) := by decide +kernel
theorem dX6_put_2 : decode cX6_put 2 = .ok (.iload_n 3, 1) := by decide +kernel
theorem dX6_put_3 : decode cX6_put 3 = .ok (.iconst 5, 1) := by decide +kernel
theorem dX6_put_4 : decode cX6_put 4 = .ok (.if_icmp .ge 38, 3) := by decide +kernel
theorem dX6_put_7 : decode cX6_put 7 = .ok (.aload_n 0, 1) := by decide +kernel
theorem dX6_put_8 : decode cX6_put 8 = .ok (.getfield 18, 3) := by decide +kernel
theorem dX6_put_11 : decode cX6_put 11 = .ok (.iload_n 3, 1) := by decide +kernel
theorem dX6_put_12 : decode cX6_put 12 = .ok (.dup2, 1) := by decide +kernel
theorem dX6_put_13 : decode cX6_put 13 = .ok (.iaload, 1) := by decide +kernel
theorem dX6_put_14 : decode cX6_put 14 = .ok (.aload_n 0, 1) := by decide +kernel
theorem dX6_put_15 : decode cX6_put 15 = .ok (.iload_n 1, 1) := by decide +kernel
theorem dX6_put_16 : decode cX6_put 16 = .ok (.iload_n 2, 1) := by decide +kernel
theorem dX6_put_17 : decode cX6_put 17 = .ok (.iload_n 3, 1) := by decide +kernel
theorem dX6_put_18 : decode cX6_put 18 = .ok (.invokevirtual 70, 3) := by decide +kernel
theorem dX6_put_21 : decode cX6_put 21 = .ok (.aload_n 0, 1) := by decide +kernel
theorem dX6_put_22 : decode cX6_put 22 = .ok (.iload_n 1, 1) := by decide +kernel
theorem dX6_put_23 : decode cX6_put 23 = .ok (.aload_n 0, 1) := by decide +kernel
theorem dX6_put_24 : decode cX6_put 24 = .ok (.getfield 15, 3) := by decide +kernel
theorem dX6_put_27 : decode cX6_put 27 = .ok (.iload_n 1, 1) := by decide +kernel
theorem dX6_put_28 : decode cX6_put 28 = .ok (.iaload, 1) := by decide +kernel
theorem dX6_put_29 : decode cX6_put 29 = .ok (.iload_n 3, 1) := by decide +kernel
theorem dX6_put_30 : decode cX6_put 30 = .ok (.invokevirtual 70, 3) := by decide +kernel
theorem dX6_put_33 : decode cX6_put 33 = .ok (.isub, 1) := by decide +kernel
theorem dX6_put_34 : decode cX6_put 34 = .ok (.iadd, 1) := by decide +kernel
theorem dX6_put_35 : decode cX6_put 35 = .ok (.iastore, 1) := by decide +kernel
theorem dX6_put_36 : decode cX6_put 36 = .ok (.iinc 3 1, 3) := by decide +kernel
theorem dX6_put_39 : decode cX6_put 39 = .ok (.goto (-37), 3) := by decide +kernel
theorem dX6_put_42 : decode cX6_put 42 = .ok (.aload_n 0, 1) := by decide +kernel
theorem dX6_put_43 : decode cX6_put 43 = .ok (.getfield 15, 3) := by decide +kernel
theorem dX6_put_46 : decode cX6_put 46 = .ok (.iload_n 1, 1) := by decide +kernel
theorem dX6_put_47 : decode cX6_put 47 = .ok (.iload_n 2, 1) := by decide +kernel
theorem dX6_put_48 : decode cX6_put 48 = .ok (.iastore, 1) := by decide +kernel
theorem dX6_put_49 : decode cX6_put 49 = .ok (.return_, 1) := by decide +kernel
theorem dX6_heardFrom_0 : decode cX6_heardFrom 0 = .ok (.iload_n 2, 1) := by decide +kernel
theorem dX6_heardFrom_1 : decode cX6_heardFrom 1 = .ok (.iconst (-1), 1) := by decide +kernel
theorem dX6_heardFrom_2 : decode cX6_heardFrom 2 = .ok (.if_icmp .ne 7, 3) := by decide +kernel
theorem dX6_heardFrom_5 : decode cX6_heardFrom 5 = .ok (.iconst 0, 1) := by decide +kernel
theorem dX6_heardFrom_6 : decode cX6_heardFrom 6 = .ok (.goto 17, 3) := by decide +kernel
theorem dX6_heardFrom_9 : decode cX6_heardFrom 9 = .ok (.aload_n 0, 1) := by decide +kernel
theorem dX6_heardFrom_10 : decode cX6_heardFrom 10 = .ok (.getfield 9, 3) := by decide +kernel
theorem dX6_heardFrom_13 : decode cX6_heardFrom 13 = .ok (.iload_n 1, 1) := by decide +kernel
theorem dX6_heardFrom_14 : decode cX6_heardFrom 14 = .ok (.iconst 5, 1) := by decide +kernel
theorem dX6_heardFrom_15 : decode cX6_heardFrom 15 = .ok (.imul, 1) := by decide +kernel
theorem dX6_heardFrom_16 : decode cX6_heardFrom 16 = .ok (.iload_n 2, 1) := by decide +kernel
theorem dX6_heardFrom_17 : decode cX6_heardFrom 17 = .ok (.iadd, 1) := by decide +kernel
theorem dX6_heardFrom_18 : decode cX6_heardFrom 18 = .ok (.iconst 5, 1) := by decide +kernel
theorem dX6_heardFrom_19 : decode cX6_heardFrom 19 = .ok (.imul, 1) := by decide +kernel
theorem dX6_heardFrom_20 : decode cX6_heardFrom 20 = .ok (.iload_n 3, 1) := by decide +kernel
theorem dX6_heardFrom_21 : decode cX6_heardFrom 21 = .ok (.iadd, 1) := by decide +kernel
theorem dX6_heardFrom_22 : decode cX6_heardFrom 22 = .ok (.iaload, 1) := by decide +kernel
theorem dX6_heardFrom_23 : decode cX6_heardFrom 23 = .ok (.ireturn, 1) := by decide +kernel
theorem dX6_greatest_0 : decode cX6_greatest 0 = .ok (.iconst 0, 1) := by decide +kernel
theorem dX6_greatest_1 : decode cX6_greatest 1 = .ok (.istore_n 1, 1) := by decide +kernel
theorem dX6_greatest_2 : decode cX6_greatest 2 = .ok (.iconst 0, 1) := by decide +kernel
theorem dX6_greatest_3 : decode cX6_greatest 3 = .ok (.istore_n 2, 1) := by decide +kernel
theorem dX6_greatest_4 : decode cX6_greatest 4 = .ok (.iload_n 2, 1) := by decide +kernel
theorem dX6_greatest_5 : decode cX6_greatest 5 = .ok (.iconst 5, 1) := by decide +kernel
theorem dX6_greatest_6 : decode cX6_greatest 6 = .ok (.if_icmp .ge 20, 3) := by decide +kernel
theorem dX6_greatest_9 : decode cX6_greatest 9 = .ok (.iload_n 1, 1) := by decide +kernel
theorem dX6_greatest_10 : decode cX6_greatest 10 = .ok (.aload_n 0, 1) := by decide +kernel
theorem dX6_greatest_11 : decode cX6_greatest 11 = .ok (.getfield 18, 3) := by decide +kernel
theorem dX6_greatest_14 : decode cX6_greatest 14 = .ok (.iload_n 2, 1) := by decide +kernel
theorem dX6_greatest_15 : decode cX6_greatest 15 = .ok (.iaload, 1) := by decide +kernel
theorem dX6_greatest_16 : decode cX6_greatest 16 = .ok (.invokestatic 74, 3) := by decide +kernel
theorem dX6_greatest_19 : decode cX6_greatest 19 = .ok (.istore_n 1, 1) := by decide +kernel
theorem dX6_greatest_20 : decode cX6_greatest 20 = .ok (.iinc 2 1, 3) := by decide +kernel
theorem dX6_greatest_23 : decode cX6_greatest 23 = .ok (.goto (-19), 3) := by decide +kernel
theorem dX6_greatest_26 : decode cX6_greatest 26 = .ok (.iload_n 1, 1) := by decide +kernel
theorem dX6_greatest_27 : decode cX6_greatest 27 = .ok (.ireturn, 1) := by decide +kernel
theorem dX6_calmestHouse_0 : decode cX6_calmestHouse 0 = .ok (.iconst 0, 1) := by decide +kernel
theorem dX6_calmestHouse_1 : decode cX6_calmestHouse 1 = .ok (.istore_n 2, 1) := by decide +kernel
theorem dX6_calmestHouse_2 : decode cX6_calmestHouse 2 = .ok (.ldc 81, 2) := by decide +kernel
theorem dX6_calmestHouse_4 : decode cX6_calmestHouse 4 = .ok (.istore_n 3, 1) := by decide +kernel
theorem dX6_calmestHouse_5 : decode cX6_calmestHouse 5 = .ok (.iconst 0, 1) := by decide +kernel
theorem dX6_calmestHouse_6 : decode cX6_calmestHouse 6 = .ok (.istore 4, 2) := by decide +kernel
theorem dX6_calmestHouse_8 : decode cX6_calmestHouse 8 = .ok (.iload 4, 2) := by decide +kernel
theorem dX6_calmestHouse_10 : decode cX6_calmestHouse 10 = .ok (.iconst 5, 1) := by decide +kernel
theorem dX6_calmestHouse_11 : decode cX6_calmestHouse 11 = .ok (.if_icmp .ge 34, 3) := by decide +kernel
theorem dX6_calmestHouse_14 : decode cX6_calmestHouse 14 = .ok (.aload_n 0, 1) := by decide +kernel
theorem dX6_calmestHouse_15 : decode cX6_calmestHouse 15 = .ok (.iload_n 1, 1) := by decide +kernel
theorem dX6_calmestHouse_16 : decode cX6_calmestHouse 16 = .ok (.iload 4, 2) := by decide +kernel
theorem dX6_calmestHouse_18 : decode cX6_calmestHouse 18 = .ok (.invokevirtual 66, 3) := by decide +kernel
theorem dX6_calmestHouse_21 : decode cX6_calmestHouse 21 = .ok (.aload_n 0, 1) := by decide +kernel
theorem dX6_calmestHouse_22 : decode cX6_calmestHouse 22 = .ok (.invokevirtual 82, 3) := by decide +kernel
theorem dX6_calmestHouse_25 : decode cX6_calmestHouse 25 = .ok (.istore 5, 2) := by decide +kernel
theorem dX6_calmestHouse_27 : decode cX6_calmestHouse 27 = .ok (.iload 5, 2) := by decide +kernel
theorem dX6_calmestHouse_29 : decode cX6_calmestHouse 29 = .ok (.iload_n 3, 1) := by decide +kernel
theorem dX6_calmestHouse_30 : decode cX6_calmestHouse 30 = .ok (.if_icmp .ge 9, 3) := by decide +kernel
theorem dX6_calmestHouse_33 : decode cX6_calmestHouse 33 = .ok (.iload 5, 2) := by decide +kernel
theorem dX6_calmestHouse_35 : decode cX6_calmestHouse 35 = .ok (.istore_n 3, 1) := by decide +kernel
theorem dX6_calmestHouse_36 : decode cX6_calmestHouse 36 = .ok (.iload 4, 2) := by decide +kernel
theorem dX6_calmestHouse_38 : decode cX6_calmestHouse 38 = .ok (.istore_n 2, 1) := by decide +kernel
theorem dX6_calmestHouse_39 : decode cX6_calmestHouse 39 = .ok (.iinc 4 1, 3) := by decide +kernel
theorem dX6_calmestHouse_42 : decode cX6_calmestHouse 42 = .ok (.goto (-34), 3) := by decide +kernel
theorem dX6_calmestHouse_45 : decode cX6_calmestHouse 45 = .ok (.iload_n 2, 1) := by decide +kernel
theorem dX6_calmestHouse_46 : decode cX6_calmestHouse 46 = .ok (.ireturn, 1) := by decide +kernel
theorem dX6_shareOut_0 : decode cX6_shareOut 0 = .ok (.aload_n 0, 1) := by decide +kernel
theorem dX6_shareOut_1 : decode cX6_shareOut 1 = .ok (.ldc 81, 2) := by decide +kernel
theorem dX6_shareOut_3 : decode cX6_shareOut 3 = .ok (.putfield 86, 3) := by decide +kernel
theorem dX6_shareOut_6 : decode cX6_shareOut 6 = .ok (.aload_n 0, 1) := by decide +kernel
theorem dX6_shareOut_7 : decode cX6_shareOut 7 = .ok (.ldc 81, 2) := by decide +kernel
theorem dX6_shareOut_9 : decode cX6_shareOut 9 = .ok (.putfield 89, 3) := by decide +kernel
theorem dX6_shareOut_12 : decode cX6_shareOut 12 = .ok (.iconst 0, 1) := by decide +kernel
theorem dX6_shareOut_13 : decode cX6_shareOut 13 = .ok (.istore_n 1, 1) := by decide +kernel
theorem dX6_shareOut_14 : decode cX6_shareOut 14 = .ok (.iload_n 1, 1) := by decide +kernel
theorem dX6_shareOut_15 : decode cX6_shareOut 15 = .ok (.iconst 5, 1) := by decide +kernel
theorem dX6_shareOut_16 : decode cX6_shareOut 16 = .ok (.if_icmp .ge 67, 3) := by decide +kernel
theorem dX6_shareOut_19 : decode cX6_shareOut 19 = .ok (.aload_n 0, 1) := by decide +kernel
theorem dX6_shareOut_20 : decode cX6_shareOut 20 = .ok (.getfield 28, 3) := by decide +kernel
theorem dX6_shareOut_23 : decode cX6_shareOut 23 = .ok (.iload_n 1, 1) := by decide +kernel
theorem dX6_shareOut_24 : decode cX6_shareOut 24 = .ok (.iconst 0, 1) := by decide +kernel
theorem dX6_shareOut_25 : decode cX6_shareOut 25 = .ok (.iastore, 1) := by decide +kernel
theorem dX6_shareOut_26 : decode cX6_shareOut 26 = .ok (.iconst 0, 1) := by decide +kernel
theorem dX6_shareOut_27 : decode cX6_shareOut 27 = .ok (.istore_n 2, 1) := by decide +kernel
theorem dX6_shareOut_28 : decode cX6_shareOut 28 = .ok (.iload_n 2, 1) := by decide +kernel
theorem dX6_shareOut_29 : decode cX6_shareOut 29 = .ok (.aload_n 0, 1) := by decide +kernel
theorem dX6_shareOut_30 : decode cX6_shareOut 30 = .ok (.getfield 43, 3) := by decide +kernel
theorem dX6_shareOut_33 : decode cX6_shareOut 33 = .ok (.if_icmp .ge 44, 3) := by decide +kernel
theorem dX6_shareOut_36 : decode cX6_shareOut 36 = .ok (.aload_n 0, 1) := by decide +kernel
theorem dX6_shareOut_37 : decode cX6_shareOut 37 = .ok (.getfield 25, 3) := by decide +kernel
theorem dX6_shareOut_40 : decode cX6_shareOut 40 = .ok (.iload_n 2, 1) := by decide +kernel
theorem dX6_shareOut_41 : decode cX6_shareOut 41 = .ok (.iconst 5, 1) := by decide +kernel
theorem dX6_shareOut_42 : decode cX6_shareOut 42 = .ok (.imul, 1) := by decide +kernel
theorem dX6_shareOut_43 : decode cX6_shareOut 43 = .ok (.iload_n 1, 1) := by decide +kernel
theorem dX6_shareOut_44 : decode cX6_shareOut 44 = .ok (.iadd, 1) := by decide +kernel
theorem dX6_shareOut_45 : decode cX6_shareOut 45 = .ok (.aload_n 0, 1) := by decide +kernel
theorem dX6_shareOut_46 : decode cX6_shareOut 46 = .ok (.iload_n 2, 1) := by decide +kernel
theorem dX6_shareOut_47 : decode cX6_shareOut 47 = .ok (.iload_n 1, 1) := by decide +kernel
theorem dX6_shareOut_48 : decode cX6_shareOut 48 = .ok (.invokevirtual 92, 3) := by decide +kernel
theorem dX6_shareOut_51 : decode cX6_shareOut 51 = .ok (.iastore, 1) := by decide +kernel
theorem dX6_shareOut_52 : decode cX6_shareOut 52 = .ok (.aload_n 0, 1) := by decide +kernel
theorem dX6_shareOut_53 : decode cX6_shareOut 53 = .ok (.getfield 28, 3) := by decide +kernel
theorem dX6_shareOut_56 : decode cX6_shareOut 56 = .ok (.iload_n 1, 1) := by decide +kernel
theorem dX6_shareOut_57 : decode cX6_shareOut 57 = .ok (.dup2, 1) := by decide +kernel
theorem dX6_shareOut_58 : decode cX6_shareOut 58 = .ok (.iaload, 1) := by decide +kernel
theorem dX6_shareOut_59 : decode cX6_shareOut 59 = .ok (.aload_n 0, 1) := by decide +kernel
theorem dX6_shareOut_60 : decode cX6_shareOut 60 = .ok (.getfield 25, 3) := by decide +kernel
theorem dX6_shareOut_63 : decode cX6_shareOut 63 = .ok (.iload_n 2, 1) := by decide +kernel
theorem dX6_shareOut_64 : decode cX6_shareOut 64 = .ok (.iconst 5, 1) := by decide +kernel
theorem dX6_shareOut_65 : decode cX6_shareOut 65 = .ok (.imul, 1) := by decide +kernel
theorem dX6_shareOut_66 : decode cX6_shareOut 66 = .ok (.iload_n 1, 1) := by decide +kernel
theorem dX6_shareOut_67 : decode cX6_shareOut 67 = .ok (.iadd, 1) := by decide +kernel
theorem dX6_shareOut_68 : decode cX6_shareOut 68 = .ok (.iaload, 1) := by decide +kernel
theorem dX6_shareOut_69 : decode cX6_shareOut 69 = .ok (.iadd, 1) := by decide +kernel
theorem dX6_shareOut_70 : decode cX6_shareOut 70 = .ok (.iastore, 1) := by decide +kernel
theorem dX6_shareOut_71 : decode cX6_shareOut 71 = .ok (.iinc 2 1, 3) := by decide +kernel
theorem dX6_shareOut_74 : decode cX6_shareOut 74 = .ok (.goto (-46), 3) := by decide +kernel
theorem dX6_shareOut_77 : decode cX6_shareOut 77 = .ok (.iinc 1 1, 3) := by decide +kernel
theorem dX6_shareOut_80 : decode cX6_shareOut 80 = .ok (.goto (-66), 3) := by decide +kernel
theorem dX6_shareOut_83 : decode cX6_shareOut 83 = .ok (.aload_n 0, 1) := by decide +kernel
theorem dX6_shareOut_84 : decode cX6_shareOut 84 = .ok (.iconst 0, 1) := by decide +kernel
theorem dX6_shareOut_85 : decode cX6_shareOut 85 = .ok (.invokevirtual 95, 3) := by decide +kernel
theorem dX6_shareOut_88 : decode cX6_shareOut 88 = .ok (.return_, 1) := by decide +kernel
theorem dX6_leastHeard_0 : decode cX6_leastHeard 0 = .ok (.aload_n 0, 1) := by decide +kernel
theorem dX6_leastHeard_1 : decode cX6_leastHeard 1 = .ok (.getfield 21, 3) := by decide +kernel
theorem dX6_leastHeard_4 : decode cX6_leastHeard 4 = .ok (.iload_n 1, 1) := by decide +kernel
theorem dX6_leastHeard_5 : decode cX6_leastHeard 5 = .ok (.baload, 1) := by decide +kernel
theorem dX6_leastHeard_6 : decode cX6_leastHeard 6 = .ok (.ifCond .eq 7, 3) := by decide +kernel
theorem dX6_leastHeard_9 : decode cX6_leastHeard 9 = .ok (.iconst 0, 1) := by decide +kernel
theorem dX6_leastHeard_10 : decode cX6_leastHeard 10 = .ok (.goto 5, 3) := by decide +kernel
theorem dX6_leastHeard_13 : decode cX6_leastHeard 13 = .ok (.ldc 81, 2) := by decide +kernel
theorem dX6_leastHeard_15 : decode cX6_leastHeard 15 = .ok (.istore_n 3, 1) := by decide +kernel
theorem dX6_leastHeard_16 : decode cX6_leastHeard 16 = .ok (.iconst 0, 1) := by decide +kernel
theorem dX6_leastHeard_17 : decode cX6_leastHeard 17 = .ok (.istore 4, 2) := by decide +kernel
theorem dX6_leastHeard_19 : decode cX6_leastHeard 19 = .ok (.iload 4, 2) := by decide +kernel
theorem dX6_leastHeard_21 : decode cX6_leastHeard 21 = .ok (.iconst 5, 1) := by decide +kernel
theorem dX6_leastHeard_22 : decode cX6_leastHeard 22 = .ok (.if_icmp .ge 22, 3) := by decide +kernel
theorem dX6_leastHeard_25 : decode cX6_leastHeard 25 = .ok (.iload_n 3, 1) := by decide +kernel
theorem dX6_leastHeard_26 : decode cX6_leastHeard 26 = .ok (.aload_n 0, 1) := by decide +kernel
theorem dX6_leastHeard_27 : decode cX6_leastHeard 27 = .ok (.iload_n 1, 1) := by decide +kernel
theorem dX6_leastHeard_28 : decode cX6_leastHeard 28 = .ok (.iload 4, 2) := by decide +kernel
theorem dX6_leastHeard_30 : decode cX6_leastHeard 30 = .ok (.iload_n 2, 1) := by decide +kernel
theorem dX6_leastHeard_31 : decode cX6_leastHeard 31 = .ok (.invokevirtual 70, 3) := by decide +kernel
theorem dX6_leastHeard_34 : decode cX6_leastHeard 34 = .ok (.invokestatic 99, 3) := by decide +kernel
theorem dX6_leastHeard_37 : decode cX6_leastHeard 37 = .ok (.istore_n 3, 1) := by decide +kernel
theorem dX6_leastHeard_38 : decode cX6_leastHeard 38 = .ok (.iinc 4 1, 3) := by decide +kernel
theorem dX6_leastHeard_41 : decode cX6_leastHeard 41 = .ok (.goto (-22), 3) := by decide +kernel
theorem dX6_leastHeard_44 : decode cX6_leastHeard 44 = .ok (.iload_n 3, 1) := by decide +kernel
theorem dX6_leastHeard_45 : decode cX6_leastHeard 45 = .ok (.ireturn, 1) := by decide +kernel
theorem dX6_shareFrom_0 : decode cX6_shareFrom 0 = .ok (.iload_n 1, 1) := by decide +kernel
theorem dX6_shareFrom_1 : decode cX6_shareFrom 1 = .ok (.aload_n 0, 1) := by decide +kernel
theorem dX6_shareFrom_2 : decode cX6_shareFrom 2 = .ok (.getfield 43, 3) := by decide +kernel
theorem dX6_shareFrom_5 : decode cX6_shareFrom 5 = .ok (.if_icmp .lt 8, 3) := by decide +kernel
theorem dX6_shareFrom_8 : decode cX6_shareFrom 8 = .ok (.aload_n 0, 1) := by decide +kernel
theorem dX6_shareFrom_9 : decode cX6_shareFrom 9 = .ok (.invokevirtual 102, 3) := by decide +kernel
theorem dX6_shareFrom_12 : decode cX6_shareFrom 12 = .ok (.return_, 1) := by decide +kernel
theorem dX6_shareFrom_13 : decode cX6_shareFrom 13 = .ok (.aload_n 0, 1) := by decide +kernel
theorem dX6_shareFrom_14 : decode cX6_shareFrom 14 = .ok (.getfield 21, 3) := by decide +kernel
theorem dX6_shareFrom_17 : decode cX6_shareFrom 17 = .ok (.iload_n 1, 1) := by decide +kernel
theorem dX6_shareFrom_18 : decode cX6_shareFrom 18 = .ok (.baload, 1) := by decide +kernel
theorem dX6_shareFrom_19 : decode cX6_shareFrom 19 = .ok (.ifCond .eq 7, 3) := by decide +kernel
theorem dX6_shareFrom_22 : decode cX6_shareFrom 22 = .ok (.iconst (-1), 1) := by decide +kernel
theorem dX6_shareFrom_23 : decode cX6_shareFrom 23 = .ok (.goto 4, 3) := by decide +kernel
theorem dX6_shareFrom_26 : decode cX6_shareFrom 26 = .ok (.iconst 0, 1) := by decide +kernel
theorem dX6_shareFrom_27 : decode cX6_shareFrom 27 = .ok (.istore_n 2, 1) := by decide +kernel
theorem dX6_shareFrom_28 : decode cX6_shareFrom 28 = .ok (.aload_n 0, 1) := by decide +kernel
theorem dX6_shareFrom_29 : decode cX6_shareFrom 29 = .ok (.getfield 21, 3) := by decide +kernel
theorem dX6_shareFrom_32 : decode cX6_shareFrom 32 = .ok (.iload_n 1, 1) := by decide +kernel
theorem dX6_shareFrom_33 : decode cX6_shareFrom 33 = .ok (.baload, 1) := by decide +kernel
theorem dX6_shareFrom_34 : decode cX6_shareFrom 34 = .ok (.ifCond .eq 7, 3) := by decide +kernel
theorem dX6_shareFrom_37 : decode cX6_shareFrom 37 = .ok (.iconst (-1), 1) := by decide +kernel
theorem dX6_shareFrom_38 : decode cX6_shareFrom 38 = .ok (.goto 4, 3) := by decide +kernel
theorem dX6_shareFrom_41 : decode cX6_shareFrom 41 = .ok (.iconst 4, 1) := by decide +kernel
theorem dX6_shareFrom_42 : decode cX6_shareFrom 42 = .ok (.istore_n 3, 1) := by decide +kernel
theorem dX6_shareFrom_43 : decode cX6_shareFrom 43 = .ok (.iload_n 2, 1) := by decide +kernel
theorem dX6_shareFrom_44 : decode cX6_shareFrom 44 = .ok (.istore 4, 2) := by decide +kernel
theorem dX6_shareFrom_46 : decode cX6_shareFrom 46 = .ok (.iload 4, 2) := by decide +kernel
theorem dX6_shareFrom_48 : decode cX6_shareFrom 48 = .ok (.iload_n 3, 1) := by decide +kernel
theorem dX6_shareFrom_49 : decode cX6_shareFrom 49 = .ok (.if_icmp .gt 26, 3) := by decide +kernel
theorem dX6_shareFrom_52 : decode cX6_shareFrom 52 = .ok (.aload_n 0, 1) := by decide +kernel
theorem dX6_shareFrom_53 : decode cX6_shareFrom 53 = .ok (.iload_n 1, 1) := by decide +kernel
theorem dX6_shareFrom_54 : decode cX6_shareFrom 54 = .ok (.iload 4, 2) := by decide +kernel
theorem dX6_shareFrom_56 : decode cX6_shareFrom 56 = .ok (.invokevirtual 105, 3) := by decide +kernel
theorem dX6_shareFrom_59 : decode cX6_shareFrom 59 = .ok (.ifCond .eq 10, 3) := by decide +kernel
theorem dX6_shareFrom_62 : decode cX6_shareFrom 62 = .ok (.aload_n 0, 1) := by decide +kernel
theorem dX6_shareFrom_63 : decode cX6_shareFrom 63 = .ok (.iload_n 1, 1) := by decide +kernel
theorem dX6_shareFrom_64 : decode cX6_shareFrom 64 = .ok (.iconst 1, 1) := by decide +kernel
theorem dX6_shareFrom_65 : decode cX6_shareFrom 65 = .ok (.iadd, 1) := by decide +kernel
theorem dX6_shareFrom_66 : decode cX6_shareFrom 66 = .ok (.invokevirtual 95, 3) := by decide +kernel
theorem dX6_shareFrom_69 : decode cX6_shareFrom 69 = .ok (.iinc 4 1, 3) := by decide +kernel
theorem dX6_shareFrom_72 : decode cX6_shareFrom 72 = .ok (.goto (-26), 3) := by decide +kernel
theorem dX6_shareFrom_75 : decode cX6_shareFrom 75 = .ok (.return_, 1) := by decide +kernel
theorem dX6_isBetter_0 : decode cX6_isBetter 0 = .ok (.aload_n 0, 1) := by decide +kernel
theorem dX6_isBetter_1 : decode cX6_isBetter 1 = .ok (.getfield 15, 3) := by decide +kernel
theorem dX6_isBetter_4 : decode cX6_isBetter 4 = .ok (.iload_n 1, 1) := by decide +kernel
theorem dX6_isBetter_5 : decode cX6_isBetter 5 = .ok (.iload_n 2, 1) := by decide +kernel
theorem dX6_isBetter_6 : decode cX6_isBetter 6 = .ok (.iastore, 1) := by decide +kernel
theorem dX6_isBetter_7 : decode cX6_isBetter 7 = .ok (.iconst 0, 1) := by decide +kernel
theorem dX6_isBetter_8 : decode cX6_isBetter 8 = .ok (.istore_n 3, 1) := by decide +kernel
theorem dX6_isBetter_9 : decode cX6_isBetter 9 = .ok (.iconst 0, 1) := by decide +kernel
theorem dX6_isBetter_10 : decode cX6_isBetter 10 = .ok (.istore 4, 2) := by decide +kernel
theorem dX6_isBetter_12 : decode cX6_isBetter 12 = .ok (.iconst 0, 1) := by decide +kernel
theorem dX6_isBetter_13 : decode cX6_isBetter 13 = .ok (.istore 5, 2) := by decide +kernel
theorem dX6_isBetter_15 : decode cX6_isBetter 15 = .ok (.iload 5, 2) := by decide +kernel
theorem dX6_isBetter_17 : decode cX6_isBetter 17 = .ok (.iconst 5, 1) := by decide +kernel
theorem dX6_isBetter_18 : decode cX6_isBetter 18 = .ok (.if_icmp .ge 68, 3) := by decide +kernel
theorem dX6_isBetter_21 : decode cX6_isBetter 21 = .ok (.iload_n 1, 1) := by decide +kernel
theorem dX6_isBetter_22 : decode cX6_isBetter 22 = .ok (.iconst 5, 1) := by decide +kernel
theorem dX6_isBetter_23 : decode cX6_isBetter 23 = .ok (.imul, 1) := by decide +kernel
theorem dX6_isBetter_24 : decode cX6_isBetter 24 = .ok (.iload 5, 2) := by decide +kernel
theorem dX6_isBetter_26 : decode cX6_isBetter 26 = .ok (.iadd, 1) := by decide +kernel
theorem dX6_isBetter_27 : decode cX6_isBetter 27 = .ok (.istore 6, 2) := by decide +kernel
theorem dX6_isBetter_29 : decode cX6_isBetter 29 = .ok (.aload_n 0, 1) := by decide +kernel
theorem dX6_isBetter_30 : decode cX6_isBetter 30 = .ok (.getfield 28, 3) := by decide +kernel
theorem dX6_isBetter_33 : decode cX6_isBetter 33 = .ok (.iload 6, 2) := by decide +kernel
theorem dX6_isBetter_35 : decode cX6_isBetter 35 = .ok (.iaload, 1) := by decide +kernel
theorem dX6_isBetter_36 : decode cX6_isBetter 36 = .ok (.aload_n 0, 1) := by decide +kernel
theorem dX6_isBetter_37 : decode cX6_isBetter 37 = .ok (.getfield 25, 3) := by decide +kernel
theorem dX6_isBetter_40 : decode cX6_isBetter 40 = .ok (.iload 6, 2) := by decide +kernel
theorem dX6_isBetter_42 : decode cX6_isBetter 42 = .ok (.iaload, 1) := by decide +kernel
theorem dX6_isBetter_43 : decode cX6_isBetter 43 = .ok (.isub, 1) := by decide +kernel
theorem dX6_isBetter_44 : decode cX6_isBetter 44 = .ok (.aload_n 0, 1) := by decide +kernel
theorem dX6_isBetter_45 : decode cX6_isBetter 45 = .ok (.iload_n 1, 1) := by decide +kernel
theorem dX6_isBetter_46 : decode cX6_isBetter 46 = .ok (.iload_n 2, 1) := by decide +kernel
theorem dX6_isBetter_47 : decode cX6_isBetter 47 = .ok (.iload 5, 2) := by decide +kernel
theorem dX6_isBetter_49 : decode cX6_isBetter 49 = .ok (.invokevirtual 70, 3) := by decide +kernel
theorem dX6_isBetter_52 : decode cX6_isBetter 52 = .ok (.iadd, 1) := by decide +kernel
theorem dX6_isBetter_53 : decode cX6_isBetter 53 = .ok (.istore 7, 2) := by decide +kernel
theorem dX6_isBetter_55 : decode cX6_isBetter 55 = .ok (.aload_n 0, 1) := by decide +kernel
theorem dX6_isBetter_56 : decode cX6_isBetter 56 = .ok (.getfield 28, 3) := by decide +kernel
theorem dX6_isBetter_59 : decode cX6_isBetter 59 = .ok (.iload 6, 2) := by decide +kernel
theorem dX6_isBetter_61 : decode cX6_isBetter 61 = .ok (.iconst 5, 1) := by decide +kernel
theorem dX6_isBetter_62 : decode cX6_isBetter 62 = .ok (.iadd, 1) := by decide +kernel
theorem dX6_isBetter_63 : decode cX6_isBetter 63 = .ok (.iload 7, 2) := by decide +kernel
theorem dX6_isBetter_65 : decode cX6_isBetter 65 = .ok (.iastore, 1) := by decide +kernel
theorem dX6_isBetter_66 : decode cX6_isBetter 66 = .ok (.iload_n 3, 1) := by decide +kernel
theorem dX6_isBetter_67 : decode cX6_isBetter 67 = .ok (.iload 7, 2) := by decide +kernel
theorem dX6_isBetter_69 : decode cX6_isBetter 69 = .ok (.invokestatic 74, 3) := by decide +kernel
theorem dX6_isBetter_72 : decode cX6_isBetter 72 = .ok (.istore_n 3, 1) := by decide +kernel
theorem dX6_isBetter_73 : decode cX6_isBetter 73 = .ok (.iload 4, 2) := by decide +kernel
theorem dX6_isBetter_75 : decode cX6_isBetter 75 = .ok (.iload 7, 2) := by decide +kernel
theorem dX6_isBetter_77 : decode cX6_isBetter 77 = .ok (.iadd, 1) := by decide +kernel
theorem dX6_isBetter_78 : decode cX6_isBetter 78 = .ok (.istore 4, 2) := by decide +kernel
theorem dX6_isBetter_80 : decode cX6_isBetter 80 = .ok (.iinc 5 1, 3) := by decide +kernel
theorem dX6_isBetter_83 : decode cX6_isBetter 83 = .ok (.goto (-68), 3) := by decide +kernel
theorem dX6_isBetter_86 : decode cX6_isBetter 86 = .ok (.iload_n 3, 1) := by decide +kernel
theorem dX6_isBetter_87 : decode cX6_isBetter 87 = .ok (.aload_n 0, 1) := by decide +kernel
theorem dX6_isBetter_88 : decode cX6_isBetter 88 = .ok (.getfield 86, 3) := by decide +kernel
theorem dX6_isBetter_91 : decode cX6_isBetter 91 = .ok (.if_icmp .lt 20, 3) := by decide +kernel
theorem dX6_isBetter_94 : decode cX6_isBetter 94 = .ok (.iload_n 3, 1) := by decide +kernel
theorem dX6_isBetter_95 : decode cX6_isBetter 95 = .ok (.aload_n 0, 1) := by decide +kernel
theorem dX6_isBetter_96 : decode cX6_isBetter 96 = .ok (.getfield 86, 3) := by decide +kernel
theorem dX6_isBetter_99 : decode cX6_isBetter 99 = .ok (.if_icmp .ne 16, 3) := by decide +kernel
theorem dX6_isBetter_102 : decode cX6_isBetter 102 = .ok (.iload 4, 2) := by decide +kernel
theorem dX6_isBetter_104 : decode cX6_isBetter 104 = .ok (.aload_n 0, 1) := by decide +kernel
theorem dX6_isBetter_105 : decode cX6_isBetter 105 = .ok (.getfield 89, 3) := by decide +kernel
theorem dX6_isBetter_108 : decode cX6_isBetter 108 = .ok (.if_icmp .ge 7, 3) := by decide +kernel
theorem dX6_isBetter_111 : decode cX6_isBetter 111 = .ok (.iconst 1, 1) := by decide +kernel
theorem dX6_isBetter_112 : decode cX6_isBetter 112 = .ok (.goto 4, 3) := by decide +kernel
theorem dX6_isBetter_115 : decode cX6_isBetter 115 = .ok (.iconst 0, 1) := by decide +kernel
theorem dX6_isBetter_116 : decode cX6_isBetter 116 = .ok (.ireturn, 1) := by decide +kernel
theorem dX6_keepWay_0 : decode cX6_keepWay 0 = .ok (.aload_n 0, 1) := by decide +kernel
theorem dX6_keepWay_1 : decode cX6_keepWay 1 = .ok (.iconst 0, 1) := by decide +kernel
theorem dX6_keepWay_2 : decode cX6_keepWay 2 = .ok (.putfield 86, 3) := by decide +kernel
theorem dX6_keepWay_5 : decode cX6_keepWay 5 = .ok (.aload_n 0, 1) := by decide +kernel
theorem dX6_keepWay_6 : decode cX6_keepWay 6 = .ok (.iconst 0, 1) := by decide +kernel
theorem dX6_keepWay_7 : decode cX6_keepWay 7 = .ok (.putfield 89, 3) := by decide +kernel
theorem dX6_keepWay_10 : decode cX6_keepWay 10 = .ok (.iconst 0, 1) := by decide +kernel
theorem dX6_keepWay_11 : decode cX6_keepWay 11 = .ok (.istore_n 1, 1) := by decide +kernel
theorem dX6_keepWay_12 : decode cX6_keepWay 12 = .ok (.iload_n 1, 1) := by decide +kernel
theorem dX6_keepWay_13 : decode cX6_keepWay 13 = .ok (.iconst 5, 1) := by decide +kernel
theorem dX6_keepWay_14 : decode cX6_keepWay 14 = .ok (.if_icmp .ge 45, 3) := by decide +kernel
theorem dX6_keepWay_17 : decode cX6_keepWay 17 = .ok (.aload_n 0, 1) := by decide +kernel
theorem dX6_keepWay_18 : decode cX6_keepWay 18 = .ok (.getfield 28, 3) := by decide +kernel
theorem dX6_keepWay_21 : decode cX6_keepWay 21 = .ok (.aload_n 0, 1) := by decide +kernel
theorem dX6_keepWay_22 : decode cX6_keepWay 22 = .ok (.getfield 43, 3) := by decide +kernel
theorem dX6_keepWay_25 : decode cX6_keepWay 25 = .ok (.iconst 5, 1) := by decide +kernel
theorem dX6_keepWay_26 : decode cX6_keepWay 26 = .ok (.imul, 1) := by decide +kernel
theorem dX6_keepWay_27 : decode cX6_keepWay 27 = .ok (.iload_n 1, 1) := by decide +kernel
theorem dX6_keepWay_28 : decode cX6_keepWay 28 = .ok (.iadd, 1) := by decide +kernel
theorem dX6_keepWay_29 : decode cX6_keepWay 29 = .ok (.iaload, 1) := by decide +kernel
theorem dX6_keepWay_30 : decode cX6_keepWay 30 = .ok (.istore_n 2, 1) := by decide +kernel
theorem dX6_keepWay_31 : decode cX6_keepWay 31 = .ok (.aload_n 0, 1) := by decide +kernel
theorem dX6_keepWay_32 : decode cX6_keepWay 32 = .ok (.aload_n 0, 1) := by decide +kernel
theorem dX6_keepWay_33 : decode cX6_keepWay 33 = .ok (.getfield 86, 3) := by decide +kernel
theorem dX6_keepWay_36 : decode cX6_keepWay 36 = .ok (.iload_n 2, 1) := by decide +kernel
theorem dX6_keepWay_37 : decode cX6_keepWay 37 = .ok (.invokestatic 74, 3) := by decide +kernel
theorem dX6_keepWay_40 : decode cX6_keepWay 40 = .ok (.putfield 86, 3) := by decide +kernel
theorem dX6_keepWay_43 : decode cX6_keepWay 43 = .ok (.aload_n 0, 1) := by decide +kernel
theorem dX6_keepWay_44 : decode cX6_keepWay 44 = .ok (.dup, 1) := by decide +kernel
theorem dX6_keepWay_45 : decode cX6_keepWay 45 = .ok (.getfield 89, 3) := by decide +kernel
theorem dX6_keepWay_48 : decode cX6_keepWay 48 = .ok (.iload_n 2, 1) := by decide +kernel
theorem dX6_keepWay_49 : decode cX6_keepWay 49 = .ok (.iadd, 1) := by decide +kernel
theorem dX6_keepWay_50 : decode cX6_keepWay 50 = .ok (.putfield 89, 3) := by decide +kernel
theorem dX6_keepWay_53 : decode cX6_keepWay 53 = .ok (.iinc 1 1, 3) := by decide +kernel
theorem dX6_keepWay_56 : decode cX6_keepWay 56 = .ok (.goto (-44), 3) := by decide +kernel
theorem dX6_keepWay_59 : decode cX6_keepWay 59 = .ok (.iconst 0, 1) := by decide +kernel
theorem dX6_keepWay_60 : decode cX6_keepWay 60 = .ok (.istore_n 1, 1) := by decide +kernel
theorem dX6_keepWay_61 : decode cX6_keepWay 61 = .ok (.iload_n 1, 1) := by decide +kernel
theorem dX6_keepWay_62 : decode cX6_keepWay 62 = .ok (.aload_n 0, 1) := by decide +kernel
theorem dX6_keepWay_63 : decode cX6_keepWay 63 = .ok (.getfield 43, 3) := by decide +kernel
theorem dX6_keepWay_66 : decode cX6_keepWay 66 = .ok (.if_icmp .ge 21, 3) := by decide +kernel
theorem dX6_keepWay_69 : decode cX6_keepWay 69 = .ok (.aload_n 0, 1) := by decide +kernel
theorem dX6_keepWay_70 : decode cX6_keepWay 70 = .ok (.getfield 31, 3) := by decide +kernel
theorem dX6_keepWay_73 : decode cX6_keepWay 73 = .ok (.iload_n 1, 1) := by decide +kernel
theorem dX6_keepWay_74 : decode cX6_keepWay 74 = .ok (.aload_n 0, 1) := by decide +kernel
theorem dX6_keepWay_75 : decode cX6_keepWay 75 = .ok (.getfield 15, 3) := by decide +kernel
theorem dX6_keepWay_78 : decode cX6_keepWay 78 = .ok (.iload_n 1, 1) := by decide +kernel
theorem dX6_keepWay_79 : decode cX6_keepWay 79 = .ok (.iaload, 1) := by decide +kernel
theorem dX6_keepWay_80 : decode cX6_keepWay 80 = .ok (.iastore, 1) := by decide +kernel
theorem dX6_keepWay_81 : decode cX6_keepWay 81 = .ok (.iinc 1 1, 3) := by decide +kernel
theorem dX6_keepWay_84 : decode cX6_keepWay 84 = .ok (.goto (-23), 3) := by decide +kernel
theorem dX6_keepWay_87 : decode cX6_keepWay 87 = .ok (.return_, 1) := by decide +kernel
theorem dX6_bestSwap_0 : decode cX6_bestSwap 0 = .ok (.aload_n 0, 1) := by decide +kernel
theorem dX6_bestSwap_1 : decode cX6_bestSwap 1 = .ok (.invokevirtual 82, 3) := by decide +kernel
theorem dX6_bestSwap_4 : decode cX6_bestSwap 4 = .ok (.istore_n 1, 1) := by decide +kernel
theorem dX6_bestSwap_5 : decode cX6_bestSwap 5 = .ok (.bipush (-5), 2) := by decide +kernel
theorem dX6_bestSwap_7 : decode cX6_bestSwap 7 = .ok (.istore_n 2, 1) := by decide +kernel
theorem dX6_bestSwap_8 : decode cX6_bestSwap 8 = .ok (.iconst 0, 1) := by decide +kernel
theorem dX6_bestSwap_9 : decode cX6_bestSwap 9 = .ok (.istore_n 3, 1) := by decide +kernel
theorem dX6_bestSwap_10 : decode cX6_bestSwap 10 = .ok (.iload_n 3, 1) := by decide +kernel
theorem dX6_bestSwap_11 : decode cX6_bestSwap 11 = .ok (.aload_n 0, 1) := by decide +kernel
theorem dX6_bestSwap_12 : decode cX6_bestSwap 12 = .ok (.getfield 43, 3) := by decide +kernel
theorem dX6_bestSwap_15 : decode cX6_bestSwap 15 = .ok (.if_icmp .ge 85, 3) := by decide +kernel
theorem dX6_bestSwap_18 : decode cX6_bestSwap 18 = .ok (.iload_n 3, 1) := by decide +kernel
theorem dX6_bestSwap_19 : decode cX6_bestSwap 19 = .ok (.iconst 1, 1) := by decide +kernel
theorem dX6_bestSwap_20 : decode cX6_bestSwap 20 = .ok (.iadd, 1) := by decide +kernel
theorem dX6_bestSwap_21 : decode cX6_bestSwap 21 = .ok (.istore 4, 2) := by decide +kernel
theorem dX6_bestSwap_23 : decode cX6_bestSwap 23 = .ok (.iload 4, 2) := by decide +kernel
theorem dX6_bestSwap_25 : decode cX6_bestSwap 25 = .ok (.aload_n 0, 1) := by decide +kernel
theorem dX6_bestSwap_26 : decode cX6_bestSwap 26 = .ok (.getfield 43, 3) := by decide +kernel
theorem dX6_bestSwap_29 : decode cX6_bestSwap 29 = .ok (.if_icmp .ge 65, 3) := by decide +kernel
theorem dX6_bestSwap_32 : decode cX6_bestSwap 32 = .ok (.aload_n 0, 1) := by decide +kernel
theorem dX6_bestSwap_33 : decode cX6_bestSwap 33 = .ok (.getfield 21, 3) := by decide +kernel
theorem dX6_bestSwap_36 : decode cX6_bestSwap 36 = .ok (.iload_n 3, 1) := by decide +kernel
theorem dX6_bestSwap_37 : decode cX6_bestSwap 37 = .ok (.baload, 1) := by decide +kernel
theorem dX6_bestSwap_38 : decode cX6_bestSwap 38 = .ok (.ifCond .ne 50, 3) := by decide +kernel
theorem dX6_bestSwap_41 : decode cX6_bestSwap 41 = .ok (.aload_n 0, 1) := by decide +kernel
theorem dX6_bestSwap_42 : decode cX6_bestSwap 42 = .ok (.getfield 21, 3) := by decide +kernel
theorem dX6_bestSwap_45 : decode cX6_bestSwap 45 = .ok (.iload 4, 2) := by decide +kernel
theorem dX6_bestSwap_47 : decode cX6_bestSwap 47 = .ok (.baload, 1) := by decide +kernel
theorem dX6_bestSwap_48 : decode cX6_bestSwap 48 = .ok (.ifCond .ne 40, 3) := by decide +kernel
theorem dX6_bestSwap_51 : decode cX6_bestSwap 51 = .ok (.aload_n 0, 1) := by decide +kernel
theorem dX6_bestSwap_52 : decode cX6_bestSwap 52 = .ok (.iload_n 3, 1) := by decide +kernel
theorem dX6_bestSwap_53 : decode cX6_bestSwap 53 = .ok (.iload 4, 2) := by decide +kernel
theorem dX6_bestSwap_55 : decode cX6_bestSwap 55 = .ok (.invokevirtual 109, 3) := by decide +kernel
theorem dX6_bestSwap_58 : decode cX6_bestSwap 58 = .ok (.aload_n 0, 1) := by decide +kernel
theorem dX6_bestSwap_59 : decode cX6_bestSwap 59 = .ok (.invokevirtual 82, 3) := by decide +kernel
theorem dX6_bestSwap_62 : decode cX6_bestSwap 62 = .ok (.istore 5, 2) := by decide +kernel
theorem dX6_bestSwap_64 : decode cX6_bestSwap 64 = .ok (.aload_n 0, 1) := by decide +kernel
theorem dX6_bestSwap_65 : decode cX6_bestSwap 65 = .ok (.iload_n 3, 1) := by decide +kernel
theorem dX6_bestSwap_66 : decode cX6_bestSwap 66 = .ok (.iload 4, 2) := by decide +kernel
theorem dX6_bestSwap_68 : decode cX6_bestSwap 68 = .ok (.invokevirtual 109, 3) := by decide +kernel
theorem dX6_bestSwap_71 : decode cX6_bestSwap 71 = .ok (.iload 5, 2) := by decide +kernel
theorem dX6_bestSwap_73 : decode cX6_bestSwap 73 = .ok (.iload_n 1, 1) := by decide +kernel
theorem dX6_bestSwap_74 : decode cX6_bestSwap 74 = .ok (.if_icmp .ge 14, 3) := by decide +kernel
theorem dX6_bestSwap_77 : decode cX6_bestSwap 77 = .ok (.iload 5, 2) := by decide +kernel
theorem dX6_bestSwap_79 : decode cX6_bestSwap 79 = .ok (.istore_n 1, 1) := by decide +kernel
theorem dX6_bestSwap_80 : decode cX6_bestSwap 80 = .ok (.bipush 10, 2) := by decide +kernel
theorem dX6_bestSwap_82 : decode cX6_bestSwap 82 = .ok (.iload_n 3, 1) := by decide +kernel
theorem dX6_bestSwap_83 : decode cX6_bestSwap 83 = .ok (.imul, 1) := by decide +kernel
theorem dX6_bestSwap_84 : decode cX6_bestSwap 84 = .ok (.iload 4, 2) := by decide +kernel
theorem dX6_bestSwap_86 : decode cX6_bestSwap 86 = .ok (.iadd, 1) := by decide +kernel
theorem dX6_bestSwap_87 : decode cX6_bestSwap 87 = .ok (.istore_n 2, 1) := by decide +kernel
theorem dX6_bestSwap_88 : decode cX6_bestSwap 88 = .ok (.iinc 4 1, 3) := by decide +kernel
theorem dX6_bestSwap_91 : decode cX6_bestSwap 91 = .ok (.goto (-68), 3) := by decide +kernel
theorem dX6_bestSwap_94 : decode cX6_bestSwap 94 = .ok (.iinc 3 1, 3) := by decide +kernel
theorem dX6_bestSwap_97 : decode cX6_bestSwap 97 = .ok (.goto (-87), 3) := by decide +kernel
theorem dX6_bestSwap_100 : decode cX6_bestSwap 100 = .ok (.iload_n 2, 1) := by decide +kernel
theorem dX6_bestSwap_101 : decode cX6_bestSwap 101 = .ok (.ireturn, 1) := by decide +kernel
theorem dX6_swap_0 : decode cX6_swap 0 = .ok (.aload_n 0, 1) := by decide +kernel
theorem dX6_swap_1 : decode cX6_swap 1 = .ok (.getfield 15, 3) := by decide +kernel
theorem dX6_swap_4 : decode cX6_swap 4 = .ok (.iload_n 1, 1) := by decide +kernel
theorem dX6_swap_5 : decode cX6_swap 5 = .ok (.iaload, 1) := by decide +kernel
theorem dX6_swap_6 : decode cX6_swap 6 = .ok (.istore_n 3, 1) := by decide +kernel
theorem dX6_swap_7 : decode cX6_swap 7 = .ok (.aload_n 0, 1) := by decide +kernel
theorem dX6_swap_8 : decode cX6_swap 8 = .ok (.iload_n 1, 1) := by decide +kernel
theorem dX6_swap_9 : decode cX6_swap 9 = .ok (.aload_n 0, 1) := by decide +kernel
theorem dX6_swap_10 : decode cX6_swap 10 = .ok (.getfield 15, 3) := by decide +kernel
theorem dX6_swap_13 : decode cX6_swap 13 = .ok (.iload_n 2, 1) := by decide +kernel
theorem dX6_swap_14 : decode cX6_swap 14 = .ok (.iaload, 1) := by decide +kernel
theorem dX6_swap_15 : decode cX6_swap 15 = .ok (.invokevirtual 66, 3) := by decide +kernel
theorem dX6_swap_18 : decode cX6_swap 18 = .ok (.aload_n 0, 1) := by decide +kernel
theorem dX6_swap_19 : decode cX6_swap 19 = .ok (.iload_n 2, 1) := by decide +kernel
theorem dX6_swap_20 : decode cX6_swap 20 = .ok (.iload_n 3, 1) := by decide +kernel
theorem dX6_swap_21 : decode cX6_swap 21 = .ok (.invokevirtual 66, 3) := by decide +kernel
theorem dX6_swap_24 : decode cX6_swap 24 = .ok (.return_, 1) := by decide +kernel
theorem dX6_worstSound_0 : decode cX6_worstSound 0 = .ok (.ldc 81, 2) := by decide +kernel
theorem dX6_worstSound_2 : decode cX6_worstSound 2 = .ok (.istore_n 1, 1) := by decide +kernel
theorem dX6_worstSound_3 : decode cX6_worstSound 3 = .ok (.bipush (-5), 2) := by decide +kernel
theorem dX6_worstSound_5 : decode cX6_worstSound 5 = .ok (.istore_n 2, 1) := by decide +kernel
theorem dX6_worstSound_6 : decode cX6_worstSound 6 = .ok (.iconst 0, 1) := by decide +kernel
theorem dX6_worstSound_7 : decode cX6_worstSound 7 = .ok (.istore_n 3, 1) := by decide +kernel
theorem dX6_worstSound_8 : decode cX6_worstSound 8 = .ok (.iload_n 3, 1) := by decide +kernel
theorem dX6_worstSound_9 : decode cX6_worstSound 9 = .ok (.aload_n 0, 1) := by decide +kernel
theorem dX6_worstSound_10 : decode cX6_worstSound 10 = .ok (.getfield 43, 3) := by decide +kernel
theorem dX6_worstSound_13 : decode cX6_worstSound 13 = .ok (.if_icmp .ge 47, 3) := by decide +kernel
theorem dX6_worstSound_16 : decode cX6_worstSound 16 = .ok (.aload_n 0, 1) := by decide +kernel
theorem dX6_worstSound_17 : decode cX6_worstSound 17 = .ok (.getfield 15, 3) := by decide +kernel
theorem dX6_worstSound_20 : decode cX6_worstSound 20 = .ok (.iload_n 3, 1) := by decide +kernel
theorem dX6_worstSound_21 : decode cX6_worstSound 21 = .ok (.iaload, 1) := by decide +kernel
theorem dX6_worstSound_22 : decode cX6_worstSound 22 = .ok (.istore 4, 2) := by decide +kernel
theorem dX6_worstSound_24 : decode cX6_worstSound 24 = .ok (.aload_n 0, 1) := by decide +kernel
theorem dX6_worstSound_25 : decode cX6_worstSound 25 = .ok (.iload_n 3, 1) := by decide +kernel
theorem dX6_worstSound_26 : decode cX6_worstSound 26 = .ok (.iconst (-1), 1) := by decide +kernel
theorem dX6_worstSound_27 : decode cX6_worstSound 27 = .ok (.invokevirtual 66, 3) := by decide +kernel
theorem dX6_worstSound_30 : decode cX6_worstSound 30 = .ok (.aload_n 0, 1) := by decide +kernel
theorem dX6_worstSound_31 : decode cX6_worstSound 31 = .ok (.invokevirtual 82, 3) := by decide +kernel
theorem dX6_worstSound_34 : decode cX6_worstSound 34 = .ok (.istore 5, 2) := by decide +kernel
theorem dX6_worstSound_36 : decode cX6_worstSound 36 = .ok (.aload_n 0, 1) := by decide +kernel
theorem dX6_worstSound_37 : decode cX6_worstSound 37 = .ok (.iload_n 3, 1) := by decide +kernel
theorem dX6_worstSound_38 : decode cX6_worstSound 38 = .ok (.iload 4, 2) := by decide +kernel
theorem dX6_worstSound_40 : decode cX6_worstSound 40 = .ok (.invokevirtual 66, 3) := by decide +kernel
theorem dX6_worstSound_43 : decode cX6_worstSound 43 = .ok (.iload 5, 2) := by decide +kernel
theorem dX6_worstSound_45 : decode cX6_worstSound 45 = .ok (.iload_n 1, 1) := by decide +kernel
theorem dX6_worstSound_46 : decode cX6_worstSound 46 = .ok (.if_icmp .ge 8, 3) := by decide +kernel
theorem dX6_worstSound_49 : decode cX6_worstSound 49 = .ok (.iload 5, 2) := by decide +kernel
theorem dX6_worstSound_51 : decode cX6_worstSound 51 = .ok (.istore_n 1, 1) := by decide +kernel
theorem dX6_worstSound_52 : decode cX6_worstSound 52 = .ok (.iload_n 3, 1) := by decide +kernel
theorem dX6_worstSound_53 : decode cX6_worstSound 53 = .ok (.istore_n 2, 1) := by decide +kernel
theorem dX6_worstSound_54 : decode cX6_worstSound 54 = .ok (.iinc 3 1, 3) := by decide +kernel
theorem dX6_worstSound_57 : decode cX6_worstSound 57 = .ok (.goto (-49), 3) := by decide +kernel
theorem dX6_worstSound_60 : decode cX6_worstSound 60 = .ok (.iload_n 2, 1) := by decide +kernel
theorem dX6_worstSound_61 : decode cX6_worstSound 61 = .ok (.ireturn, 1) := by decide +kernel
theorem dX6_stillWithoutOne_0 : decode cX6_stillWithoutOne 0 = .ok (.iconst 0, 1) := by decide +kernel
theorem dX6_stillWithoutOne_1 : decode cX6_stillWithoutOne 1 = .ok (.istore_n 2, 1) := by decide +kernel
theorem dX6_stillWithoutOne_2 : decode cX6_stillWithoutOne 2 = .ok (.iconst 0, 1) := by decide +kernel
theorem dX6_stillWithoutOne_3 : decode cX6_stillWithoutOne 3 = .ok (.istore_n 3, 1) := by decide +kernel
theorem dX6_stillWithoutOne_4 : decode cX6_stillWithoutOne 4 = .ok (.iload_n 3, 1) := by decide +kernel
theorem dX6_stillWithoutOne_5 : decode cX6_stillWithoutOne 5 = .ok (.aload_n 0, 1) := by decide +kernel
theorem dX6_stillWithoutOne_6 : decode cX6_stillWithoutOne 6 = .ok (.getfield 43, 3) := by decide +kernel
theorem dX6_stillWithoutOne_9 : decode cX6_stillWithoutOne 9 = .ok (.if_icmp .ge 46, 3) := by decide +kernel
theorem dX6_stillWithoutOne_12 : decode cX6_stillWithoutOne 12 = .ok (.aload_n 0, 1) := by decide +kernel
theorem dX6_stillWithoutOne_13 : decode cX6_stillWithoutOne 13 = .ok (.getfield 15, 3) := by decide +kernel
theorem dX6_stillWithoutOne_16 : decode cX6_stillWithoutOne 16 = .ok (.iload_n 3, 1) := by decide +kernel
theorem dX6_stillWithoutOne_17 : decode cX6_stillWithoutOne 17 = .ok (.iaload, 1) := by decide +kernel
theorem dX6_stillWithoutOne_18 : decode cX6_stillWithoutOne 18 = .ok (.istore 4, 2) := by decide +kernel
theorem dX6_stillWithoutOne_20 : decode cX6_stillWithoutOne 20 = .ok (.aload_n 0, 1) := by decide +kernel
theorem dX6_stillWithoutOne_21 : decode cX6_stillWithoutOne 21 = .ok (.iload_n 3, 1) := by decide +kernel
theorem dX6_stillWithoutOne_22 : decode cX6_stillWithoutOne 22 = .ok (.iconst (-1), 1) := by decide +kernel
theorem dX6_stillWithoutOne_23 : decode cX6_stillWithoutOne 23 = .ok (.invokevirtual 66, 3) := by decide +kernel
theorem dX6_stillWithoutOne_26 : decode cX6_stillWithoutOne 26 = .ok (.aload_n 0, 1) := by decide +kernel
theorem dX6_stillWithoutOne_27 : decode cX6_stillWithoutOne 27 = .ok (.getfield 18, 3) := by decide +kernel
theorem dX6_stillWithoutOne_30 : decode cX6_stillWithoutOne 30 = .ok (.iload_n 1, 1) := by decide +kernel
theorem dX6_stillWithoutOne_31 : decode cX6_stillWithoutOne 31 = .ok (.iaload, 1) := by decide +kernel
theorem dX6_stillWithoutOne_32 : decode cX6_stillWithoutOne 32 = .ok (.aload_n 0, 1) := by decide +kernel
theorem dX6_stillWithoutOne_33 : decode cX6_stillWithoutOne 33 = .ok (.getfield 53, 3) := by decide +kernel
theorem dX6_stillWithoutOne_36 : decode cX6_stillWithoutOne 36 = .ok (.if_icmp .gt 6, 3) := by decide +kernel
theorem dX6_stillWithoutOne_39 : decode cX6_stillWithoutOne 39 = .ok (.iinc 2 1, 3) := by decide +kernel
theorem dX6_stillWithoutOne_42 : decode cX6_stillWithoutOne 42 = .ok (.aload_n 0, 1) := by decide +kernel
theorem dX6_stillWithoutOne_43 : decode cX6_stillWithoutOne 43 = .ok (.iload_n 3, 1) := by decide +kernel
theorem dX6_stillWithoutOne_44 : decode cX6_stillWithoutOne 44 = .ok (.iload 4, 2) := by decide +kernel
theorem dX6_stillWithoutOne_46 : decode cX6_stillWithoutOne 46 = .ok (.invokevirtual 66, 3) := by decide +kernel
theorem dX6_stillWithoutOne_49 : decode cX6_stillWithoutOne 49 = .ok (.iinc 3 1, 3) := by decide +kernel
theorem dX6_stillWithoutOne_52 : decode cX6_stillWithoutOne 52 = .ok (.goto (-48), 3) := by decide +kernel
theorem dX6_stillWithoutOne_55 : decode cX6_stillWithoutOne 55 = .ok (.iload_n 2, 1) := by decide +kernel
theorem dX6_stillWithoutOne_56 : decode cX6_stillWithoutOne 56 = .ok (.ireturn, 1) := by decide +kernel
theorem dX6_fewestSteps_0 : decode cX6_fewestSteps 0 = .ok (.iconst 0, 1) := by decide +kernel
theorem dX6_fewestSteps_1 : decode cX6_fewestSteps 1 = .ok (.istore_n 1, 1) := by decide +kernel
theorem dX6_fewestSteps_2 : decode cX6_fewestSteps 2 = .ok (.iload_n 1, 1) := by decide +kernel
theorem dX6_fewestSteps_3 : decode cX6_fewestSteps 3 = .ok (.iconst 3, 1) := by decide +kernel
theorem dX6_fewestSteps_4 : decode cX6_fewestSteps 4 = .ok (.if_icmp .gt 20, 3) := by decide +kernel
theorem dX6_fewestSteps_7 : decode cX6_fewestSteps 7 = .ok (.aload_n 0, 1) := by decide +kernel
theorem dX6_fewestSteps_8 : decode cX6_fewestSteps 8 = .ok (.iconst 0, 1) := by decide +kernel
theorem dX6_fewestSteps_9 : decode cX6_fewestSteps 9 = .ok (.iload_n 1, 1) := by decide +kernel
theorem dX6_fewestSteps_10 : decode cX6_fewestSteps 10 = .ok (.invokevirtual 112, 3) := by decide +kernel
theorem dX6_fewestSteps_13 : decode cX6_fewestSteps 13 = .ok (.ifCond .eq 5, 3) := by decide +kernel
theorem dX6_fewestSteps_16 : decode cX6_fewestSteps 16 = .ok (.iload_n 1, 1) := by decide +kernel
theorem dX6_fewestSteps_17 : decode cX6_fewestSteps 17 = .ok (.ireturn, 1) := by decide +kernel
theorem dX6_fewestSteps_18 : decode cX6_fewestSteps 18 = .ok (.iinc 1 1, 3) := by decide +kernel
theorem dX6_fewestSteps_21 : decode cX6_fewestSteps 21 = .ok (.goto (-19), 3) := by decide +kernel
theorem dX6_fewestSteps_24 : decode cX6_fewestSteps 24 = .ok (.bipush (-5), 2) := by decide +kernel
theorem dX6_fewestSteps_26 : decode cX6_fewestSteps 26 = .ok (.ireturn, 1) := by decide +kernel
theorem dX6_isStillBy_0 : decode cX6_isStillBy 0 = .ok (.iload_n 1, 1) := by decide +kernel
theorem dX6_isStillBy_1 : decode cX6_isStillBy 1 = .ok (.iload_n 2, 1) := by decide +kernel
theorem dX6_isStillBy_2 : decode cX6_isStillBy 2 = .ok (.if_icmp .lt 20, 3) := by decide +kernel
theorem dX6_isStillBy_5 : decode cX6_isStillBy 5 = .ok (.aload_n 0, 1) := by decide +kernel
theorem dX6_isStillBy_6 : decode cX6_isStillBy 6 = .ok (.invokevirtual 82, 3) := by decide +kernel
theorem dX6_isStillBy_9 : decode cX6_isStillBy 9 = .ok (.aload_n 0, 1) := by decide +kernel
theorem dX6_isStillBy_10 : decode cX6_isStillBy 10 = .ok (.getfield 53, 3) := by decide +kernel
theorem dX6_isStillBy_13 : decode cX6_isStillBy 13 = .ok (.if_icmp .gt 7, 3) := by decide +kernel
theorem dX6_isStillBy_16 : decode cX6_isStillBy 16 = .ok (.iconst 1, 1) := by decide +kernel
theorem dX6_isStillBy_17 : decode cX6_isStillBy 17 = .ok (.goto 4, 3) := by decide +kernel
theorem dX6_isStillBy_20 : decode cX6_isStillBy 20 = .ok (.iconst 0, 1) := by decide +kernel
theorem dX6_isStillBy_21 : decode cX6_isStillBy 21 = .ok (.ireturn, 1) := by decide +kernel
theorem dX6_isStillBy_22 : decode cX6_isStillBy 22 = .ok (.iconst 0, 1) := by decide +kernel
theorem dX6_isStillBy_23 : decode cX6_isStillBy 23 = .ok (.istore_n 3, 1) := by decide +kernel
theorem dX6_isStillBy_24 : decode cX6_isStillBy 24 = .ok (.iload_n 3, 1) := by decide +kernel
theorem dX6_isStillBy_25 : decode cX6_isStillBy 25 = .ok (.aload_n 0, 1) := by decide +kernel
theorem dX6_isStillBy_26 : decode cX6_isStillBy 26 = .ok (.getfield 43, 3) := by decide +kernel
theorem dX6_isStillBy_29 : decode cX6_isStillBy 29 = .ok (.if_icmp .ge 95, 3) := by decide +kernel
theorem dX6_isStillBy_32 : decode cX6_isStillBy 32 = .ok (.aload_n 0, 1) := by decide +kernel
theorem dX6_isStillBy_33 : decode cX6_isStillBy 33 = .ok (.getfield 15, 3) := by decide +kernel
theorem dX6_isStillBy_36 : decode cX6_isStillBy 36 = .ok (.iload_n 3, 1) := by decide +kernel
theorem dX6_isStillBy_37 : decode cX6_isStillBy 37 = .ok (.iaload, 1) := by decide +kernel
theorem dX6_isStillBy_38 : decode cX6_isStillBy 38 = .ok (.istore 4, 2) := by decide +kernel
theorem dX6_isStillBy_40 : decode cX6_isStillBy 40 = .ok (.iload 4, 2) := by decide +kernel
theorem dX6_isStillBy_42 : decode cX6_isStillBy 42 = .ok (.iconst 1, 1) := by decide +kernel
theorem dX6_isStillBy_43 : decode cX6_isStillBy 43 = .ok (.isub, 1) := by decide +kernel
theorem dX6_isStillBy_44 : decode cX6_isStillBy 44 = .ok (.istore 5, 2) := by decide +kernel
theorem dX6_isStillBy_46 : decode cX6_isStillBy 46 = .ok (.iload 5, 2) := by decide +kernel
theorem dX6_isStillBy_48 : decode cX6_isStillBy 48 = .ok (.iload 4, 2) := by decide +kernel
theorem dX6_isStillBy_50 : decode cX6_isStillBy 50 = .ok (.iconst 1, 1) := by decide +kernel
theorem dX6_isStillBy_51 : decode cX6_isStillBy 51 = .ok (.iadd, 1) := by decide +kernel
theorem dX6_isStillBy_52 : decode cX6_isStillBy 52 = .ok (.if_icmp .gt 66, 3) := by decide +kernel
theorem dX6_isStillBy_55 : decode cX6_isStillBy 55 = .ok (.aload_n 0, 1) := by decide +kernel
theorem dX6_isStillBy_56 : decode cX6_isStillBy 56 = .ok (.getfield 21, 3) := by decide +kernel
theorem dX6_isStillBy_59 : decode cX6_isStillBy 59 = .ok (.iload_n 3, 1) := by decide +kernel
theorem dX6_isStillBy_60 : decode cX6_isStillBy 60 = .ok (.baload, 1) := by decide +kernel
theorem dX6_isStillBy_61 : decode cX6_isStillBy 61 = .ok (.ifCond .ne 51, 3) := by decide +kernel
theorem dX6_isStillBy_64 : decode cX6_isStillBy 64 = .ok (.iload 5, 2) := by decide +kernel
theorem dX6_isStillBy_66 : decode cX6_isStillBy 66 = .ok (.invokestatic 115, 3) := by decide +kernel
theorem dX6_isStillBy_69 : decode cX6_isStillBy 69 = .ok (.ifCond .eq 43, 3) := by decide +kernel
theorem dX6_isStillBy_72 : decode cX6_isStillBy 72 = .ok (.aload_n 0, 1) := by decide +kernel
theorem dX6_isStillBy_73 : decode cX6_isStillBy 73 = .ok (.getfield 34, 3) := by decide +kernel
theorem dX6_isStillBy_76 : decode cX6_isStillBy 76 = .ok (.iload_n 1, 1) := by decide +kernel
theorem dX6_isStillBy_77 : decode cX6_isStillBy 77 = .ok (.bipush 10, 2) := by decide +kernel
theorem dX6_isStillBy_79 : decode cX6_isStillBy 79 = .ok (.iload_n 3, 1) := by decide +kernel
theorem dX6_isStillBy_80 : decode cX6_isStillBy 80 = .ok (.imul, 1) := by decide +kernel
theorem dX6_isStillBy_81 : decode cX6_isStillBy 81 = .ok (.iload 5, 2) := by decide +kernel
theorem dX6_isStillBy_83 : decode cX6_isStillBy 83 = .ok (.iadd, 1) := by decide +kernel
theorem dX6_isStillBy_84 : decode cX6_isStillBy 84 = .ok (.iastore, 1) := by decide +kernel
theorem dX6_isStillBy_85 : decode cX6_isStillBy 85 = .ok (.aload_n 0, 1) := by decide +kernel
theorem dX6_isStillBy_86 : decode cX6_isStillBy 86 = .ok (.iload_n 3, 1) := by decide +kernel
theorem dX6_isStillBy_87 : decode cX6_isStillBy 87 = .ok (.iload 5, 2) := by decide +kernel
theorem dX6_isStillBy_89 : decode cX6_isStillBy 89 = .ok (.invokevirtual 66, 3) := by decide +kernel
theorem dX6_isStillBy_92 : decode cX6_isStillBy 92 = .ok (.aload_n 0, 1) := by decide +kernel
theorem dX6_isStillBy_93 : decode cX6_isStillBy 93 = .ok (.iload_n 1, 1) := by decide +kernel
theorem dX6_isStillBy_94 : decode cX6_isStillBy 94 = .ok (.iconst 1, 1) := by decide +kernel
theorem dX6_isStillBy_95 : decode cX6_isStillBy 95 = .ok (.iadd, 1) := by decide +kernel
theorem dX6_isStillBy_96 : decode cX6_isStillBy 96 = .ok (.iload_n 2, 1) := by decide +kernel
theorem dX6_isStillBy_97 : decode cX6_isStillBy 97 = .ok (.invokevirtual 112, 3) := by decide +kernel
theorem dX6_isStillBy_100 : decode cX6_isStillBy 100 = .ok (.ifCond .eq 5, 3) := by decide +kernel
theorem dX6_isStillBy_103 : decode cX6_isStillBy 103 = .ok (.iconst 1, 1) := by decide +kernel
theorem dX6_isStillBy_104 : decode cX6_isStillBy 104 = .ok (.ireturn, 1) := by decide +kernel
theorem dX6_isStillBy_105 : decode cX6_isStillBy 105 = .ok (.aload_n 0, 1) := by decide +kernel
theorem dX6_isStillBy_106 : decode cX6_isStillBy 106 = .ok (.iload_n 3, 1) := by decide +kernel
theorem dX6_isStillBy_107 : decode cX6_isStillBy 107 = .ok (.iload 4, 2) := by decide +kernel
theorem dX6_isStillBy_109 : decode cX6_isStillBy 109 = .ok (.invokevirtual 66, 3) := by decide +kernel
theorem dX6_isStillBy_112 : decode cX6_isStillBy 112 = .ok (.iinc 5 2, 3) := by decide +kernel
theorem dX6_isStillBy_115 : decode cX6_isStillBy 115 = .ok (.goto (-69), 3) := by decide +kernel
theorem dX6_isStillBy_118 : decode cX6_isStillBy 118 = .ok (.iinc 3 1, 3) := by decide +kernel
theorem dX6_isStillBy_121 : decode cX6_isStillBy 121 = .ok (.goto (-97), 3) := by decide +kernel
theorem dX6_isStillBy_124 : decode cX6_isStillBy 124 = .ok (.iconst 0, 1) := by decide +kernel
theorem dX6_isStillBy_125 : decode cX6_isStillBy 125 = .ok (.ireturn, 1) := by decide +kernel
end
section
theorem dX7_init_0 : decode cX7_init 0 = .ok (.aload_n 0, 1) := by decide +kernel
theorem dX7_init_1 : decode cX7_init 1 = .ok (.invokespecial 5, 3) := by decide +kernel
theorem dX7_init_4 : decode cX7_init 4 = .ok (.aload_n 0, 1) := by decide +kernel
theorem dX7_init_5 : decode cX7_init 5 = .ok (.new 11, 3) := by decide +kernel
theorem dX7_init_8 : decode cX7_init 8 = .ok (.dup, 1) := by decide +kernel
theorem dX7_init_9 : decode cX7_init 9 = .ok (.invokespecial 13, 3) := by decide +kernel
theorem dX7_init_12 : decode cX7_init 12 = .ok (.putfield 14, 3) := by decide +kernel
theorem dX7_init_15 : decode cX7_init 15 = .ok (.aload_n 0, 1) := by decide +kernel
theorem dX7_init_16 : decode cX7_init 16 = .ok (.bipush 6, 2) := by decide +kernel
theorem dX7_init_18 : decode cX7_init 18 = .ok (.anewarray 18, 3) := by decide +kernel
theorem dX7_init_21 : decode cX7_init 21 = .ok (.putfield 20, 3) := by decide +kernel
theorem dX7_init_24 : decode cX7_init 24 = .ok (.aload_n 0, 1) := by decide +kernel
theorem dX7_init_25 : decode cX7_init 25 = .ok (.new 24, 3) := by decide +kernel
theorem dX7_init_28 : decode cX7_init 28 = .ok (.dup, 1) := by decide +kernel
theorem dX7_init_29 : decode cX7_init 29 = .ok (.invokespecial 26, 3) := by decide +kernel
theorem dX7_init_32 : decode cX7_init 32 = .ok (.putfield 27, 3) := by decide +kernel
theorem dX7_init_35 : decode cX7_init 35 = .ok (.aload_n 0, 1) := by decide +kernel
theorem dX7_init_36 : decode cX7_init 36 = .ok (.new 31, 3) := by decide +kernel
theorem dX7_init_39 : decode cX7_init 39 = .ok (.dup, 1) := by decide +kernel
theorem dX7_init_40 : decode cX7_init 40 = .ok (.invokespecial 33, 3) := by decide +kernel
theorem dX7_init_43 : decode cX7_init 43 = .ok (.putfield 34, 3) := by decide +kernel
theorem dX7_init_46 : decode cX7_init 46 = .ok (.aload_n 0, 1) := by decide +kernel
theorem dX7_init_47 : decode cX7_init 47 = .ok (.bipush 6, 2) := by decide +kernel
theorem dX7_init_49 : decode cX7_init 49 = .ok (.anewarray 38, 3) := by decide +kernel
theorem dX7_init_52 : decode cX7_init 52 = .ok (.putfield 40, 3) := by decide +kernel
theorem dX7_init_55 : decode cX7_init 55 = .ok (.new 18, 3) := by decide +kernel
theorem dX7_init_58 : decode cX7_init 58 = .ok (.dup, 1) := by decide +kernel
theorem dX7_init_59 : decode cX7_init 59 = .ok (.invokespecial 44, 3) := by decide +kernel
theorem dX7_init_62 : decode cX7_init 62 = .ok (.astore_n 1, 1) := by decide +kernel
theorem dX7_init_63 : decode cX7_init 63 = .ok (.aload_n 0, 1) := by decide +kernel
theorem dX7_init_64 : decode cX7_init 64 = .ok (.new 45, 3) := by decide +kernel
theorem dX7_init_67 : decode cX7_init 67 = .ok (.dup, 1) := by decide +kernel
theorem dX7_init_68 : decode cX7_init 68 = .ok (.aload_n 1, 1) := by decide +kernel
theorem dX7_init_69 : decode cX7_init 69 = .ok (.invokespecial 47, 3) := by decide +kernel
theorem dX7_init_72 : decode cX7_init 72 = .ok (.putfield 50, 3) := by decide +kernel
theorem dX7_init_75 : decode cX7_init 75 = .ok (.aload_n 0, 1) := by decide +kernel
theorem dX7_init_76 : decode cX7_init 76 = .ok (.new 45, 3) := by decide +kernel
theorem dX7_init_79 : decode cX7_init 79 = .ok (.dup, 1) := by decide +kernel
theorem dX7_init_80 : decode cX7_init 80 = .ok (.aload_n 1, 1) := by decide +kernel
theorem dX7_init_81 : decode cX7_init 81 = .ok (.invokespecial 47, 3) := by decide +kernel
theorem dX7_init_84 : decode cX7_init 84 = .ok (.putfield 54, 3) := by decide +kernel
theorem dX7_init_87 : decode cX7_init 87 = .ok (.aload_n 0, 1) := by decide +kernel
theorem dX7_init_88 : decode cX7_init 88 = .ok (.new 45, 3) := by decide +kernel
theorem dX7_init_91 : decode cX7_init 91 = .ok (.dup, 1) := by decide +kernel
theorem dX7_init_92 : decode cX7_init 92 = .ok (.aload_n 1, 1) := by decide +kernel
theorem dX7_init_93 : decode cX7_init 93 = .ok (.invokespecial 47, 3) := by decide +kernel
theorem dX7_init_96 : decode cX7_init 96 = .ok (.putfield 57, 3) := by decide +kernel
theorem dX7_init_99 : decode cX7_init 99 = .ok (.iconst 0, 1) := by decide +kernel
theorem dX7_init_100 : decode cX7_init 100 = .ok (.istore_n 2, 1) := by decide +kernel
theorem dX7_init_101 : decode cX7_init 101 = .ok (.iload_n 2, 1) := by decide +kernel
theorem dX7_init_102 : decode cX7_init 102 = .ok (.bipush 6, 2) := by decide +kernel
theorem dX7_init_104 : decode cX7_init 104 = .ok (.if_icmp .ge 22, 3) := by decide +kernel
theorem dX7_init_107 : decode cX7_init 107 = .ok (.aload_n 0, 1) := by decide +kernel
theorem dX7_init_108 : decode cX7_init 108 = .ok (.getfield 20, 3) := by decide +kernel
theorem dX7_init_111 : decode cX7_init 111 = .ok (.iload_n 2, 1) := by decide +kernel
theorem dX7_init_112 : decode cX7_init 112 = .ok (.new 18, 3) := by decide +kernel
theorem dX7_init_115 : decode cX7_init 115 = .ok (.dup, 1) := by decide +kernel
theorem dX7_init_116 : decode cX7_init 116 = .ok (.invokespecial 44, 3) := by decide +kernel
theorem dX7_init_119 : decode cX7_init 119 = .ok (.aastore, 1) := by decide +kernel
theorem dX7_init_120 : decode cX7_init 120 = .ok (.iinc 2 1, 3) := by decide +kernel
theorem dX7_init_123 : decode cX7_init 123 = .ok (.goto (-22), 3) := by decide +kernel
theorem dX7_init_126 : decode cX7_init 126 = .ok (.iconst 0, 1) := by decide +kernel
theorem dX7_init_127 : decode cX7_init 127 = .ok (.istore_n 2, 1) := by decide +kernel
theorem dX7_init_128 : decode cX7_init 128 = .ok (.iload_n 2, 1) := by decide +kernel
theorem dX7_init_129 : decode cX7_init 129 = .ok (.bipush 6, 2) := by decide +kernel
theorem dX7_init_131 : decode cX7_init 131 = .ok (.if_icmp .ge 22, 3) := by decide +kernel
theorem dX7_init_134 : decode cX7_init 134 = .ok (.aload_n 0, 1) := by decide +kernel
theorem dX7_init_135 : decode cX7_init 135 = .ok (.getfield 40, 3) := by decide +kernel
theorem dX7_init_138 : decode cX7_init 138 = .ok (.iload_n 2, 1) := by decide +kernel
theorem dX7_init_139 : decode cX7_init 139 = .ok (.new 38, 3) := by decide +kernel
theorem dX7_init_142 : decode cX7_init 142 = .ok (.dup, 1) := by decide +kernel
theorem dX7_init_143 : decode cX7_init 143 = .ok (.invokespecial 60, 3) := by decide +kernel
theorem dX7_init_146 : decode cX7_init 146 = .ok (.aastore, 1) := by decide +kernel
theorem dX7_init_147 : decode cX7_init 147 = .ok (.iinc 2 1, 3) := by decide +kernel
theorem dX7_init_150 : decode cX7_init 150 = .ok (.goto (-22), 3) := by decide +kernel
theorem dX7_init_153 : decode cX7_init 153 = .ok (.return_, 1) := by decide +kernel
theorem dX7_sound_0 : decode cX7_sound 0 = .ok (.iload_n 1, 1) := by decide +kernel
theorem dX7_sound_1 : decode cX7_sound 1 = .ok (.bipush 6, 2) := by decide +kernel
theorem dX7_sound_3 : decode cX7_sound 3 = .ok (.invokestatic 61, 3) := by decide +kernel
theorem dX7_sound_6 : decode cX7_sound 6 = .ok (.ifCond .eq 11, 3) := by decide +kernel
theorem dX7_sound_9 : decode cX7_sound 9 = .ok (.iload 4, 2) := by decide +kernel
theorem dX7_sound_11 : decode cX7_sound 11 = .ok (.invokestatic 65, 3) := by decide +kernel
theorem dX7_sound_14 : decode cX7_sound 14 = .ok (.ifCond .ne 5, 3) := by decide +kernel
theorem dX7_sound_17 : decode cX7_sound 17 = .ok (.iconst (-1), 1) := by decide +kernel
theorem dX7_sound_18 : decode cX7_sound 18 = .ok (.ireturn, 1) := by decide +kernel
theorem dX7_sound_19 : decode cX7_sound 19 = .ok (.iload_n 2, 1) := by decide +kernel
theorem dX7_sound_20 : decode cX7_sound 20 = .ok (.bipush 9, 2) := by decide +kernel
theorem dX7_sound_22 : decode cX7_sound 22 = .ok (.invokestatic 61, 3) := by decide +kernel
theorem dX7_sound_25 : decode cX7_sound 25 = .ok (.ifCond .eq 12, 3) := by decide +kernel
theorem dX7_sound_28 : decode cX7_sound 28 = .ok (.iload_n 3, 1) := by decide +kernel
theorem dX7_sound_29 : decode cX7_sound 29 = .ok (.bipush 99, 2) := by decide +kernel
theorem dX7_sound_31 : decode cX7_sound 31 = .ok (.invokestatic 61, 3) := by decide +kernel
theorem dX7_sound_34 : decode cX7_sound 34 = .ok (.ifCond .ne 6, 3) := by decide +kernel
theorem dX7_sound_37 : decode cX7_sound 37 = .ok (.bipush (-2), 2) := by decide +kernel
theorem dX7_sound_39 : decode cX7_sound 39 = .ok (.ireturn, 1) := by decide +kernel
theorem dX7_sound_40 : decode cX7_sound 40 = .ok (.aload_n 0, 1) := by decide +kernel
theorem dX7_sound_41 : decode cX7_sound 41 = .ok (.getfield 50, 3) := by decide +kernel
theorem dX7_sound_44 : decode cX7_sound 44 = .ok (.getfield 69, 3) := by decide +kernel
theorem dX7_sound_47 : decode cX7_sound 47 = .ok (.bipush 6, 2) := by decide +kernel
theorem dX7_sound_49 : decode cX7_sound 49 = .ok (.if_icmp .lt 8, 3) := by decide +kernel
theorem dX7_sound_52 : decode cX7_sound 52 = .ok (.bipush (-4), 2) := by decide +kernel
theorem dX7_sound_54 : decode cX7_sound 54 = .ok (.goto 15, 3) := by decide +kernel
theorem dX7_sound_57 : decode cX7_sound 57 = .ok (.aload_n 0, 1) := by decide +kernel
theorem dX7_sound_58 : decode cX7_sound 58 = .ok (.getfield 50, 3) := by decide +kernel
theorem dX7_sound_61 : decode cX7_sound 61 = .ok (.iload_n 1, 1) := by decide +kernel
theorem dX7_sound_62 : decode cX7_sound 62 = .ok (.iload_n 2, 1) := by decide +kernel
theorem dX7_sound_63 : decode cX7_sound 63 = .ok (.iload_n 3, 1) := by decide +kernel
theorem dX7_sound_64 : decode cX7_sound 64 = .ok (.iload 4, 2) := by decide +kernel
theorem dX7_sound_66 : decode cX7_sound 66 = .ok (.invokevirtual 73, 3) := by decide +kernel
theorem dX7_sound_69 : decode cX7_sound 69 = .ok (.ireturn, 1) := by decide +kernel
theorem dX7_of_0 : decode cX7_of 0 = .ok (.aload_n 0, 1) := by decide +kernel
theorem dX7_of_1 : decode cX7_of 1 = .ok (.getfield 50, 3) := by decide +kernel
theorem dX7_of_4 : decode cX7_of 4 = .ok (.iload_n 1, 1) := by decide +kernel
theorem dX7_of_5 : decode cX7_of 5 = .ok (.invokevirtual 77, 3) := by decide +kernel
theorem dX7_of_8 : decode cX7_of 8 = .ok (.ifCond .ne 7, 3) := by decide +kernel
theorem dX7_of_11 : decode cX7_of 11 = .ok (.sipush (-1001), 3) := by decide +kernel
theorem dX7_of_14 : decode cX7_of 14 = .ok (.ireturn, 1) := by decide +kernel
theorem dX7_of_15 : decode cX7_of 15 = .ok (.iload_n 2, 1) := by decide +kernel
theorem dX7_of_16 : decode cX7_of 16 = .ok (.bipush 10, 2) := by decide +kernel
theorem dX7_of_18 : decode cX7_of 18 = .ok (.isub, 1) := by decide +kernel
theorem dX7_of_19 : decode cX7_of 19 = .ok (.invokestatic 65, 3) := by decide +kernel
theorem dX7_of_22 : decode cX7_of 22 = .ok (.ifCond .eq 31, 3) := by decide +kernel
theorem dX7_of_25 : decode cX7_of 25 = .ok (.aload_n 0, 1) := by decide +kernel
theorem dX7_of_26 : decode cX7_of 26 = .ok (.getfield 50, 3) := by decide +kernel
theorem dX7_of_29 : decode cX7_of 29 = .ok (.iload_n 1, 1) := by decide +kernel
theorem dX7_of_30 : decode cX7_of 30 = .ok (.invokevirtual 80, 3) := by decide +kernel
theorem dX7_of_33 : decode cX7_of 33 = .ok (.ifCond .eq 7, 3) := by decide +kernel
theorem dX7_of_36 : decode cX7_of 36 = .ok (.iconst 0, 1) := by decide +kernel
theorem dX7_of_37 : decode cX7_of 37 = .ok (.goto 15, 3) := by decide +kernel
theorem dX7_of_40 : decode cX7_of 40 = .ok (.aload_n 0, 1) := by decide +kernel
theorem dX7_of_41 : decode cX7_of 41 = .ok (.getfield 50, 3) := by decide +kernel
theorem dX7_of_44 : decode cX7_of 44 = .ok (.iload_n 1, 1) := by decide +kernel
theorem dX7_of_45 : decode cX7_of 45 = .ok (.iload_n 2, 1) := by decide +kernel
theorem dX7_of_46 : decode cX7_of 46 = .ok (.bipush 10, 2) := by decide +kernel
theorem dX7_of_48 : decode cX7_of 48 = .ok (.isub, 1) := by decide +kernel
theorem dX7_of_49 : decode cX7_of 49 = .ok (.invokevirtual 83, 3) := by decide +kernel
theorem dX7_of_52 : decode cX7_of 52 = .ok (.ireturn, 1) := by decide +kernel
theorem dX7_of_53 : decode cX7_of 53 = .ok (.iload_n 2, 1) := by decide +kernel
theorem dX7_of_54 : decode cX7_of 54 = .ok (.bipush 20, 2) := by decide +kernel
theorem dX7_of_56 : decode cX7_of 56 = .ok (.isub, 1) := by decide +kernel
theorem dX7_of_57 : decode cX7_of 57 = .ok (.invokestatic 65, 3) := by decide +kernel
theorem dX7_of_60 : decode cX7_of 60 = .ok (.ifCond .eq 16, 3) := by decide +kernel
theorem dX7_of_63 : decode cX7_of 63 = .ok (.aload_n 0, 1) := by decide +kernel
theorem dX7_of_64 : decode cX7_of 64 = .ok (.getfield 50, 3) := by decide +kernel
theorem dX7_of_67 : decode cX7_of 67 = .ok (.iload_n 1, 1) := by decide +kernel
theorem dX7_of_68 : decode cX7_of 68 = .ok (.iload_n 2, 1) := by decide +kernel
theorem dX7_of_69 : decode cX7_of 69 = .ok (.bipush 20, 2) := by decide +kernel
theorem dX7_of_71 : decode cX7_of 71 = .ok (.isub, 1) := by decide +kernel
theorem dX7_of_72 : decode cX7_of 72 = .ok (.invokevirtual 87, 3) := by decide +kernel
theorem dX7_of_75 : decode cX7_of 75 = .ok (.ireturn, 1) := by decide +kernel
theorem dX7_of_76 : decode cX7_of 76 = .ok (.iload_n 2, 1) := by decide +kernel
theorem dX7_of_77 : decode cX7_of 77 = .ok (.tableswitch 100 0 4 #[35, 45, 55, 65, 91], 35) := by decide +kernel
theorem dX7_of_112 : decode cX7_of 112 = .ok (.aload_n 0, 1) := by decide +kernel
theorem dX7_of_113 : decode cX7_of 113 = .ok (.getfield 50, 3) := by decide +kernel
theorem dX7_of_116 : decode cX7_of 116 = .ok (.getfield 90, 3) := by decide +kernel
theorem dX7_of_119 : decode cX7_of 119 = .ok (.iload_n 1, 1) := by decide +kernel
theorem dX7_of_120 : decode cX7_of 120 = .ok (.iaload, 1) := by decide +kernel
theorem dX7_of_121 : decode cX7_of 121 = .ok (.ireturn, 1) := by decide +kernel
theorem dX7_of_122 : decode cX7_of 122 = .ok (.aload_n 0, 1) := by decide +kernel
theorem dX7_of_123 : decode cX7_of 123 = .ok (.getfield 50, 3) := by decide +kernel
theorem dX7_of_126 : decode cX7_of 126 = .ok (.getfield 94, 3) := by decide +kernel
theorem dX7_of_129 : decode cX7_of 129 = .ok (.iload_n 1, 1) := by decide +kernel
theorem dX7_of_130 : decode cX7_of 130 = .ok (.iaload, 1) := by decide +kernel
theorem dX7_of_131 : decode cX7_of 131 = .ok (.ireturn, 1) := by decide +kernel
theorem dX7_of_132 : decode cX7_of 132 = .ok (.aload_n 0, 1) := by decide +kernel
theorem dX7_of_133 : decode cX7_of 133 = .ok (.getfield 50, 3) := by decide +kernel
theorem dX7_of_136 : decode cX7_of 136 = .ok (.getfield 97, 3) := by decide +kernel
theorem dX7_of_139 : decode cX7_of 139 = .ok (.iload_n 1, 1) := by decide +kernel
theorem dX7_of_140 : decode cX7_of 140 = .ok (.iaload, 1) := by decide +kernel
theorem dX7_of_141 : decode cX7_of 141 = .ok (.ireturn, 1) := by decide +kernel
theorem dX7_of_142 : decode cX7_of 142 = .ok (.aload_n 0, 1) := by decide +kernel
theorem dX7_of_143 : decode cX7_of 143 = .ok (.getfield 50, 3) := by decide +kernel
theorem dX7_of_146 : decode cX7_of 146 = .ok (.iload_n 1, 1) := by decide +kernel
theorem dX7_of_147 : decode cX7_of 147 = .ok (.invokevirtual 80, 3) := by decide +kernel
theorem dX7_of_150 : decode cX7_of 150 = .ok (.ifCond .eq 8, 3) := by decide +kernel
theorem dX7_of_153 : decode cX7_of 153 = .ok (.bipush (-5), 2) := by decide +kernel
theorem dX7_of_155 : decode cX7_of 155 = .ok (.goto 12, 3) := by decide +kernel
theorem dX7_of_158 : decode cX7_of 158 = .ok (.aload_n 0, 1) := by decide +kernel
theorem dX7_of_159 : decode cX7_of 159 = .ok (.getfield 50, 3) := by decide +kernel
theorem dX7_of_162 : decode cX7_of 162 = .ok (.getfield 100, 3) := by decide +kernel
theorem dX7_of_165 : decode cX7_of 165 = .ok (.iload_n 1, 1) := by decide +kernel
theorem dX7_of_166 : decode cX7_of 166 = .ok (.iaload, 1) := by decide +kernel
theorem dX7_of_167 : decode cX7_of 167 = .ok (.ireturn, 1) := by decide +kernel
theorem dX7_of_168 : decode cX7_of 168 = .ok (.aload_n 0, 1) := by decide +kernel
theorem dX7_of_169 : decode cX7_of 169 = .ok (.getfield 50, 3) := by decide +kernel
theorem dX7_of_172 : decode cX7_of 172 = .ok (.iload_n 1, 1) := by decide +kernel
theorem dX7_of_173 : decode cX7_of 173 = .ok (.invokevirtual 103, 3) := by decide +kernel
theorem dX7_of_176 : decode cX7_of 176 = .ok (.ireturn, 1) := by decide +kernel
theorem dX7_of_177 : decode cX7_of 177 = .ok (.sipush (-1001), 3) := by decide +kernel
theorem dX7_of_180 : decode cX7_of 180 = .ok (.ireturn, 1) := by decide +kernel
theorem dX7_set_0 : decode cX7_set 0 = .ok (.aload_n 0, 1) := by decide +kernel
theorem dX7_set_1 : decode cX7_set 1 = .ok (.getfield 50, 3) := by decide +kernel
theorem dX7_set_4 : decode cX7_set 4 = .ok (.iload_n 1, 1) := by decide +kernel
theorem dX7_set_5 : decode cX7_set 5 = .ok (.invokevirtual 77, 3) := by decide +kernel
theorem dX7_set_8 : decode cX7_set 8 = .ok (.ifCond .ne 5, 3) := by decide +kernel
theorem dX7_set_11 : decode cX7_set 11 = .ok (.iconst (-1), 1) := by decide +kernel
theorem dX7_set_12 : decode cX7_set 12 = .ok (.ireturn, 1) := by decide +kernel
theorem dX7_set_13 : decode cX7_set 13 = .ok (.iload_n 2, 1) := by decide +kernel
theorem dX7_set_14 : decode cX7_set 14 = .ok (.bipush 99, 2) := by decide +kernel
theorem dX7_set_16 : decode cX7_set 16 = .ok (.invokestatic 61, 3) := by decide +kernel
theorem dX7_set_19 : decode cX7_set 19 = .ok (.ifCond .ne 6, 3) := by decide +kernel
theorem dX7_set_22 : decode cX7_set 22 = .ok (.bipush (-2), 2) := by decide +kernel
theorem dX7_set_24 : decode cX7_set 24 = .ok (.ireturn, 1) := by decide +kernel
theorem dX7_set_25 : decode cX7_set 25 = .ok (.aload_n 0, 1) := by decide +kernel
theorem dX7_set_26 : decode cX7_set 26 = .ok (.getfield 50, 3) := by decide +kernel
theorem dX7_set_29 : decode cX7_set 29 = .ok (.getfield 97, 3) := by decide +kernel
theorem dX7_set_32 : decode cX7_set 32 = .ok (.iload_n 1, 1) := by decide +kernel
theorem dX7_set_33 : decode cX7_set 33 = .ok (.iaload, 1) := by decide +kernel
theorem dX7_set_34 : decode cX7_set 34 = .ok (.istore_n 3, 1) := by decide +kernel
theorem dX7_set_35 : decode cX7_set 35 = .ok (.aload_n 0, 1) := by decide +kernel
theorem dX7_set_36 : decode cX7_set 36 = .ok (.getfield 50, 3) := by decide +kernel
theorem dX7_set_39 : decode cX7_set 39 = .ok (.getfield 97, 3) := by decide +kernel
theorem dX7_set_42 : decode cX7_set 42 = .ok (.iload_n 1, 1) := by decide +kernel
theorem dX7_set_43 : decode cX7_set 43 = .ok (.iload_n 2, 1) := by decide +kernel
theorem dX7_set_44 : decode cX7_set 44 = .ok (.iastore, 1) := by decide +kernel
theorem dX7_set_45 : decode cX7_set 45 = .ok (.iload_n 3, 1) := by decide +kernel
theorem dX7_set_46 : decode cX7_set 46 = .ok (.ireturn, 1) := by decide +kernel
theorem dX7_pass_0 : decode cX7_pass 0 = .ok (.aload_n 0, 1) := by decide +kernel
theorem dX7_pass_1 : decode cX7_pass 1 = .ok (.getfield 50, 3) := by decide +kernel
theorem dX7_pass_4 : decode cX7_pass 4 = .ok (.iload_n 1, 1) := by decide +kernel
theorem dX7_pass_5 : decode cX7_pass 5 = .ok (.invokevirtual 77, 3) := by decide +kernel
theorem dX7_pass_8 : decode cX7_pass 8 = .ok (.ifCond .eq 10, 3) := by decide +kernel
theorem dX7_pass_11 : decode cX7_pass 11 = .ok (.iload_n 2, 1) := by decide +kernel
theorem dX7_pass_12 : decode cX7_pass 12 = .ok (.invokestatic 65, 3) := by decide +kernel
theorem dX7_pass_15 : decode cX7_pass 15 = .ok (.ifCond .ne 5, 3) := by decide +kernel
theorem dX7_pass_18 : decode cX7_pass 18 = .ok (.iconst (-1), 1) := by decide +kernel
theorem dX7_pass_19 : decode cX7_pass 19 = .ok (.ireturn, 1) := by decide +kernel
theorem dX7_pass_20 : decode cX7_pass 20 = .ok (.aload_n 0, 1) := by decide +kernel
theorem dX7_pass_21 : decode cX7_pass 21 = .ok (.getfield 50, 3) := by decide +kernel
theorem dX7_pass_24 : decode cX7_pass 24 = .ok (.iload_n 1, 1) := by decide +kernel
theorem dX7_pass_25 : decode cX7_pass 25 = .ok (.invokevirtual 80, 3) := by decide +kernel
theorem dX7_pass_28 : decode cX7_pass 28 = .ok (.ifCond .ne 21, 3) := by decide +kernel
theorem dX7_pass_31 : decode cX7_pass 31 = .ok (.aload_n 0, 1) := by decide +kernel
theorem dX7_pass_32 : decode cX7_pass 32 = .ok (.getfield 50, 3) := by decide +kernel
theorem dX7_pass_35 : decode cX7_pass 35 = .ok (.getfield 100, 3) := by decide +kernel
theorem dX7_pass_38 : decode cX7_pass 38 = .ok (.iload_n 1, 1) := by decide +kernel
theorem dX7_pass_39 : decode cX7_pass 39 = .ok (.iaload, 1) := by decide +kernel
theorem dX7_pass_40 : decode cX7_pass 40 = .ok (.iload_n 2, 1) := by decide +kernel
theorem dX7_pass_41 : decode cX7_pass 41 = .ok (.isub, 1) := by decide +kernel
theorem dX7_pass_42 : decode cX7_pass 42 = .ok (.invokestatic 107, 3) := by decide +kernel
theorem dX7_pass_45 : decode cX7_pass 45 = .ok (.iconst 1, 1) := by decide +kernel
theorem dX7_pass_46 : decode cX7_pass 46 = .ok (.if_icmp .eq 6, 3) := by decide +kernel
theorem dX7_pass_49 : decode cX7_pass 49 = .ok (.bipush (-3), 2) := by decide +kernel
theorem dX7_pass_51 : decode cX7_pass 51 = .ok (.ireturn, 1) := by decide +kernel
theorem dX7_pass_52 : decode cX7_pass 52 = .ok (.aload_n 0, 1) := by decide +kernel
theorem dX7_pass_53 : decode cX7_pass 53 = .ok (.getfield 50, 3) := by decide +kernel
theorem dX7_pass_56 : decode cX7_pass 56 = .ok (.getfield 100, 3) := by decide +kernel
theorem dX7_pass_59 : decode cX7_pass 59 = .ok (.iload_n 1, 1) := by decide +kernel
theorem dX7_pass_60 : decode cX7_pass 60 = .ok (.iload_n 2, 1) := by decide +kernel
theorem dX7_pass_61 : decode cX7_pass 61 = .ok (.iastore, 1) := by decide +kernel
theorem dX7_pass_62 : decode cX7_pass 62 = .ok (.aload_n 0, 1) := by decide +kernel
theorem dX7_pass_63 : decode cX7_pass 63 = .ok (.getfield 50, 3) := by decide +kernel
theorem dX7_pass_66 : decode cX7_pass 66 = .ok (.iload_n 2, 1) := by decide +kernel
theorem dX7_pass_67 : decode cX7_pass 67 = .ok (.invokevirtual 112, 3) := by decide +kernel
theorem dX7_pass_70 : decode cX7_pass 70 = .ok (.ireturn, 1) := by decide +kernel
theorem dX7_lose_0 : decode cX7_lose 0 = .ok (.aload_n 0, 1) := by decide +kernel
theorem dX7_lose_1 : decode cX7_lose 1 = .ok (.getfield 50, 3) := by decide +kernel
theorem dX7_lose_4 : decode cX7_lose 4 = .ok (.iload_n 1, 1) := by decide +kernel
theorem dX7_lose_5 : decode cX7_lose 5 = .ok (.invokevirtual 77, 3) := by decide +kernel
theorem dX7_lose_8 : decode cX7_lose 8 = .ok (.ifCond .ne 5, 3) := by decide +kernel
theorem dX7_lose_11 : decode cX7_lose 11 = .ok (.iconst (-1), 1) := by decide +kernel
theorem dX7_lose_12 : decode cX7_lose 12 = .ok (.ireturn, 1) := by decide +kernel
theorem dX7_lose_13 : decode cX7_lose 13 = .ok (.aload_n 0, 1) := by decide +kernel
theorem dX7_lose_14 : decode cX7_lose 14 = .ok (.getfield 50, 3) := by decide +kernel
theorem dX7_lose_17 : decode cX7_lose 17 = .ok (.iload_n 1, 1) := by decide +kernel
theorem dX7_lose_18 : decode cX7_lose 18 = .ok (.invokevirtual 80, 3) := by decide +kernel
theorem dX7_lose_21 : decode cX7_lose 21 = .ok (.ifCond .eq 6, 3) := by decide +kernel
theorem dX7_lose_24 : decode cX7_lose 24 = .ok (.bipush (-3), 2) := by decide +kernel
theorem dX7_lose_26 : decode cX7_lose 26 = .ok (.ireturn, 1) := by decide +kernel
theorem dX7_lose_27 : decode cX7_lose 27 = .ok (.aload_n 0, 1) := by decide +kernel
theorem dX7_lose_28 : decode cX7_lose 28 = .ok (.getfield 50, 3) := by decide +kernel
theorem dX7_lose_31 : decode cX7_lose 31 = .ok (.getfield 100, 3) := by decide +kernel
theorem dX7_lose_34 : decode cX7_lose 34 = .ok (.iload_n 1, 1) := by decide +kernel
theorem dX7_lose_35 : decode cX7_lose 35 = .ok (.iaload, 1) := by decide +kernel
theorem dX7_lose_36 : decode cX7_lose 36 = .ok (.istore_n 2, 1) := by decide +kernel
theorem dX7_lose_37 : decode cX7_lose 37 = .ok (.aload_n 0, 1) := by decide +kernel
theorem dX7_lose_38 : decode cX7_lose 38 = .ok (.getfield 50, 3) := by decide +kernel
theorem dX7_lose_41 : decode cX7_lose 41 = .ok (.getfield 100, 3) := by decide +kernel
theorem dX7_lose_44 : decode cX7_lose 44 = .ok (.iload_n 1, 1) := by decide +kernel
theorem dX7_lose_45 : decode cX7_lose 45 = .ok (.iconst (-1), 1) := by decide +kernel
theorem dX7_lose_46 : decode cX7_lose 46 = .ok (.iastore, 1) := by decide +kernel
theorem dX7_lose_47 : decode cX7_lose 47 = .ok (.iload_n 2, 1) := by decide +kernel
theorem dX7_lose_48 : decode cX7_lose 48 = .ok (.ireturn, 1) := by decide +kernel
theorem dX7_find_0 : decode cX7_find 0 = .ok (.aload_n 0, 1) := by decide +kernel
theorem dX7_find_1 : decode cX7_find 1 = .ok (.getfield 50, 3) := by decide +kernel
theorem dX7_find_4 : decode cX7_find 4 = .ok (.iload_n 1, 1) := by decide +kernel
theorem dX7_find_5 : decode cX7_find 5 = .ok (.invokevirtual 77, 3) := by decide +kernel
theorem dX7_find_8 : decode cX7_find 8 = .ok (.ifCond .eq 10, 3) := by decide +kernel
theorem dX7_find_11 : decode cX7_find 11 = .ok (.iload_n 2, 1) := by decide +kernel
theorem dX7_find_12 : decode cX7_find 12 = .ok (.invokestatic 65, 3) := by decide +kernel
theorem dX7_find_15 : decode cX7_find 15 = .ok (.ifCond .ne 5, 3) := by decide +kernel
theorem dX7_find_18 : decode cX7_find 18 = .ok (.iconst (-1), 1) := by decide +kernel
theorem dX7_find_19 : decode cX7_find 19 = .ok (.ireturn, 1) := by decide +kernel
theorem dX7_find_20 : decode cX7_find 20 = .ok (.aload_n 0, 1) := by decide +kernel
theorem dX7_find_21 : decode cX7_find 21 = .ok (.getfield 50, 3) := by decide +kernel
theorem dX7_find_24 : decode cX7_find 24 = .ok (.iload_n 1, 1) := by decide +kernel
theorem dX7_find_25 : decode cX7_find 25 = .ok (.invokevirtual 80, 3) := by decide +kernel
theorem dX7_find_28 : decode cX7_find 28 = .ok (.ifCond .ne 6, 3) := by decide +kernel
theorem dX7_find_31 : decode cX7_find 31 = .ok (.bipush (-3), 2) := by decide +kernel
theorem dX7_find_33 : decode cX7_find 33 = .ok (.ireturn, 1) := by decide +kernel
theorem dX7_find_34 : decode cX7_find 34 = .ok (.aload_n 0, 1) := by decide +kernel
theorem dX7_find_35 : decode cX7_find 35 = .ok (.getfield 50, 3) := by decide +kernel
theorem dX7_find_38 : decode cX7_find 38 = .ok (.getfield 100, 3) := by decide +kernel
theorem dX7_find_41 : decode cX7_find 41 = .ok (.iload_n 1, 1) := by decide +kernel
theorem dX7_find_42 : decode cX7_find 42 = .ok (.iload_n 2, 1) := by decide +kernel
theorem dX7_find_43 : decode cX7_find 43 = .ok (.iastore, 1) := by decide +kernel
theorem dX7_find_44 : decode cX7_find 44 = .ok (.aload_n 0, 1) := by decide +kernel
theorem dX7_find_45 : decode cX7_find 45 = .ok (.getfield 50, 3) := by decide +kernel
theorem dX7_find_48 : decode cX7_find 48 = .ok (.iload_n 2, 1) := by decide +kernel
theorem dX7_find_49 : decode cX7_find 49 = .ok (.invokevirtual 112, 3) := by decide +kernel
theorem dX7_find_52 : decode cX7_find 52 = .ok (.ireturn, 1) := by decide +kernel
theorem dX7_row_0 : decode cX7_row 0 = .ok (.aload_n 0, 1) := by decide +kernel
theorem dX7_row_1 : decode cX7_row 1 = .ok (.getfield 50, 3) := by decide +kernel
theorem dX7_row_4 : decode cX7_row 4 = .ok (.iload_n 1, 1) := by decide +kernel
theorem dX7_row_5 : decode cX7_row 5 = .ok (.invokevirtual 77, 3) := by decide +kernel
theorem dX7_row_8 : decode cX7_row 8 = .ok (.ifCond .eq 11, 3) := by decide +kernel
theorem dX7_row_11 : decode cX7_row 11 = .ok (.iload_n 2, 1) := by decide +kernel
theorem dX7_row_12 : decode cX7_row 12 = .ok (.iconst 3, 1) := by decide +kernel
theorem dX7_row_13 : decode cX7_row 13 = .ok (.invokestatic 61, 3) := by decide +kernel
theorem dX7_row_16 : decode cX7_row 16 = .ok (.ifCond .ne 5, 3) := by decide +kernel
theorem dX7_row_19 : decode cX7_row 19 = .ok (.iconst (-1), 1) := by decide +kernel
theorem dX7_row_20 : decode cX7_row 20 = .ok (.ireturn, 1) := by decide +kernel
theorem dX7_row_21 : decode cX7_row 21 = .ok (.iload_n 3, 1) := by decide +kernel
theorem dX7_row_22 : decode cX7_row 22 = .ok (.bipush 9, 2) := by decide +kernel
theorem dX7_row_24 : decode cX7_row 24 = .ok (.invokestatic 61, 3) := by decide +kernel
theorem dX7_row_27 : decode cX7_row 27 = .ok (.ifCond .ne 6, 3) := by decide +kernel
theorem dX7_row_30 : decode cX7_row 30 = .ok (.bipush (-2), 2) := by decide +kernel
theorem dX7_row_32 : decode cX7_row 32 = .ok (.ireturn, 1) := by decide +kernel
theorem dX7_row_33 : decode cX7_row 33 = .ok (.aload_n 0, 1) := by decide +kernel
theorem dX7_row_34 : decode cX7_row 34 = .ok (.getfield 50, 3) := by decide +kernel
theorem dX7_row_37 : decode cX7_row 37 = .ok (.getfield 90, 3) := by decide +kernel
theorem dX7_row_40 : decode cX7_row 40 = .ok (.iload_n 1, 1) := by decide +kernel
theorem dX7_row_41 : decode cX7_row 41 = .ok (.iaload, 1) := by decide +kernel
theorem dX7_row_42 : decode cX7_row 42 = .ok (.bipush 6, 2) := by decide +kernel
theorem dX7_row_44 : decode cX7_row 44 = .ok (.if_icmp .eq 6, 3) := by decide +kernel
theorem dX7_row_47 : decode cX7_row 47 = .ok (.bipush (-3), 2) := by decide +kernel
theorem dX7_row_49 : decode cX7_row 49 = .ok (.ireturn, 1) := by decide +kernel
theorem dX7_row_50 : decode cX7_row 50 = .ok (.iload_n 1, 1) := by decide +kernel
theorem dX7_row_51 : decode cX7_row 51 = .ok (.iconst 4, 1) := by decide +kernel
theorem dX7_row_52 : decode cX7_row 52 = .ok (.imul, 1) := by decide +kernel
theorem dX7_row_53 : decode cX7_row 53 = .ok (.iload_n 2, 1) := by decide +kernel
theorem dX7_row_54 : decode cX7_row 54 = .ok (.iadd, 1) := by decide +kernel
theorem dX7_row_55 : decode cX7_row 55 = .ok (.istore 4, 2) := by decide +kernel
theorem dX7_row_57 : decode cX7_row 57 = .ok (.aload_n 0, 1) := by decide +kernel
theorem dX7_row_58 : decode cX7_row 58 = .ok (.getfield 50, 3) := by decide +kernel
theorem dX7_row_61 : decode cX7_row 61 = .ok (.getfield 115, 3) := by decide +kernel
theorem dX7_row_64 : decode cX7_row 64 = .ok (.iload 4, 2) := by decide +kernel
theorem dX7_row_66 : decode cX7_row 66 = .ok (.iaload, 1) := by decide +kernel
theorem dX7_row_67 : decode cX7_row 67 = .ok (.istore 5, 2) := by decide +kernel
theorem dX7_row_69 : decode cX7_row 69 = .ok (.aload_n 0, 1) := by decide +kernel
theorem dX7_row_70 : decode cX7_row 70 = .ok (.getfield 50, 3) := by decide +kernel
theorem dX7_row_73 : decode cX7_row 73 = .ok (.getfield 115, 3) := by decide +kernel
theorem dX7_row_76 : decode cX7_row 76 = .ok (.iload 4, 2) := by decide +kernel
theorem dX7_row_78 : decode cX7_row 78 = .ok (.iload_n 3, 1) := by decide +kernel
theorem dX7_row_79 : decode cX7_row 79 = .ok (.iastore, 1) := by decide +kernel
theorem dX7_row_80 : decode cX7_row 80 = .ok (.iload 5, 2) := by decide +kernel
theorem dX7_row_82 : decode cX7_row 82 = .ok (.ireturn, 1) := by decide +kernel
theorem dX7_feed_0 : decode cX7_feed 0 = .ok (.iload_n 1, 1) := by decide +kernel
theorem dX7_feed_1 : decode cX7_feed 1 = .ok (.bipush 127, 2) := by decide +kernel
theorem dX7_feed_3 : decode cX7_feed 3 = .ok (.invokestatic 61, 3) := by decide +kernel
theorem dX7_feed_6 : decode cX7_feed 6 = .ok (.ifCond .ne 6, 3) := by decide +kernel
theorem dX7_feed_9 : decode cX7_feed 9 = .ok (.bipush (-2), 2) := by decide +kernel
theorem dX7_feed_11 : decode cX7_feed 11 = .ok (.ireturn, 1) := by decide +kernel
theorem dX7_feed_12 : decode cX7_feed 12 = .ok (.aload_n 0, 1) := by decide +kernel
theorem dX7_feed_13 : decode cX7_feed 13 = .ok (.getfield 14, 3) := by decide +kernel
theorem dX7_feed_16 : decode cX7_feed 16 = .ok (.getfield 118, 3) := by decide +kernel
theorem dX7_feed_19 : decode cX7_feed 19 = .ok (.bipush 100, 2) := by decide +kernel
theorem dX7_feed_21 : decode cX7_feed 21 = .ok (.if_icmp .lt 8, 3) := by decide +kernel
theorem dX7_feed_24 : decode cX7_feed 24 = .ok (.bipush (-4), 2) := by decide +kernel
theorem dX7_feed_26 : decode cX7_feed 26 = .ok (.goto 12, 3) := by decide +kernel
theorem dX7_feed_29 : decode cX7_feed 29 = .ok (.aload_n 0, 1) := by decide +kernel
theorem dX7_feed_30 : decode cX7_feed 30 = .ok (.getfield 14, 3) := by decide +kernel
theorem dX7_feed_33 : decode cX7_feed 33 = .ok (.iload_n 1, 1) := by decide +kernel
theorem dX7_feed_34 : decode cX7_feed 34 = .ok (.i2b, 1) := by decide +kernel
theorem dX7_feed_35 : decode cX7_feed 35 = .ok (.invokevirtual 121, 3) := by decide +kernel
theorem dX7_feed_38 : decode cX7_feed 38 = .ok (.ireturn, 1) := by decide +kernel
theorem dX7_street_0 : decode cX7_street 0 = .ok (.aload_n 0, 1) := by decide +kernel
theorem dX7_street_1 : decode cX7_street 1 = .ok (.getfield 125, 3) := by decide +kernel
theorem dX7_street_4 : decode cX7_street 4 = .ok (.bipush 6, 2) := by decide +kernel
theorem dX7_street_6 : decode cX7_street 6 = .ok (.if_icmp .lt 6, 3) := by decide +kernel
theorem dX7_street_9 : decode cX7_street 9 = .ok (.bipush (-4), 2) := by decide +kernel
theorem dX7_street_11 : decode cX7_street 11 = .ok (.ireturn, 1) := by decide +kernel
theorem dX7_street_12 : decode cX7_street 12 = .ok (.aload_n 0, 1) := by decide +kernel
theorem dX7_street_13 : decode cX7_street 13 = .ok (.getfield 20, 3) := by decide +kernel
theorem dX7_street_16 : decode cX7_street 16 = .ok (.aload_n 0, 1) := by decide +kernel
theorem dX7_street_17 : decode cX7_street 17 = .ok (.getfield 125, 3) := by decide +kernel
theorem dX7_street_20 : decode cX7_street 20 = .ok (.aaload, 1) := by decide +kernel
theorem dX7_street_21 : decode cX7_street 21 = .ok (.astore_n 1, 1) := by decide +kernel
theorem dX7_street_22 : decode cX7_street 22 = .ok (.aload_n 0, 1) := by decide +kernel
theorem dX7_street_23 : decode cX7_street 23 = .ok (.getfield 14, 3) := by decide +kernel
theorem dX7_street_26 : decode cX7_street 26 = .ok (.aload_n 1, 1) := by decide +kernel
theorem dX7_street_27 : decode cX7_street 27 = .ok (.invokevirtual 128, 3) := by decide +kernel
theorem dX7_street_30 : decode cX7_street 30 = .ok (.istore_n 2, 1) := by decide +kernel
theorem dX7_street_31 : decode cX7_street 31 = .ok (.aload_n 0, 1) := by decide +kernel
theorem dX7_street_32 : decode cX7_street 32 = .ok (.getfield 14, 3) := by decide +kernel
theorem dX7_street_35 : decode cX7_street 35 = .ok (.iconst 0, 1) := by decide +kernel
theorem dX7_street_36 : decode cX7_street 36 = .ok (.putfield 118, 3) := by decide +kernel
theorem dX7_street_39 : decode cX7_street 39 = .ok (.iload_n 2, 1) := by decide +kernel
theorem dX7_street_40 : decode cX7_street 40 = .ok (.ifCond .ne 14, 3) := by decide +kernel
theorem dX7_street_43 : decode cX7_street 43 = .ok (.bipush (-10), 2) := by decide +kernel
theorem dX7_street_45 : decode cX7_street 45 = .ok (.aload_n 0, 1) := by decide +kernel
theorem dX7_street_46 : decode cX7_street 46 = .ok (.getfield 14, 3) := by decide +kernel
theorem dX7_street_49 : decode cX7_street 49 = .ok (.getfield 132, 3) := by decide +kernel
theorem dX7_street_52 : decode cX7_street 52 = .ok (.isub, 1) := by decide +kernel
theorem dX7_street_53 : decode cX7_street 53 = .ok (.ireturn, 1) := by decide +kernel
theorem dX7_street_54 : decode cX7_street 54 = .ok (.aload_n 0, 1) := by decide +kernel
theorem dX7_street_55 : decode cX7_street 55 = .ok (.getfield 50, 3) := by decide +kernel
theorem dX7_street_58 : decode cX7_street 58 = .ok (.aload_n 1, 1) := by decide +kernel
theorem dX7_street_59 : decode cX7_street 59 = .ok (.putfield 135, 3) := by decide +kernel
theorem dX7_street_62 : decode cX7_street 62 = .ok (.aload_n 0, 1) := by decide +kernel
theorem dX7_street_63 : decode cX7_street 63 = .ok (.dup, 1) := by decide +kernel
theorem dX7_street_64 : decode cX7_street 64 = .ok (.getfield 125, 3) := by decide +kernel
theorem dX7_street_67 : decode cX7_street 67 = .ok (.iconst 1, 1) := by decide +kernel
theorem dX7_street_68 : decode cX7_street 68 = .ok (.iadd, 1) := by decide +kernel
theorem dX7_street_69 : decode cX7_street 69 = .ok (.putfield 125, 3) := by decide +kernel
theorem dX7_street_72 : decode cX7_street 72 = .ok (.aload_n 0, 1) := by decide +kernel
theorem dX7_street_73 : decode cX7_street 73 = .ok (.getfield 125, 3) := by decide +kernel
theorem dX7_street_76 : decode cX7_street 76 = .ok (.iconst 1, 1) := by decide +kernel
theorem dX7_street_77 : decode cX7_street 77 = .ok (.isub, 1) := by decide +kernel
theorem dX7_street_78 : decode cX7_street 78 = .ok (.ireturn, 1) := by decide +kernel
theorem dX7_told_0 : decode cX7_told 0 = .ok (.iload_n 1, 1) := by decide +kernel
theorem dX7_told_1 : decode cX7_told 1 = .ok (.bipush 10, 2) := by decide +kernel
theorem dX7_told_3 : decode cX7_told 3 = .ok (.isub, 1) := by decide +kernel
theorem dX7_told_4 : decode cX7_told 4 = .ok (.invokestatic 65, 3) := by decide +kernel
theorem dX7_told_7 : decode cX7_told 7 = .ok (.ifCond .eq 15, 3) := by decide +kernel
theorem dX7_told_10 : decode cX7_told 10 = .ok (.aload_n 0, 1) := by decide +kernel
theorem dX7_told_11 : decode cX7_told 11 = .ok (.getfield 50, 3) := by decide +kernel
theorem dX7_told_14 : decode cX7_told 14 = .ok (.iload_n 1, 1) := by decide +kernel
theorem dX7_told_15 : decode cX7_told 15 = .ok (.bipush 10, 2) := by decide +kernel
theorem dX7_told_17 : decode cX7_told 17 = .ok (.isub, 1) := by decide +kernel
theorem dX7_told_18 : decode cX7_told 18 = .ok (.invokevirtual 112, 3) := by decide +kernel
theorem dX7_told_21 : decode cX7_told 21 = .ok (.ireturn, 1) := by decide +kernel
theorem dX7_told_22 : decode cX7_told 22 = .ok (.iload_n 1, 1) := by decide +kernel
theorem dX7_told_23 : decode cX7_told 23 = .ok (.tableswitch 94 0 5 #[37, 45, 56, 67, 78, 86], 37) := by decide +kernel
theorem dX7_told_60 : decode cX7_told 60 = .ok (.aload_n 0, 1) := by decide +kernel
theorem dX7_told_61 : decode cX7_told 61 = .ok (.getfield 50, 3) := by decide +kernel
theorem dX7_told_64 : decode cX7_told 64 = .ok (.getfield 139, 3) := by decide +kernel
theorem dX7_told_67 : decode cX7_told 67 = .ok (.ireturn, 1) := by decide +kernel
theorem dX7_told_68 : decode cX7_told 68 = .ok (.aload_n 0, 1) := by decide +kernel
theorem dX7_told_69 : decode cX7_told 69 = .ok (.getfield 50, 3) := by decide +kernel
theorem dX7_told_72 : decode cX7_told 72 = .ok (.getfield 135, 3) := by decide +kernel
theorem dX7_told_75 : decode cX7_told 75 = .ok (.getfield 142, 3) := by decide +kernel
theorem dX7_told_78 : decode cX7_told 78 = .ok (.ireturn, 1) := by decide +kernel
theorem dX7_told_79 : decode cX7_told 79 = .ok (.aload_n 0, 1) := by decide +kernel
theorem dX7_told_80 : decode cX7_told 80 = .ok (.getfield 50, 3) := by decide +kernel
theorem dX7_told_83 : decode cX7_told 83 = .ok (.getfield 135, 3) := by decide +kernel
theorem dX7_told_86 : decode cX7_told 86 = .ok (.getfield 145, 3) := by decide +kernel
theorem dX7_told_89 : decode cX7_told 89 = .ok (.ireturn, 1) := by decide +kernel
theorem dX7_told_90 : decode cX7_told 90 = .ok (.aload_n 0, 1) := by decide +kernel
theorem dX7_told_91 : decode cX7_told 91 = .ok (.getfield 50, 3) := by decide +kernel
theorem dX7_told_94 : decode cX7_told 94 = .ok (.getfield 135, 3) := by decide +kernel
theorem dX7_told_97 : decode cX7_told 97 = .ok (.getfield 148, 3) := by decide +kernel
theorem dX7_told_100 : decode cX7_told 100 = .ok (.ireturn, 1) := by decide +kernel
theorem dX7_told_101 : decode cX7_told 101 = .ok (.aload_n 0, 1) := by decide +kernel
theorem dX7_told_102 : decode cX7_told 102 = .ok (.getfield 50, 3) := by decide +kernel
theorem dX7_told_105 : decode cX7_told 105 = .ok (.invokevirtual 151, 3) := by decide +kernel
theorem dX7_told_108 : decode cX7_told 108 = .ok (.ireturn, 1) := by decide +kernel
theorem dX7_told_109 : decode cX7_told 109 = .ok (.aload_n 0, 1) := by decide +kernel
theorem dX7_told_110 : decode cX7_told 110 = .ok (.getfield 50, 3) := by decide +kernel
theorem dX7_told_113 : decode cX7_told 113 = .ok (.invokevirtual 155, 3) := by decide +kernel
theorem dX7_told_116 : decode cX7_told 116 = .ok (.ireturn, 1) := by decide +kernel
theorem dX7_told_117 : decode cX7_told 117 = .ok (.iconst (-1), 1) := by decide +kernel
theorem dX7_told_118 : decode cX7_told 118 = .ok (.ireturn, 1) := by decide +kernel
theorem dX7_years_0 : decode cX7_years 0 = .ok (.iload_n 1, 1) := by decide +kernel
theorem dX7_years_1 : decode cX7_years 1 = .ok (.bipush 60, 2) := by decide +kernel
theorem dX7_years_3 : decode cX7_years 3 = .ok (.invokestatic 61, 3) := by decide +kernel
theorem dX7_years_6 : decode cX7_years 6 = .ok (.ifCond .ne 6, 3) := by decide +kernel
theorem dX7_years_9 : decode cX7_years 9 = .ok (.bipush (-2), 2) := by decide +kernel
theorem dX7_years_11 : decode cX7_years 11 = .ok (.ireturn, 1) := by decide +kernel
theorem dX7_years_12 : decode cX7_years 12 = .ok (.aload_n 0, 1) := by decide +kernel
theorem dX7_years_13 : decode cX7_years 13 = .ok (.getfield 50, 3) := by decide +kernel
theorem dX7_years_16 : decode cX7_years 16 = .ok (.getfield 139, 3) := by decide +kernel
theorem dX7_years_19 : decode cX7_years 19 = .ok (.iload_n 1, 1) := by decide +kernel
theorem dX7_years_20 : decode cX7_years 20 = .ok (.iadd, 1) := by decide +kernel
theorem dX7_years_21 : decode cX7_years 21 = .ok (.sipush 9999, 3) := by decide +kernel
theorem dX7_years_24 : decode cX7_years 24 = .ok (.if_icmp .le 6, 3) := by decide +kernel
theorem dX7_years_27 : decode cX7_years 27 = .ok (.bipush (-3), 2) := by decide +kernel
theorem dX7_years_29 : decode cX7_years 29 = .ok (.ireturn, 1) := by decide +kernel
theorem dX7_years_30 : decode cX7_years 30 = .ok (.aload_n 0, 1) := by decide +kernel
theorem dX7_years_31 : decode cX7_years 31 = .ok (.getfield 50, 3) := by decide +kernel
theorem dX7_years_34 : decode cX7_years 34 = .ok (.iload_n 1, 1) := by decide +kernel
theorem dX7_years_35 : decode cX7_years 35 = .ok (.invokevirtual 158, 3) := by decide +kernel
theorem dX7_years_38 : decode cX7_years 38 = .ok (.aload_n 0, 1) := by decide +kernel
theorem dX7_years_39 : decode cX7_years 39 = .ok (.getfield 50, 3) := by decide +kernel
theorem dX7_years_42 : decode cX7_years 42 = .ok (.getfield 139, 3) := by decide +kernel
theorem dX7_years_45 : decode cX7_years 45 = .ok (.ireturn, 1) := by decide +kernel
theorem dX7_on_0 : decode cX7_on 0 = .ok (.iload_n 2, 1) := by decide +kernel
theorem dX7_on_1 : decode cX7_on 1 = .ok (.bipush 10, 2) := by decide +kernel
theorem dX7_on_3 : decode cX7_on 3 = .ok (.isub, 1) := by decide +kernel
theorem dX7_on_4 : decode cX7_on 4 = .ok (.invokestatic 65, 3) := by decide +kernel
theorem dX7_on_7 : decode cX7_on 7 = .ok (.istore_n 3, 1) := by decide +kernel
theorem dX7_on_8 : decode cX7_on 8 = .ok (.iload_n 2, 1) := by decide +kernel
theorem dX7_on_9 : decode cX7_on 9 = .ok (.bipush 20, 2) := by decide +kernel
theorem dX7_on_11 : decode cX7_on 11 = .ok (.if_icmp .lt 21, 3) := by decide +kernel
theorem dX7_on_14 : decode cX7_on 14 = .ok (.aload_n 0, 1) := by decide +kernel
theorem dX7_on_15 : decode cX7_on 15 = .ok (.getfield 50, 3) := by decide +kernel
theorem dX7_on_18 : decode cX7_on 18 = .ok (.iload_n 2, 1) := by decide +kernel
theorem dX7_on_19 : decode cX7_on 19 = .ok (.bipush 20, 2) := by decide +kernel
theorem dX7_on_21 : decode cX7_on 21 = .ok (.isub, 1) := by decide +kernel
theorem dX7_on_22 : decode cX7_on 22 = .ok (.invokevirtual 77, 3) := by decide +kernel
theorem dX7_on_25 : decode cX7_on 25 = .ok (.ifCond .eq 7, 3) := by decide +kernel
theorem dX7_on_28 : decode cX7_on 28 = .ok (.iconst 1, 1) := by decide +kernel
theorem dX7_on_29 : decode cX7_on 29 = .ok (.goto 4, 3) := by decide +kernel
theorem dX7_on_32 : decode cX7_on 32 = .ok (.iconst 0, 1) := by decide +kernel
theorem dX7_on_33 : decode cX7_on 33 = .ok (.istore 4, 2) := by decide +kernel
theorem dX7_on_35 : decode cX7_on 35 = .ok (.iload_n 2, 1) := by decide +kernel
theorem dX7_on_36 : decode cX7_on 36 = .ok (.ifCond .eq 14, 3) := by decide +kernel
theorem dX7_on_39 : decode cX7_on 39 = .ok (.iload_n 3, 1) := by decide +kernel
theorem dX7_on_40 : decode cX7_on 40 = .ok (.ifCond .ne 10, 3) := by decide +kernel
theorem dX7_on_43 : decode cX7_on 43 = .ok (.iload 4, 2) := by decide +kernel
theorem dX7_on_45 : decode cX7_on 45 = .ok (.ifCond .ne 5, 3) := by decide +kernel
theorem dX7_on_48 : decode cX7_on 48 = .ok (.iconst (-1), 1) := by decide +kernel
theorem dX7_on_49 : decode cX7_on 49 = .ok (.ireturn, 1) := by decide +kernel
theorem dX7_on_50 : decode cX7_on 50 = .ok (.iload_n 1, 1) := by decide +kernel
theorem dX7_on_51 : decode cX7_on 51 = .ok (.bipush 60, 2) := by decide +kernel
theorem dX7_on_53 : decode cX7_on 53 = .ok (.invokestatic 61, 3) := by decide +kernel
theorem dX7_on_56 : decode cX7_on 56 = .ok (.ifCond .ne 6, 3) := by decide +kernel
theorem dX7_on_59 : decode cX7_on 59 = .ok (.bipush (-2), 2) := by decide +kernel
theorem dX7_on_61 : decode cX7_on 61 = .ok (.ireturn, 1) := by decide +kernel
theorem dX7_on_62 : decode cX7_on 62 = .ok (.aload_n 0, 1) := by decide +kernel
theorem dX7_on_63 : decode cX7_on 63 = .ok (.getfield 57, 3) := by decide +kernel
theorem dX7_on_66 : decode cX7_on 66 = .ok (.aload_n 0, 1) := by decide +kernel
theorem dX7_on_67 : decode cX7_on 67 = .ok (.getfield 50, 3) := by decide +kernel
theorem dX7_on_70 : decode cX7_on 70 = .ok (.invokevirtual 162, 3) := by decide +kernel
theorem dX7_on_73 : decode cX7_on 73 = .ok (.aload_n 0, 1) := by decide +kernel
theorem dX7_on_74 : decode cX7_on 74 = .ok (.getfield 57, 3) := by decide +kernel
theorem dX7_on_77 : decode cX7_on 77 = .ok (.iload_n 1, 1) := by decide +kernel
theorem dX7_on_78 : decode cX7_on 78 = .ok (.invokevirtual 158, 3) := by decide +kernel
theorem dX7_on_81 : decode cX7_on 81 = .ok (.iload_n 3, 1) := by decide +kernel
theorem dX7_on_82 : decode cX7_on 82 = .ok (.ifCond .eq 15, 3) := by decide +kernel
theorem dX7_on_85 : decode cX7_on 85 = .ok (.aload_n 0, 1) := by decide +kernel
theorem dX7_on_86 : decode cX7_on 86 = .ok (.getfield 57, 3) := by decide +kernel
theorem dX7_on_89 : decode cX7_on 89 = .ok (.iload_n 2, 1) := by decide +kernel
theorem dX7_on_90 : decode cX7_on 90 = .ok (.bipush 10, 2) := by decide +kernel
theorem dX7_on_92 : decode cX7_on 92 = .ok (.isub, 1) := by decide +kernel
theorem dX7_on_93 : decode cX7_on 93 = .ok (.invokevirtual 112, 3) := by decide +kernel
theorem dX7_on_96 : decode cX7_on 96 = .ok (.ireturn, 1) := by decide +kernel
theorem dX7_on_97 : decode cX7_on 97 = .ok (.iload 4, 2) := by decide +kernel
theorem dX7_on_99 : decode cX7_on 99 = .ok (.ifCond .eq 18, 3) := by decide +kernel
theorem dX7_on_102 : decode cX7_on 102 = .ok (.aload_n 0, 1) := by decide +kernel
theorem dX7_on_103 : decode cX7_on 103 = .ok (.getfield 57, 3) := by decide +kernel
theorem dX7_on_106 : decode cX7_on 106 = .ok (.getfield 97, 3) := by decide +kernel
theorem dX7_on_109 : decode cX7_on 109 = .ok (.iload_n 2, 1) := by decide +kernel
theorem dX7_on_110 : decode cX7_on 110 = .ok (.bipush 20, 2) := by decide +kernel
theorem dX7_on_112 : decode cX7_on 112 = .ok (.isub, 1) := by decide +kernel
theorem dX7_on_113 : decode cX7_on 113 = .ok (.iaload, 1) := by decide +kernel
theorem dX7_on_114 : decode cX7_on 114 = .ok (.goto 10, 3) := by decide +kernel
theorem dX7_on_117 : decode cX7_on 117 = .ok (.aload_n 0, 1) := by decide +kernel
theorem dX7_on_118 : decode cX7_on 118 = .ok (.getfield 57, 3) := by decide +kernel
theorem dX7_on_121 : decode cX7_on 121 = .ok (.invokevirtual 151, 3) := by decide +kernel
theorem dX7_on_124 : decode cX7_on 124 = .ok (.ireturn, 1) := by decide +kernel
theorem dX7_when_0 : decode cX7_when 0 = .ok (.iload_n 1, 1) := by decide +kernel
theorem dX7_when_1 : decode cX7_when 1 = .ok (.ifCond .ne 16, 3) := by decide +kernel
theorem dX7_when_4 : decode cX7_when 4 = .ok (.iload_n 2, 1) := by decide +kernel
theorem dX7_when_5 : decode cX7_when 5 = .ok (.invokestatic 65, 3) := by decide +kernel
theorem dX7_when_8 : decode cX7_when 8 = .ok (.ifCond .eq 9, 3) := by decide +kernel
theorem dX7_when_11 : decode cX7_when 11 = .ok (.aload_n 0, 1) := by decide +kernel
theorem dX7_when_12 : decode cX7_when 12 = .ok (.iload_n 2, 1) := by decide +kernel
theorem dX7_when_13 : decode cX7_when 13 = .ok (.invokevirtual 166, 3) := by decide +kernel
theorem dX7_when_16 : decode cX7_when 16 = .ok (.ireturn, 1) := by decide +kernel
theorem dX7_when_17 : decode cX7_when 17 = .ok (.iload_n 1, 1) := by decide +kernel
theorem dX7_when_18 : decode cX7_when 18 = .ok (.iconst 1, 1) := by decide +kernel
theorem dX7_when_19 : decode cX7_when 19 = .ok (.if_icmp .ne 36, 3) := by decide +kernel
theorem dX7_when_22 : decode cX7_when 22 = .ok (.aload_n 0, 1) := by decide +kernel
theorem dX7_when_23 : decode cX7_when 23 = .ok (.getfield 50, 3) := by decide +kernel
theorem dX7_when_26 : decode cX7_when 26 = .ok (.iload_n 2, 1) := by decide +kernel
theorem dX7_when_27 : decode cX7_when 27 = .ok (.invokevirtual 77, 3) := by decide +kernel
theorem dX7_when_30 : decode cX7_when 30 = .ok (.ifCond .eq 25, 3) := by decide +kernel
theorem dX7_when_33 : decode cX7_when 33 = .ok (.aload_n 0, 1) := by decide +kernel
theorem dX7_when_34 : decode cX7_when 34 = .ok (.getfield 50, 3) := by decide +kernel
theorem dX7_when_37 : decode cX7_when 37 = .ok (.iload_n 2, 1) := by decide +kernel
theorem dX7_when_38 : decode cX7_when 38 = .ok (.invokevirtual 80, 3) := by decide +kernel
theorem dX7_when_41 : decode cX7_when 41 = .ok (.ifCond .eq 8, 3) := by decide +kernel
theorem dX7_when_44 : decode cX7_when 44 = .ok (.bipush (-5), 2) := by decide +kernel
theorem dX7_when_46 : decode cX7_when 46 = .ok (.goto 8, 3) := by decide +kernel
theorem dX7_when_49 : decode cX7_when 49 = .ok (.aload_n 0, 1) := by decide +kernel
theorem dX7_when_50 : decode cX7_when 50 = .ok (.iload_n 2, 1) := by decide +kernel
theorem dX7_when_51 : decode cX7_when 51 = .ok (.invokevirtual 169, 3) := by decide +kernel
theorem dX7_when_54 : decode cX7_when 54 = .ok (.ireturn, 1) := by decide +kernel
theorem dX7_when_55 : decode cX7_when 55 = .ok (.iconst (-1), 1) := by decide +kernel
theorem dX7_when_56 : decode cX7_when 56 = .ok (.ireturn, 1) := by decide +kernel
theorem dX7_stillBy_0 : decode cX7_stillBy 0 = .ok (.aload_n 0, 1) := by decide +kernel
theorem dX7_stillBy_1 : decode cX7_stillBy 1 = .ok (.getfield 57, 3) := by decide +kernel
theorem dX7_stillBy_4 : decode cX7_stillBy 4 = .ok (.aload_n 0, 1) := by decide +kernel
theorem dX7_stillBy_5 : decode cX7_stillBy 5 = .ok (.getfield 50, 3) := by decide +kernel
theorem dX7_stillBy_8 : decode cX7_stillBy 8 = .ok (.invokevirtual 162, 3) := by decide +kernel
theorem dX7_stillBy_11 : decode cX7_stillBy 11 = .ok (.iconst 0, 1) := by decide +kernel
theorem dX7_stillBy_12 : decode cX7_stillBy 12 = .ok (.istore_n 2, 1) := by decide +kernel
theorem dX7_stillBy_13 : decode cX7_stillBy 13 = .ok (.iload_n 2, 1) := by decide +kernel
theorem dX7_stillBy_14 : decode cX7_stillBy 14 = .ok (.bipush 60, 2) := by decide +kernel
theorem dX7_stillBy_16 : decode cX7_stillBy 16 = .ok (.if_icmp .gt 40, 3) := by decide +kernel
theorem dX7_stillBy_19 : decode cX7_stillBy 19 = .ok (.aload_n 0, 1) := by decide +kernel
theorem dX7_stillBy_20 : decode cX7_stillBy 20 = .ok (.getfield 57, 3) := by decide +kernel
theorem dX7_stillBy_23 : decode cX7_stillBy 23 = .ok (.iload_n 1, 1) := by decide +kernel
theorem dX7_stillBy_24 : decode cX7_stillBy 24 = .ok (.invokevirtual 112, 3) := by decide +kernel
theorem dX7_stillBy_27 : decode cX7_stillBy 27 = .ok (.aload_n 0, 1) := by decide +kernel
theorem dX7_stillBy_28 : decode cX7_stillBy 28 = .ok (.getfield 57, 3) := by decide +kernel
theorem dX7_stillBy_31 : decode cX7_stillBy 31 = .ok (.getfield 135, 3) := by decide +kernel
theorem dX7_stillBy_34 : decode cX7_stillBy 34 = .ok (.getfield 145, 3) := by decide +kernel
theorem dX7_stillBy_37 : decode cX7_stillBy 37 = .ok (.if_icmp .gt 5, 3) := by decide +kernel
theorem dX7_stillBy_40 : decode cX7_stillBy 40 = .ok (.iload_n 2, 1) := by decide +kernel
theorem dX7_stillBy_41 : decode cX7_stillBy 41 = .ok (.ireturn, 1) := by decide +kernel
theorem dX7_stillBy_42 : decode cX7_stillBy 42 = .ok (.aload_n 0, 1) := by decide +kernel
theorem dX7_stillBy_43 : decode cX7_stillBy 43 = .ok (.getfield 57, 3) := by decide +kernel
theorem dX7_stillBy_46 : decode cX7_stillBy 46 = .ok (.iconst 1, 1) := by decide +kernel
theorem dX7_stillBy_47 : decode cX7_stillBy 47 = .ok (.invokevirtual 158, 3) := by decide +kernel
theorem dX7_stillBy_50 : decode cX7_stillBy 50 = .ok (.iinc 2 1, 3) := by decide +kernel
theorem dX7_stillBy_53 : decode cX7_stillBy 53 = .ok (.goto (-40), 3) := by decide +kernel
theorem dX7_stillBy_56 : decode cX7_stillBy 56 = .ok (.bipush (-5), 2) := by decide +kernel
theorem dX7_stillBy_58 : decode cX7_stillBy 58 = .ok (.ireturn, 1) := by decide +kernel
theorem dX7_silentBy_0 : decode cX7_silentBy 0 = .ok (.aload_n 0, 1) := by decide +kernel
theorem dX7_silentBy_1 : decode cX7_silentBy 1 = .ok (.getfield 57, 3) := by decide +kernel
theorem dX7_silentBy_4 : decode cX7_silentBy 4 = .ok (.aload_n 0, 1) := by decide +kernel
theorem dX7_silentBy_5 : decode cX7_silentBy 5 = .ok (.getfield 50, 3) := by decide +kernel
theorem dX7_silentBy_8 : decode cX7_silentBy 8 = .ok (.invokevirtual 162, 3) := by decide +kernel
theorem dX7_silentBy_11 : decode cX7_silentBy 11 = .ok (.iconst 0, 1) := by decide +kernel
theorem dX7_silentBy_12 : decode cX7_silentBy 12 = .ok (.istore_n 2, 1) := by decide +kernel
theorem dX7_silentBy_13 : decode cX7_silentBy 13 = .ok (.iload_n 2, 1) := by decide +kernel
theorem dX7_silentBy_14 : decode cX7_silentBy 14 = .ok (.bipush 60, 2) := by decide +kernel
theorem dX7_silentBy_16 : decode cX7_silentBy 16 = .ok (.if_icmp .gt 31, 3) := by decide +kernel
theorem dX7_silentBy_19 : decode cX7_silentBy 19 = .ok (.aload_n 0, 1) := by decide +kernel
theorem dX7_silentBy_20 : decode cX7_silentBy 20 = .ok (.getfield 57, 3) := by decide +kernel
theorem dX7_silentBy_23 : decode cX7_silentBy 23 = .ok (.getfield 97, 3) := by decide +kernel
theorem dX7_silentBy_26 : decode cX7_silentBy 26 = .ok (.iload_n 1, 1) := by decide +kernel
theorem dX7_silentBy_27 : decode cX7_silentBy 27 = .ok (.iaload, 1) := by decide +kernel
theorem dX7_silentBy_28 : decode cX7_silentBy 28 = .ok (.ifCond .ne 5, 3) := by decide +kernel
theorem dX7_silentBy_31 : decode cX7_silentBy 31 = .ok (.iload_n 2, 1) := by decide +kernel
theorem dX7_silentBy_32 : decode cX7_silentBy 32 = .ok (.ireturn, 1) := by decide +kernel
theorem dX7_silentBy_33 : decode cX7_silentBy 33 = .ok (.aload_n 0, 1) := by decide +kernel
theorem dX7_silentBy_34 : decode cX7_silentBy 34 = .ok (.getfield 57, 3) := by decide +kernel
theorem dX7_silentBy_37 : decode cX7_silentBy 37 = .ok (.iconst 1, 1) := by decide +kernel
theorem dX7_silentBy_38 : decode cX7_silentBy 38 = .ok (.invokevirtual 158, 3) := by decide +kernel
theorem dX7_silentBy_41 : decode cX7_silentBy 41 = .ok (.iinc 2 1, 3) := by decide +kernel
theorem dX7_silentBy_44 : decode cX7_silentBy 44 = .ok (.goto (-31), 3) := by decide +kernel
theorem dX7_silentBy_47 : decode cX7_silentBy 47 = .ok (.bipush (-5), 2) := by decide +kernel
theorem dX7_silentBy_49 : decode cX7_silentBy 49 = .ok (.ireturn, 1) := by decide +kernel
theorem dX7_home_0 : decode cX7_home 0 = .ok (.aload_n 0, 1) := by decide +kernel
theorem dX7_home_1 : decode cX7_home 1 = .ok (.getfield 50, 3) := by decide +kernel
theorem dX7_home_4 : decode cX7_home 4 = .ok (.iload_n 1, 1) := by decide +kernel
theorem dX7_home_5 : decode cX7_home 5 = .ok (.invokevirtual 77, 3) := by decide +kernel
theorem dX7_home_8 : decode cX7_home 8 = .ok (.ifCond .ne 5, 3) := by decide +kernel
theorem dX7_home_11 : decode cX7_home 11 = .ok (.iconst (-1), 1) := by decide +kernel
theorem dX7_home_12 : decode cX7_home 12 = .ok (.ireturn, 1) := by decide +kernel
theorem dX7_home_13 : decode cX7_home 13 = .ok (.aload_n 0, 1) := by decide +kernel
theorem dX7_home_14 : decode cX7_home 14 = .ok (.getfield 27, 3) := by decide +kernel
theorem dX7_home_17 : decode cX7_home 17 = .ok (.aload_n 0, 1) := by decide +kernel
theorem dX7_home_18 : decode cX7_home 18 = .ok (.getfield 50, 3) := by decide +kernel
theorem dX7_home_21 : decode cX7_home 21 = .ok (.invokevirtual 172, 3) := by decide +kernel
theorem dX7_home_24 : decode cX7_home 24 = .ok (.aload_n 0, 1) := by decide +kernel
theorem dX7_home_25 : decode cX7_home 25 = .ok (.getfield 27, 3) := by decide +kernel
theorem dX7_home_28 : decode cX7_home 28 = .ok (.iload_n 1, 1) := by decide +kernel
theorem dX7_home_29 : decode cX7_home 29 = .ok (.invokevirtual 175, 3) := by decide +kernel
theorem dX7_home_32 : decode cX7_home 32 = .ok (.ireturn, 1) := by decide +kernel
theorem dX7_shared_0 : decode cX7_shared 0 = .ok (.iload_n 1, 1) := by decide +kernel
theorem dX7_shared_1 : decode cX7_shared 1 = .ok (.bipush 10, 2) := by decide +kernel
theorem dX7_shared_3 : decode cX7_shared 3 = .ok (.isub, 1) := by decide +kernel
theorem dX7_shared_4 : decode cX7_shared 4 = .ok (.istore_n 2, 1) := by decide +kernel
theorem dX7_shared_5 : decode cX7_shared 5 = .ok (.iload_n 1, 1) := by decide +kernel
theorem dX7_shared_6 : decode cX7_shared 6 = .ok (.bipush 10, 2) := by decide +kernel
theorem dX7_shared_8 : decode cX7_shared 8 = .ok (.if_icmp .lt 18, 3) := by decide +kernel
theorem dX7_shared_11 : decode cX7_shared 11 = .ok (.aload_n 0, 1) := by decide +kernel
theorem dX7_shared_12 : decode cX7_shared 12 = .ok (.getfield 50, 3) := by decide +kernel
theorem dX7_shared_15 : decode cX7_shared 15 = .ok (.iload_n 2, 1) := by decide +kernel
theorem dX7_shared_16 : decode cX7_shared 16 = .ok (.invokevirtual 77, 3) := by decide +kernel
theorem dX7_shared_19 : decode cX7_shared 19 = .ok (.ifCond .eq 7, 3) := by decide +kernel
theorem dX7_shared_22 : decode cX7_shared 22 = .ok (.iconst 1, 1) := by decide +kernel
theorem dX7_shared_23 : decode cX7_shared 23 = .ok (.goto 4, 3) := by decide +kernel
theorem dX7_shared_26 : decode cX7_shared 26 = .ok (.iconst 0, 1) := by decide +kernel
theorem dX7_shared_27 : decode cX7_shared 27 = .ok (.istore_n 3, 1) := by decide +kernel
theorem dX7_shared_28 : decode cX7_shared 28 = .ok (.iload_n 1, 1) := by decide +kernel
theorem dX7_shared_29 : decode cX7_shared 29 = .ok (.ifCond .eq 14, 3) := by decide +kernel
theorem dX7_shared_32 : decode cX7_shared 32 = .ok (.iload_n 1, 1) := by decide +kernel
theorem dX7_shared_33 : decode cX7_shared 33 = .ok (.iconst 1, 1) := by decide +kernel
theorem dX7_shared_34 : decode cX7_shared 34 = .ok (.if_icmp .eq 9, 3) := by decide +kernel
theorem dX7_shared_37 : decode cX7_shared 37 = .ok (.iload_n 3, 1) := by decide +kernel
theorem dX7_shared_38 : decode cX7_shared 38 = .ok (.ifCond .ne 5, 3) := by decide +kernel
theorem dX7_shared_41 : decode cX7_shared 41 = .ok (.iconst (-1), 1) := by decide +kernel
theorem dX7_shared_42 : decode cX7_shared 42 = .ok (.ireturn, 1) := by decide +kernel
theorem dX7_shared_43 : decode cX7_shared 43 = .ok (.iload_n 3, 1) := by decide +kernel
theorem dX7_shared_44 : decode cX7_shared 44 = .ok (.ifCond .eq 17, 3) := by decide +kernel
theorem dX7_shared_47 : decode cX7_shared 47 = .ok (.aload_n 0, 1) := by decide +kernel
theorem dX7_shared_48 : decode cX7_shared 48 = .ok (.getfield 50, 3) := by decide +kernel
theorem dX7_shared_51 : decode cX7_shared 51 = .ok (.iload_n 2, 1) := by decide +kernel
theorem dX7_shared_52 : decode cX7_shared 52 = .ok (.invokevirtual 80, 3) := by decide +kernel
theorem dX7_shared_55 : decode cX7_shared 55 = .ok (.ifCond .eq 6, 3) := by decide +kernel
theorem dX7_shared_58 : decode cX7_shared 58 = .ok (.bipush (-5), 2) := by decide +kernel
theorem dX7_shared_60 : decode cX7_shared 60 = .ok (.ireturn, 1) := by decide +kernel
theorem dX7_shared_61 : decode cX7_shared 61 = .ok (.aload_n 0, 1) := by decide +kernel
theorem dX7_shared_62 : decode cX7_shared 62 = .ok (.getfield 27, 3) := by decide +kernel
theorem dX7_shared_65 : decode cX7_shared 65 = .ok (.aload_n 0, 1) := by decide +kernel
theorem dX7_shared_66 : decode cX7_shared 66 = .ok (.getfield 50, 3) := by decide +kernel
theorem dX7_shared_69 : decode cX7_shared 69 = .ok (.invokevirtual 172, 3) := by decide +kernel
theorem dX7_shared_72 : decode cX7_shared 72 = .ok (.aload_n 0, 1) := by decide +kernel
theorem dX7_shared_73 : decode cX7_shared 73 = .ok (.getfield 27, 3) := by decide +kernel
theorem dX7_shared_76 : decode cX7_shared 76 = .ok (.invokevirtual 178, 3) := by decide +kernel
theorem dX7_shared_79 : decode cX7_shared 79 = .ok (.iload_n 3, 1) := by decide +kernel
theorem dX7_shared_80 : decode cX7_shared 80 = .ok (.ifCond .eq 13, 3) := by decide +kernel
theorem dX7_shared_83 : decode cX7_shared 83 = .ok (.aload_n 0, 1) := by decide +kernel
theorem dX7_shared_84 : decode cX7_shared 84 = .ok (.getfield 27, 3) := by decide +kernel
theorem dX7_shared_87 : decode cX7_shared 87 = .ok (.getfield 181, 3) := by decide +kernel
theorem dX7_shared_90 : decode cX7_shared 90 = .ok (.iload_n 2, 1) := by decide +kernel
theorem dX7_shared_91 : decode cX7_shared 91 = .ok (.iaload, 1) := by decide +kernel
theorem dX7_shared_92 : decode cX7_shared 92 = .ok (.ireturn, 1) := by decide +kernel
theorem dX7_shared_93 : decode cX7_shared 93 = .ok (.iload_n 1, 1) := by decide +kernel
theorem dX7_shared_94 : decode cX7_shared 94 = .ok (.ifCond .ne 13, 3) := by decide +kernel
theorem dX7_shared_97 : decode cX7_shared 97 = .ok (.aload_n 0, 1) := by decide +kernel
theorem dX7_shared_98 : decode cX7_shared 98 = .ok (.getfield 27, 3) := by decide +kernel
theorem dX7_shared_101 : decode cX7_shared 101 = .ok (.getfield 184, 3) := by decide +kernel
theorem dX7_shared_104 : decode cX7_shared 104 = .ok (.goto 10, 3) := by decide +kernel
theorem dX7_shared_107 : decode cX7_shared 107 = .ok (.aload_n 0, 1) := by decide +kernel
theorem dX7_shared_108 : decode cX7_shared 108 = .ok (.getfield 27, 3) := by decide +kernel
theorem dX7_shared_111 : decode cX7_shared 111 = .ok (.getfield 187, 3) := by decide +kernel
theorem dX7_shared_114 : decode cX7_shared 114 = .ok (.ireturn, 1) := by decide +kernel
theorem dX7_best_0 : decode cX7_best 0 = .ok (.iload_n 1, 1) := by decide +kernel
theorem dX7_best_1 : decode cX7_best 1 = .ok (.ifCond .eq 10, 3) := by decide +kernel
theorem dX7_best_4 : decode cX7_best 4 = .ok (.iload_n 1, 1) := by decide +kernel
theorem dX7_best_5 : decode cX7_best 5 = .ok (.iconst 1, 1) := by decide +kernel
theorem dX7_best_6 : decode cX7_best 6 = .ok (.if_icmp .eq 5, 3) := by decide +kernel
theorem dX7_best_9 : decode cX7_best 9 = .ok (.iconst (-1), 1) := by decide +kernel
theorem dX7_best_10 : decode cX7_best 10 = .ok (.ireturn, 1) := by decide +kernel
theorem dX7_best_11 : decode cX7_best 11 = .ok (.aload_n 0, 1) := by decide +kernel
theorem dX7_best_12 : decode cX7_best 12 = .ok (.getfield 27, 3) := by decide +kernel
theorem dX7_best_15 : decode cX7_best 15 = .ok (.aload_n 0, 1) := by decide +kernel
theorem dX7_best_16 : decode cX7_best 16 = .ok (.getfield 50, 3) := by decide +kernel
theorem dX7_best_19 : decode cX7_best 19 = .ok (.invokevirtual 172, 3) := by decide +kernel
theorem dX7_best_22 : decode cX7_best 22 = .ok (.iload_n 1, 1) := by decide +kernel
theorem dX7_best_23 : decode cX7_best 23 = .ok (.ifCond .ne 13, 3) := by decide +kernel
theorem dX7_best_26 : decode cX7_best 26 = .ok (.aload_n 0, 1) := by decide +kernel
theorem dX7_best_27 : decode cX7_best 27 = .ok (.getfield 27, 3) := by decide +kernel
theorem dX7_best_30 : decode cX7_best 30 = .ok (.invokevirtual 190, 3) := by decide +kernel
theorem dX7_best_33 : decode cX7_best 33 = .ok (.goto 10, 3) := by decide +kernel
theorem dX7_best_36 : decode cX7_best 36 = .ok (.aload_n 0, 1) := by decide +kernel
theorem dX7_best_37 : decode cX7_best 37 = .ok (.getfield 27, 3) := by decide +kernel
theorem dX7_best_40 : decode cX7_best 40 = .ok (.invokevirtual 193, 3) := by decide +kernel
theorem dX7_best_43 : decode cX7_best 43 = .ok (.ireturn, 1) := by decide +kernel
theorem dX7_fewest_0 : decode cX7_fewest 0 = .ok (.iload_n 1, 1) := by decide +kernel
theorem dX7_fewest_1 : decode cX7_fewest 1 = .ok (.iconst (-1), 1) := by decide +kernel
theorem dX7_fewest_2 : decode cX7_fewest 2 = .ok (.if_icmp .lt 8, 3) := by decide +kernel
theorem dX7_fewest_5 : decode cX7_fewest 5 = .ok (.iload_n 1, 1) := by decide +kernel
theorem dX7_fewest_6 : decode cX7_fewest 6 = .ok (.iconst 3, 1) := by decide +kernel
theorem dX7_fewest_7 : decode cX7_fewest 7 = .ok (.if_icmp .lt 5, 3) := by decide +kernel
theorem dX7_fewest_10 : decode cX7_fewest 10 = .ok (.iconst (-1), 1) := by decide +kernel
theorem dX7_fewest_11 : decode cX7_fewest 11 = .ok (.ireturn, 1) := by decide +kernel
theorem dX7_fewest_12 : decode cX7_fewest 12 = .ok (.aload_n 0, 1) := by decide +kernel
theorem dX7_fewest_13 : decode cX7_fewest 13 = .ok (.getfield 27, 3) := by decide +kernel
theorem dX7_fewest_16 : decode cX7_fewest 16 = .ok (.aload_n 0, 1) := by decide +kernel
theorem dX7_fewest_17 : decode cX7_fewest 17 = .ok (.getfield 50, 3) := by decide +kernel
theorem dX7_fewest_20 : decode cX7_fewest 20 = .ok (.invokevirtual 172, 3) := by decide +kernel
theorem dX7_fewest_23 : decode cX7_fewest 23 = .ok (.aload_n 0, 1) := by decide +kernel
theorem dX7_fewest_24 : decode cX7_fewest 24 = .ok (.getfield 27, 3) := by decide +kernel
theorem dX7_fewest_27 : decode cX7_fewest 27 = .ok (.invokevirtual 196, 3) := by decide +kernel
theorem dX7_fewest_30 : decode cX7_fewest 30 = .ok (.istore_n 2, 1) := by decide +kernel
theorem dX7_fewest_31 : decode cX7_fewest 31 = .ok (.iload_n 1, 1) := by decide +kernel
theorem dX7_fewest_32 : decode cX7_fewest 32 = .ok (.iconst (-1), 1) := by decide +kernel
theorem dX7_fewest_33 : decode cX7_fewest 33 = .ok (.if_icmp .ne 5, 3) := by decide +kernel
theorem dX7_fewest_36 : decode cX7_fewest 36 = .ok (.iload_n 2, 1) := by decide +kernel
theorem dX7_fewest_37 : decode cX7_fewest 37 = .ok (.ireturn, 1) := by decide +kernel
theorem dX7_fewest_38 : decode cX7_fewest 38 = .ok (.iload_n 1, 1) := by decide +kernel
theorem dX7_fewest_39 : decode cX7_fewest 39 = .ok (.iload_n 2, 1) := by decide +kernel
theorem dX7_fewest_40 : decode cX7_fewest 40 = .ok (.if_icmp .ge 15, 3) := by decide +kernel
theorem dX7_fewest_43 : decode cX7_fewest 43 = .ok (.aload_n 0, 1) := by decide +kernel
theorem dX7_fewest_44 : decode cX7_fewest 44 = .ok (.getfield 27, 3) := by decide +kernel
theorem dX7_fewest_47 : decode cX7_fewest 47 = .ok (.getfield 199, 3) := by decide +kernel
theorem dX7_fewest_50 : decode cX7_fewest 50 = .ok (.iload_n 1, 1) := by decide +kernel
theorem dX7_fewest_51 : decode cX7_fewest 51 = .ok (.iaload, 1) := by decide +kernel
theorem dX7_fewest_52 : decode cX7_fewest 52 = .ok (.goto 5, 3) := by decide +kernel
theorem dX7_fewest_55 : decode cX7_fewest 55 = .ok (.bipush (-5), 2) := by decide +kernel
theorem dX7_fewest_57 : decode cX7_fewest 57 = .ok (.ireturn, 1) := by decide +kernel
theorem dX7_see_0 : decode cX7_see 0 = .ok (.iload_n 1, 1) := by decide +kernel
theorem dX7_see_1 : decode cX7_see 1 = .ok (.iconst (-1), 1) := by decide +kernel
theorem dX7_see_2 : decode cX7_see 2 = .ok (.if_icmp .ne 14, 3) := by decide +kernel
theorem dX7_see_5 : decode cX7_see 5 = .ok (.aload_n 0, 1) := by decide +kernel
theorem dX7_see_6 : decode cX7_see 6 = .ok (.getfield 50, 3) := by decide +kernel
theorem dX7_see_9 : decode cX7_see 9 = .ok (.getfield 202, 3) := by decide +kernel
theorem dX7_see_12 : decode cX7_see 12 = .ok (.invokevirtual 206, 3) := by decide +kernel
theorem dX7_see_15 : decode cX7_see 15 = .ok (.ireturn, 1) := by decide +kernel
theorem dX7_see_16 : decode cX7_see 16 = .ok (.iload_n 1, 1) := by decide +kernel
theorem dX7_see_17 : decode cX7_see 17 = .ok (.invokestatic 65, 3) := by decide +kernel
theorem dX7_see_20 : decode cX7_see 20 = .ok (.ifCond .ne 5, 3) := by decide +kernel
theorem dX7_see_23 : decode cX7_see 23 = .ok (.iconst (-1), 1) := by decide +kernel
theorem dX7_see_24 : decode cX7_see 24 = .ok (.ireturn, 1) := by decide +kernel
theorem dX7_see_25 : decode cX7_see 25 = .ok (.iload_n 2, 1) := by decide +kernel
theorem dX7_see_26 : decode cX7_see 26 = .ok (.sipush 999, 3) := by decide +kernel
theorem dX7_see_29 : decode cX7_see 29 = .ok (.invokestatic 61, 3) := by decide +kernel
theorem dX7_see_32 : decode cX7_see 32 = .ok (.ifCond .eq 12, 3) := by decide +kernel
theorem dX7_see_35 : decode cX7_see 35 = .ok (.iload_n 3, 1) := by decide +kernel
theorem dX7_see_36 : decode cX7_see 36 = .ok (.bipush 20, 2) := by decide +kernel
theorem dX7_see_38 : decode cX7_see 38 = .ok (.invokestatic 61, 3) := by decide +kernel
theorem dX7_see_41 : decode cX7_see 41 = .ok (.ifCond .ne 6, 3) := by decide +kernel
theorem dX7_see_44 : decode cX7_see 44 = .ok (.bipush (-2), 2) := by decide +kernel
theorem dX7_see_46 : decode cX7_see 46 = .ok (.ireturn, 1) := by decide +kernel
theorem dX7_see_47 : decode cX7_see 47 = .ok (.aload_n 0, 1) := by decide +kernel
theorem dX7_see_48 : decode cX7_see 48 = .ok (.getfield 50, 3) := by decide +kernel
theorem dX7_see_51 : decode cX7_see 51 = .ok (.getfield 202, 3) := by decide +kernel
theorem dX7_see_54 : decode cX7_see 54 = .ok (.invokevirtual 211, 3) := by decide +kernel
theorem dX7_see_57 : decode cX7_see 57 = .ok (.ifCond .eq 8, 3) := by decide +kernel
theorem dX7_see_60 : decode cX7_see 60 = .ok (.bipush (-4), 2) := by decide +kernel
theorem dX7_see_62 : decode cX7_see 62 = .ok (.goto 16, 3) := by decide +kernel
theorem dX7_see_65 : decode cX7_see 65 = .ok (.aload_n 0, 1) := by decide +kernel
theorem dX7_see_66 : decode cX7_see 66 = .ok (.getfield 50, 3) := by decide +kernel
theorem dX7_see_69 : decode cX7_see 69 = .ok (.getfield 202, 3) := by decide +kernel
theorem dX7_see_72 : decode cX7_see 72 = .ok (.iload_n 1, 1) := by decide +kernel
theorem dX7_see_73 : decode cX7_see 73 = .ok (.iload_n 2, 1) := by decide +kernel
theorem dX7_see_74 : decode cX7_see 74 = .ok (.iload_n 3, 1) := by decide +kernel
theorem dX7_see_75 : decode cX7_see 75 = .ok (.invokevirtual 215, 3) := by decide +kernel
theorem dX7_see_78 : decode cX7_see 78 = .ok (.ireturn, 1) := by decide +kernel
theorem dX7_louds_0 : decode cX7_louds 0 = .ok (.aload_n 0, 1) := by decide +kernel
theorem dX7_louds_1 : decode cX7_louds 1 = .ok (.aload_n 0, 1) := by decide +kernel
theorem dX7_louds_2 : decode cX7_louds 2 = .ok (.getfield 57, 3) := by decide +kernel
theorem dX7_louds_5 : decode cX7_louds 5 = .ok (.getfield 97, 3) := by decide +kernel
theorem dX7_louds_8 : decode cX7_louds 8 = .ok (.bipush 40, 2) := by decide +kernel
theorem dX7_louds_10 : decode cX7_louds 10 = .ok (.iload_n 1, 1) := by decide +kernel
theorem dX7_louds_11 : decode cX7_louds 11 = .ok (.iload_n 2, 1) := by decide +kernel
theorem dX7_louds_12 : decode cX7_louds 12 = .ok (.invokevirtual 219, 3) := by decide +kernel
theorem dX7_louds_15 : decode cX7_louds 15 = .ok (.ireturn, 1) := by decide +kernel
theorem dX7_can_0 : decode cX7_can 0 = .ok (.aload_n 0, 1) := by decide +kernel
theorem dX7_can_1 : decode cX7_can 1 = .ok (.aload_n 0, 1) := by decide +kernel
theorem dX7_can_2 : decode cX7_can 2 = .ok (.getfield 57, 3) := by decide +kernel
theorem dX7_can_5 : decode cX7_can 5 = .ok (.getfield 94, 3) := by decide +kernel
theorem dX7_can_8 : decode cX7_can 8 = .ok (.bipush 9, 2) := by decide +kernel
theorem dX7_can_10 : decode cX7_can 10 = .ok (.iload_n 1, 1) := by decide +kernel
theorem dX7_can_11 : decode cX7_can 11 = .ok (.iload_n 2, 1) := by decide +kernel
theorem dX7_can_12 : decode cX7_can 12 = .ok (.invokevirtual 219, 3) := by decide +kernel
theorem dX7_can_15 : decode cX7_can 15 = .ok (.ireturn, 1) := by decide +kernel
theorem dX7_fitting_0 : decode cX7_fitting 0 = .ok (.aload_n 0, 1) := by decide +kernel
theorem dX7_fitting_1 : decode cX7_fitting 1 = .ok (.getfield 50, 3) := by decide +kernel
theorem dX7_fitting_4 : decode cX7_fitting 4 = .ok (.iload_n 3, 1) := by decide +kernel
theorem dX7_fitting_5 : decode cX7_fitting 5 = .ok (.invokevirtual 77, 3) := by decide +kernel
theorem dX7_fitting_8 : decode cX7_fitting 8 = .ok (.ifCond .eq 14, 3) := by decide +kernel
theorem dX7_fitting_11 : decode cX7_fitting 11 = .ok (.iload 4, 2) := by decide +kernel
theorem dX7_fitting_13 : decode cX7_fitting 13 = .ok (.ifCond .eq 11, 3) := by decide +kernel
theorem dX7_fitting_16 : decode cX7_fitting 16 = .ok (.iload 4, 2) := by decide +kernel
theorem dX7_fitting_18 : decode cX7_fitting 18 = .ok (.iconst 1, 1) := by decide +kernel
theorem dX7_fitting_19 : decode cX7_fitting 19 = .ok (.if_icmp .eq 5, 3) := by decide +kernel
theorem dX7_fitting_22 : decode cX7_fitting 22 = .ok (.iconst (-1), 1) := by decide +kernel
theorem dX7_fitting_23 : decode cX7_fitting 23 = .ok (.ireturn, 1) := by decide +kernel
theorem dX7_fitting_24 : decode cX7_fitting 24 = .ok (.iconst 0, 1) := by decide +kernel
theorem dX7_fitting_25 : decode cX7_fitting 25 = .ok (.istore 5, 2) := by decide +kernel
theorem dX7_fitting_27 : decode cX7_fitting 27 = .ok (.bipush (-5), 2) := by decide +kernel
theorem dX7_fitting_29 : decode cX7_fitting 29 = .ok (.istore 6, 2) := by decide +kernel
theorem dX7_fitting_31 : decode cX7_fitting 31 = .ok (.iload_n 2, 1) := by decide +kernel
theorem dX7_fitting_32 : decode cX7_fitting 32 = .ok (.istore 7, 2) := by decide +kernel
theorem dX7_fitting_34 : decode cX7_fitting 34 = .ok (.iload 7, 2) := by decide +kernel
theorem dX7_fitting_36 : decode cX7_fitting 36 = .ok (.ifCond .lt 39, 3) := by decide +kernel
theorem dX7_fitting_39 : decode cX7_fitting 39 = .ok (.aload_n 0, 1) := by decide +kernel
theorem dX7_fitting_40 : decode cX7_fitting 40 = .ok (.getfield 57, 3) := by decide +kernel
theorem dX7_fitting_43 : decode cX7_fitting 43 = .ok (.aload_n 0, 1) := by decide +kernel
theorem dX7_fitting_44 : decode cX7_fitting 44 = .ok (.getfield 50, 3) := by decide +kernel
theorem dX7_fitting_47 : decode cX7_fitting 47 = .ok (.invokevirtual 162, 3) := by decide +kernel
theorem dX7_fitting_50 : decode cX7_fitting 50 = .ok (.aload_n 1, 1) := by decide +kernel
theorem dX7_fitting_51 : decode cX7_fitting 51 = .ok (.iload_n 3, 1) := by decide +kernel
theorem dX7_fitting_52 : decode cX7_fitting 52 = .ok (.iload 7, 2) := by decide +kernel
theorem dX7_fitting_54 : decode cX7_fitting 54 = .ok (.iastore, 1) := by decide +kernel
theorem dX7_fitting_55 : decode cX7_fitting 55 = .ok (.aload_n 0, 1) := by decide +kernel
theorem dX7_fitting_56 : decode cX7_fitting 56 = .ok (.invokevirtual 223, 3) := by decide +kernel
theorem dX7_fitting_59 : decode cX7_fitting 59 = .ok (.ifCond .eq 10, 3) := by decide +kernel
theorem dX7_fitting_62 : decode cX7_fitting 62 = .ok (.iinc 5 1, 3) := by decide +kernel
theorem dX7_fitting_65 : decode cX7_fitting 65 = .ok (.iload 7, 2) := by decide +kernel
theorem dX7_fitting_67 : decode cX7_fitting 67 = .ok (.istore 6, 2) := by decide +kernel
theorem dX7_fitting_69 : decode cX7_fitting 69 = .ok (.iinc 7 (-1), 3) := by decide +kernel
theorem dX7_fitting_72 : decode cX7_fitting 72 = .ok (.goto (-38), 3) := by decide +kernel
theorem dX7_fitting_75 : decode cX7_fitting 75 = .ok (.iload 4, 2) := by decide +kernel
theorem dX7_fitting_77 : decode cX7_fitting 77 = .ok (.ifCond .ne 8, 3) := by decide +kernel
theorem dX7_fitting_80 : decode cX7_fitting 80 = .ok (.iload 5, 2) := by decide +kernel
theorem dX7_fitting_82 : decode cX7_fitting 82 = .ok (.goto 5, 3) := by decide +kernel
theorem dX7_fitting_85 : decode cX7_fitting 85 = .ok (.iload 6, 2) := by decide +kernel
theorem dX7_fitting_87 : decode cX7_fitting 87 = .ok (.ireturn, 1) := by decide +kernel
theorem dX7_where_0 : decode cX7_where 0 = .ok (.aload_n 0, 1) := by decide +kernel
theorem dX7_where_1 : decode cX7_where 1 = .ok (.getfield 50, 3) := by decide +kernel
theorem dX7_where_4 : decode cX7_where 4 = .ok (.iload_n 1, 1) := by decide +kernel
theorem dX7_where_5 : decode cX7_where 5 = .ok (.invokevirtual 77, 3) := by decide +kernel
theorem dX7_where_8 : decode cX7_where 8 = .ok (.ifCond .ne 5, 3) := by decide +kernel
theorem dX7_where_11 : decode cX7_where 11 = .ok (.iconst (-1), 1) := by decide +kernel
theorem dX7_where_12 : decode cX7_where 12 = .ok (.ireturn, 1) := by decide +kernel
theorem dX7_where_13 : decode cX7_where 13 = .ok (.iconst 0, 1) := by decide +kernel
theorem dX7_where_14 : decode cX7_where 14 = .ok (.istore_n 2, 1) := by decide +kernel
theorem dX7_where_15 : decode cX7_where 15 = .ok (.iconst 0, 1) := by decide +kernel
theorem dX7_where_16 : decode cX7_where 16 = .ok (.istore_n 3, 1) := by decide +kernel
theorem dX7_where_17 : decode cX7_where 17 = .ok (.iload_n 3, 1) := by decide +kernel
theorem dX7_where_18 : decode cX7_where 18 = .ok (.iconst 5, 1) := by decide +kernel
theorem dX7_where_19 : decode cX7_where 19 = .ok (.if_icmp .ge 43, 3) := by decide +kernel
theorem dX7_where_22 : decode cX7_where 22 = .ok (.aload_n 0, 1) := by decide +kernel
theorem dX7_where_23 : decode cX7_where 23 = .ok (.getfield 57, 3) := by decide +kernel
theorem dX7_where_26 : decode cX7_where 26 = .ok (.aload_n 0, 1) := by decide +kernel
theorem dX7_where_27 : decode cX7_where 27 = .ok (.getfield 50, 3) := by decide +kernel
theorem dX7_where_30 : decode cX7_where 30 = .ok (.invokevirtual 162, 3) := by decide +kernel
theorem dX7_where_33 : decode cX7_where 33 = .ok (.aload_n 0, 1) := by decide +kernel
theorem dX7_where_34 : decode cX7_where 34 = .ok (.getfield 57, 3) := by decide +kernel
theorem dX7_where_37 : decode cX7_where 37 = .ok (.getfield 100, 3) := by decide +kernel
theorem dX7_where_40 : decode cX7_where 40 = .ok (.iload_n 1, 1) := by decide +kernel
theorem dX7_where_41 : decode cX7_where 41 = .ok (.iload_n 3, 1) := by decide +kernel
theorem dX7_where_42 : decode cX7_where 42 = .ok (.iastore, 1) := by decide +kernel
theorem dX7_where_43 : decode cX7_where 43 = .ok (.aload_n 0, 1) := by decide +kernel
theorem dX7_where_44 : decode cX7_where 44 = .ok (.invokevirtual 223, 3) := by decide +kernel
theorem dX7_where_47 : decode cX7_where 47 = .ok (.ifCond .eq 9, 3) := by decide +kernel
theorem dX7_where_50 : decode cX7_where 50 = .ok (.iload_n 2, 1) := by decide +kernel
theorem dX7_where_51 : decode cX7_where 51 = .ok (.iconst 1, 1) := by decide +kernel
theorem dX7_where_52 : decode cX7_where 52 = .ok (.iload_n 3, 1) := by decide +kernel
theorem dX7_where_53 : decode cX7_where 53 = .ok (.ishl, 1) := by decide +kernel
theorem dX7_where_54 : decode cX7_where 54 = .ok (.ior, 1) := by decide +kernel
theorem dX7_where_55 : decode cX7_where 55 = .ok (.istore_n 2, 1) := by decide +kernel
theorem dX7_where_56 : decode cX7_where 56 = .ok (.iinc 3 1, 3) := by decide +kernel
theorem dX7_where_59 : decode cX7_where 59 = .ok (.goto (-42), 3) := by decide +kernel
theorem dX7_where_62 : decode cX7_where 62 = .ok (.iload_n 2, 1) := by decide +kernel
theorem dX7_where_63 : decode cX7_where 63 = .ok (.ireturn, 1) := by decide +kernel
theorem dX7_isAsSeen_0 : decode cX7_isAsSeen 0 = .ok (.aload_n 0, 1) := by decide +kernel
theorem dX7_isAsSeen_1 : decode cX7_isAsSeen 1 = .ok (.getfield 50, 3) := by decide +kernel
theorem dX7_isAsSeen_4 : decode cX7_isAsSeen 4 = .ok (.getfield 202, 3) := by decide +kernel
theorem dX7_isAsSeen_7 : decode cX7_isAsSeen 7 = .ok (.astore_n 1, 1) := by decide +kernel
theorem dX7_isAsSeen_8 : decode cX7_isAsSeen 8 = .ok (.iconst 0, 1) := by decide +kernel
theorem dX7_isAsSeen_9 : decode cX7_isAsSeen 9 = .ok (.istore_n 2, 1) := by decide +kernel
theorem dX7_isAsSeen_10 : decode cX7_isAsSeen 10 = .ok (.iconst 0, 1) := by decide +kernel
theorem dX7_isAsSeen_11 : decode cX7_isAsSeen 11 = .ok (.istore_n 3, 1) := by decide +kernel
theorem dX7_isAsSeen_12 : decode cX7_isAsSeen 12 = .ok (.iload_n 3, 1) := by decide +kernel
theorem dX7_isAsSeen_13 : decode cX7_isAsSeen 13 = .ok (.bipush 20, 2) := by decide +kernel
theorem dX7_isAsSeen_15 : decode cX7_isAsSeen 15 = .ok (.if_icmp .gt 83, 3) := by decide +kernel
theorem dX7_isAsSeen_18 : decode cX7_isAsSeen 18 = .ok (.iload_n 2, 1) := by decide +kernel
theorem dX7_isAsSeen_19 : decode cX7_isAsSeen 19 = .ok (.aload_n 1, 1) := by decide +kernel
theorem dX7_isAsSeen_20 : decode cX7_isAsSeen 20 = .ok (.getfield 226, 3) := by decide +kernel
theorem dX7_isAsSeen_23 : decode cX7_isAsSeen 23 = .ok (.if_icmp .ge 75, 3) := by decide +kernel
theorem dX7_isAsSeen_26 : decode cX7_isAsSeen 26 = .ok (.iconst 0, 1) := by decide +kernel
theorem dX7_isAsSeen_27 : decode cX7_isAsSeen 27 = .ok (.istore 4, 2) := by decide +kernel
theorem dX7_isAsSeen_29 : decode cX7_isAsSeen 29 = .ok (.iload 4, 2) := by decide +kernel
theorem dX7_isAsSeen_31 : decode cX7_isAsSeen 31 = .ok (.aload_n 1, 1) := by decide +kernel
theorem dX7_isAsSeen_32 : decode cX7_isAsSeen 32 = .ok (.getfield 226, 3) := by decide +kernel
theorem dX7_isAsSeen_35 : decode cX7_isAsSeen 35 = .ok (.if_icmp .ge 49, 3) := by decide +kernel
theorem dX7_isAsSeen_38 : decode cX7_isAsSeen 38 = .ok (.aload_n 1, 1) := by decide +kernel
theorem dX7_isAsSeen_39 : decode cX7_isAsSeen 39 = .ok (.getfield 229, 3) := by decide +kernel
theorem dX7_isAsSeen_42 : decode cX7_isAsSeen 42 = .ok (.iload 4, 2) := by decide +kernel
theorem dX7_isAsSeen_44 : decode cX7_isAsSeen 44 = .ok (.iaload, 1) := by decide +kernel
theorem dX7_isAsSeen_45 : decode cX7_isAsSeen 45 = .ok (.iload_n 3, 1) := by decide +kernel
theorem dX7_isAsSeen_46 : decode cX7_isAsSeen 46 = .ok (.if_icmp .ne 32, 3) := by decide +kernel
theorem dX7_isAsSeen_49 : decode cX7_isAsSeen 49 = .ok (.aload_n 0, 1) := by decide +kernel
theorem dX7_isAsSeen_50 : decode cX7_isAsSeen 50 = .ok (.getfield 57, 3) := by decide +kernel
theorem dX7_isAsSeen_53 : decode cX7_isAsSeen 53 = .ok (.aload_n 1, 1) := by decide +kernel
theorem dX7_isAsSeen_54 : decode cX7_isAsSeen 54 = .ok (.getfield 232, 3) := by decide +kernel
theorem dX7_isAsSeen_57 : decode cX7_isAsSeen 57 = .ok (.iload 4, 2) := by decide +kernel
theorem dX7_isAsSeen_59 : decode cX7_isAsSeen 59 = .ok (.iaload, 1) := by decide +kernel
theorem dX7_isAsSeen_60 : decode cX7_isAsSeen 60 = .ok (.invokevirtual 112, 3) := by decide +kernel
theorem dX7_isAsSeen_63 : decode cX7_isAsSeen 63 = .ok (.aload_n 1, 1) := by decide +kernel
theorem dX7_isAsSeen_64 : decode cX7_isAsSeen 64 = .ok (.getfield 235, 3) := by decide +kernel
theorem dX7_isAsSeen_67 : decode cX7_isAsSeen 67 = .ok (.iload 4, 2) := by decide +kernel
theorem dX7_isAsSeen_69 : decode cX7_isAsSeen 69 = .ok (.iaload, 1) := by decide +kernel
theorem dX7_isAsSeen_70 : decode cX7_isAsSeen 70 = .ok (.if_icmp .eq 5, 3) := by decide +kernel
theorem dX7_isAsSeen_73 : decode cX7_isAsSeen 73 = .ok (.iconst 0, 1) := by decide +kernel
theorem dX7_isAsSeen_74 : decode cX7_isAsSeen 74 = .ok (.ireturn, 1) := by decide +kernel
theorem dX7_isAsSeen_75 : decode cX7_isAsSeen 75 = .ok (.iinc 2 1, 3) := by decide +kernel
theorem dX7_isAsSeen_78 : decode cX7_isAsSeen 78 = .ok (.iinc 4 1, 3) := by decide +kernel
theorem dX7_isAsSeen_81 : decode cX7_isAsSeen 81 = .ok (.goto (-52), 3) := by decide +kernel
theorem dX7_isAsSeen_84 : decode cX7_isAsSeen 84 = .ok (.aload_n 0, 1) := by decide +kernel
theorem dX7_isAsSeen_85 : decode cX7_isAsSeen 85 = .ok (.getfield 57, 3) := by decide +kernel
theorem dX7_isAsSeen_88 : decode cX7_isAsSeen 88 = .ok (.iconst 1, 1) := by decide +kernel
theorem dX7_isAsSeen_89 : decode cX7_isAsSeen 89 = .ok (.invokevirtual 158, 3) := by decide +kernel
theorem dX7_isAsSeen_92 : decode cX7_isAsSeen 92 = .ok (.iinc 3 1, 3) := by decide +kernel
theorem dX7_isAsSeen_95 : decode cX7_isAsSeen 95 = .ok (.goto (-83), 3) := by decide +kernel
theorem dX7_isAsSeen_98 : decode cX7_isAsSeen 98 = .ok (.iconst 1, 1) := by decide +kernel
theorem dX7_isAsSeen_99 : decode cX7_isAsSeen 99 = .ok (.ireturn, 1) := by decide +kernel
theorem dX7_odds_0 : decode cX7_odds 0 = .ok (.iload_n 1, 1) := by decide +kernel
theorem dX7_odds_1 : decode cX7_odds 1 = .ok (.invokestatic 65, 3) := by decide +kernel
theorem dX7_odds_4 : decode cX7_odds 4 = .ok (.ifCond .eq 13, 3) := by decide +kernel
theorem dX7_odds_7 : decode cX7_odds 7 = .ok (.aload_n 0, 1) := by decide +kernel
theorem dX7_odds_8 : decode cX7_odds 8 = .ok (.getfield 50, 3) := by decide +kernel
theorem dX7_odds_11 : decode cX7_odds 11 = .ok (.getfield 69, 3) := by decide +kernel
theorem dX7_odds_14 : decode cX7_odds 14 = .ok (.ifCond .ne 7, 3) := by decide +kernel
theorem dX7_odds_17 : decode cX7_odds 17 = .ok (.ldc2_w 238, 3) := by decide +kernel
theorem dX7_odds_20 : decode cX7_odds 20 = .ok (.lreturn, 1) := by decide +kernel
theorem dX7_odds_21 : decode cX7_odds 21 = .ok (.aload_n 0, 1) := by decide +kernel
theorem dX7_odds_22 : decode cX7_odds 22 = .ok (.getfield 27, 3) := by decide +kernel
theorem dX7_odds_25 : decode cX7_odds 25 = .ok (.aload_n 0, 1) := by decide +kernel
theorem dX7_odds_26 : decode cX7_odds 26 = .ok (.getfield 50, 3) := by decide +kernel
theorem dX7_odds_29 : decode cX7_odds 29 = .ok (.invokevirtual 172, 3) := by decide +kernel
theorem dX7_odds_32 : decode cX7_odds 32 = .ok (.aload_n 0, 1) := by decide +kernel
theorem dX7_odds_33 : decode cX7_odds 33 = .ok (.getfield 27, 3) := by decide +kernel
theorem dX7_odds_36 : decode cX7_odds 36 = .ok (.iload_n 1, 1) := by decide +kernel
theorem dX7_odds_37 : decode cX7_odds 37 = .ok (.invokevirtual 240, 3) := by decide +kernel
theorem dX7_odds_40 : decode cX7_odds 40 = .ok (.aload_n 0, 1) := by decide +kernel
theorem dX7_odds_41 : decode cX7_odds 41 = .ok (.getfield 50, 3) := by decide +kernel
theorem dX7_odds_44 : decode cX7_odds 44 = .ok (.getfield 69, 3) := by decide +kernel
theorem dX7_odds_47 : decode cX7_odds 47 = .ok (.iload_n 2, 1) := by decide +kernel
theorem dX7_odds_48 : decode cX7_odds 48 = .ok (.invokestatic 243, 3) := by decide +kernel
theorem dX7_odds_51 : decode cX7_odds 51 = .ok (.lreturn, 1) := by decide +kernel
theorem dX7_mean_0 : decode cX7_mean 0 = .ok (.iload_n 1, 1) := by decide +kernel
theorem dX7_mean_1 : decode cX7_mean 1 = .ok (.bipush 60, 2) := by decide +kernel
theorem dX7_mean_3 : decode cX7_mean 3 = .ok (.invokestatic 61, 3) := by decide +kernel
theorem dX7_mean_6 : decode cX7_mean 6 = .ok (.ifCond .ne 7, 3) := by decide +kernel
theorem dX7_mean_9 : decode cX7_mean 9 = .ok (.ldc2_w 238, 3) := by decide +kernel
theorem dX7_mean_12 : decode cX7_mean 12 = .ok (.lreturn, 1) := by decide +kernel
theorem dX7_mean_13 : decode cX7_mean 13 = .ok (.aload_n 0, 1) := by decide +kernel
theorem dX7_mean_14 : decode cX7_mean 14 = .ok (.getfield 57, 3) := by decide +kernel
theorem dX7_mean_17 : decode cX7_mean 17 = .ok (.aload_n 0, 1) := by decide +kernel
theorem dX7_mean_18 : decode cX7_mean 18 = .ok (.getfield 50, 3) := by decide +kernel
theorem dX7_mean_21 : decode cX7_mean 21 = .ok (.invokevirtual 162, 3) := by decide +kernel
theorem dX7_mean_24 : decode cX7_mean 24 = .ok (.aload_n 0, 1) := by decide +kernel
theorem dX7_mean_25 : decode cX7_mean 25 = .ok (.getfield 57, 3) := by decide +kernel
theorem dX7_mean_28 : decode cX7_mean 28 = .ok (.iload_n 1, 1) := by decide +kernel
theorem dX7_mean_29 : decode cX7_mean 29 = .ok (.invokevirtual 158, 3) := by decide +kernel
theorem dX7_mean_32 : decode cX7_mean 32 = .ok (.iconst 0, 1) := by decide +kernel
theorem dX7_mean_33 : decode cX7_mean 33 = .ok (.istore_n 3, 1) := by decide +kernel
theorem dX7_mean_34 : decode cX7_mean 34 = .ok (.iconst 0, 1) := by decide +kernel
theorem dX7_mean_35 : decode cX7_mean 35 = .ok (.istore 4, 2) := by decide +kernel
theorem dX7_mean_37 : decode cX7_mean 37 = .ok (.iload 4, 2) := by decide +kernel
theorem dX7_mean_39 : decode cX7_mean 39 = .ok (.iconst 5, 1) := by decide +kernel
theorem dX7_mean_40 : decode cX7_mean 40 = .ok (.if_icmp .ge 21, 3) := by decide +kernel
theorem dX7_mean_43 : decode cX7_mean 43 = .ok (.iload_n 3, 1) := by decide +kernel
theorem dX7_mean_44 : decode cX7_mean 44 = .ok (.aload_n 0, 1) := by decide +kernel
theorem dX7_mean_45 : decode cX7_mean 45 = .ok (.getfield 57, 3) := by decide +kernel
theorem dX7_mean_48 : decode cX7_mean 48 = .ok (.iload 4, 2) := by decide +kernel
theorem dX7_mean_50 : decode cX7_mean 50 = .ok (.invokevirtual 112, 3) := by decide +kernel
theorem dX7_mean_53 : decode cX7_mean 53 = .ok (.iadd, 1) := by decide +kernel
theorem dX7_mean_54 : decode cX7_mean 54 = .ok (.istore_n 3, 1) := by decide +kernel
theorem dX7_mean_55 : decode cX7_mean 55 = .ok (.iinc 4 1, 3) := by decide +kernel
theorem dX7_mean_58 : decode cX7_mean 58 = .ok (.goto (-21), 3) := by decide +kernel
theorem dX7_mean_61 : decode cX7_mean 61 = .ok (.iload_n 3, 1) := by decide +kernel
theorem dX7_mean_62 : decode cX7_mean 62 = .ok (.iconst 5, 1) := by decide +kernel
theorem dX7_mean_63 : decode cX7_mean 63 = .ok (.iload_n 2, 1) := by decide +kernel
theorem dX7_mean_64 : decode cX7_mean 64 = .ok (.invokestatic 243, 3) := by decide +kernel
theorem dX7_mean_67 : decode cX7_mean 67 = .ok (.lreturn, 1) := by decide +kernel
theorem dX7_ofFraction_0 : decode cX7_ofFraction 0 = .ok (.iload_n 0, 1) := by decide +kernel
theorem dX7_ofFraction_1 : decode cX7_ofFraction 1 = .ok (.iload_n 1, 1) := by decide +kernel
theorem dX7_ofFraction_2 : decode cX7_ofFraction 2 = .ok (.invokestatic 247, 3) := by decide +kernel
theorem dX7_ofFraction_5 : decode cX7_ofFraction 5 = .ok (.istore_n 3, 1) := by decide +kernel
theorem dX7_ofFraction_6 : decode cX7_ofFraction 6 = .ok (.iload_n 3, 1) := by decide +kernel
theorem dX7_ofFraction_7 : decode cX7_ofFraction 7 = .ok (.ifCond .ne 7, 3) := by decide +kernel
theorem dX7_ofFraction_10 : decode cX7_ofFraction 10 = .ok (.ldc2_w 238, 3) := by decide +kernel
theorem dX7_ofFraction_13 : decode cX7_ofFraction 13 = .ok (.lreturn, 1) := by decide +kernel
theorem dX7_ofFraction_14 : decode cX7_ofFraction 14 = .ok (.iload_n 2, 1) := by decide +kernel
theorem dX7_ofFraction_15 : decode cX7_ofFraction 15 = .ok (.lookupswitch 35 #[(0, 25), (1, 30)], 25) := by decide +kernel
theorem dX7_ofFraction_40 : decode cX7_ofFraction 40 = .ok (.iload_n 0, 1) := by decide +kernel
theorem dX7_ofFraction_41 : decode cX7_ofFraction 41 = .ok (.iload_n 3, 1) := by decide +kernel
theorem dX7_ofFraction_42 : decode cX7_ofFraction 42 = .ok (.idiv, 1) := by decide +kernel
theorem dX7_ofFraction_43 : decode cX7_ofFraction 43 = .ok (.i2l, 1) := by decide +kernel
theorem dX7_ofFraction_44 : decode cX7_ofFraction 44 = .ok (.lreturn, 1) := by decide +kernel
theorem dX7_ofFraction_45 : decode cX7_ofFraction 45 = .ok (.iload_n 1, 1) := by decide +kernel
theorem dX7_ofFraction_46 : decode cX7_ofFraction 46 = .ok (.iload_n 3, 1) := by decide +kernel
theorem dX7_ofFraction_47 : decode cX7_ofFraction 47 = .ok (.idiv, 1) := by decide +kernel
theorem dX7_ofFraction_48 : decode cX7_ofFraction 48 = .ok (.i2l, 1) := by decide +kernel
theorem dX7_ofFraction_49 : decode cX7_ofFraction 49 = .ok (.lreturn, 1) := by decide +kernel
theorem dX7_ofFraction_50 : decode cX7_ofFraction 50 = .ok (.ldc2_w 238, 3) := by decide +kernel
theorem dX7_ofFraction_53 : decode cX7_ofFraction 53 = .ok (.lreturn, 1) := by decide +kernel
theorem dX7_commonDivisor_0 : decode cX7_commonDivisor 0 = .ok (.iload_n 1, 1) := by decide +kernel
theorem dX7_commonDivisor_1 : decode cX7_commonDivisor 1 = .ok (.ifCond .ne 7, 3) := by decide +kernel
theorem dX7_commonDivisor_4 : decode cX7_commonDivisor 4 = .ok (.iload_n 0, 1) := by decide +kernel
theorem dX7_commonDivisor_5 : decode cX7_commonDivisor 5 = .ok (.goto 10, 3) := by decide +kernel
theorem dX7_commonDivisor_8 : decode cX7_commonDivisor 8 = .ok (.iload_n 1, 1) := by decide +kernel
theorem dX7_commonDivisor_9 : decode cX7_commonDivisor 9 = .ok (.iload_n 0, 1) := by decide +kernel
theorem dX7_commonDivisor_10 : decode cX7_commonDivisor 10 = .ok (.iload_n 1, 1) := by decide +kernel
theorem dX7_commonDivisor_11 : decode cX7_commonDivisor 11 = .ok (.irem, 1) := by decide +kernel
theorem dX7_commonDivisor_12 : decode cX7_commonDivisor 12 = .ok (.invokestatic 247, 3) := by decide +kernel
theorem dX7_commonDivisor_15 : decode cX7_commonDivisor 15 = .ok (.ireturn, 1) := by decide +kernel
theorem dX7_plan_0 : decode cX7_plan 0 = .ok (.iload_n 1, 1) := by decide +kernel
theorem dX7_plan_1 : decode cX7_plan 1 = .ok (.iconst (-1), 1) := by decide +kernel
theorem dX7_plan_2 : decode cX7_plan 2 = .ok (.if_icmp .ne 14, 3) := by decide +kernel
theorem dX7_plan_5 : decode cX7_plan 5 = .ok (.aload_n 0, 1) := by decide +kernel
theorem dX7_plan_6 : decode cX7_plan 6 = .ok (.getfield 50, 3) := by decide +kernel
theorem dX7_plan_9 : decode cX7_plan 9 = .ok (.getfield 250, 3) := by decide +kernel
theorem dX7_plan_12 : decode cX7_plan 12 = .ok (.invokevirtual 206, 3) := by decide +kernel
theorem dX7_plan_15 : decode cX7_plan 15 = .ok (.ireturn, 1) := by decide +kernel
theorem dX7_plan_16 : decode cX7_plan 16 = .ok (.iload_n 1, 1) := by decide +kernel
theorem dX7_plan_17 : decode cX7_plan 17 = .ok (.iconst 3, 1) := by decide +kernel
theorem dX7_plan_18 : decode cX7_plan 18 = .ok (.invokestatic 61, 3) := by decide +kernel
theorem dX7_plan_21 : decode cX7_plan 21 = .ok (.ifCond .eq 18, 3) := by decide +kernel
theorem dX7_plan_24 : decode cX7_plan 24 = .ok (.iload_n 1, 1) := by decide +kernel
theorem dX7_plan_25 : decode cX7_plan 25 = .ok (.ifCond .eq 16, 3) := by decide +kernel
theorem dX7_plan_28 : decode cX7_plan 28 = .ok (.aload_n 0, 1) := by decide +kernel
theorem dX7_plan_29 : decode cX7_plan 29 = .ok (.getfield 50, 3) := by decide +kernel
theorem dX7_plan_32 : decode cX7_plan 32 = .ok (.iload_n 2, 1) := by decide +kernel
theorem dX7_plan_33 : decode cX7_plan 33 = .ok (.invokevirtual 77, 3) := by decide +kernel
theorem dX7_plan_36 : decode cX7_plan 36 = .ok (.ifCond .ne 5, 3) := by decide +kernel
theorem dX7_plan_39 : decode cX7_plan 39 = .ok (.iconst (-1), 1) := by decide +kernel
theorem dX7_plan_40 : decode cX7_plan 40 = .ok (.ireturn, 1) := by decide +kernel
theorem dX7_plan_41 : decode cX7_plan 41 = .ok (.aload_n 0, 1) := by decide +kernel
theorem dX7_plan_42 : decode cX7_plan 42 = .ok (.getfield 50, 3) := by decide +kernel
theorem dX7_plan_45 : decode cX7_plan 45 = .ok (.getfield 250, 3) := by decide +kernel
theorem dX7_plan_48 : decode cX7_plan 48 = .ok (.invokevirtual 211, 3) := by decide +kernel
theorem dX7_plan_51 : decode cX7_plan 51 = .ok (.ifCond .eq 8, 3) := by decide +kernel
theorem dX7_plan_54 : decode cX7_plan 54 = .ok (.bipush (-4), 2) := by decide +kernel
theorem dX7_plan_56 : decode cX7_plan 56 = .ok (.goto 16, 3) := by decide +kernel
theorem dX7_plan_59 : decode cX7_plan 59 = .ok (.aload_n 0, 1) := by decide +kernel
theorem dX7_plan_60 : decode cX7_plan 60 = .ok (.getfield 50, 3) := by decide +kernel
theorem dX7_plan_63 : decode cX7_plan 63 = .ok (.getfield 250, 3) := by decide +kernel
theorem dX7_plan_66 : decode cX7_plan 66 = .ok (.iload_n 1, 1) := by decide +kernel
theorem dX7_plan_67 : decode cX7_plan 67 = .ok (.iload_n 2, 1) := by decide +kernel
theorem dX7_plan_68 : decode cX7_plan 68 = .ok (.iconst 0, 1) := by decide +kernel
theorem dX7_plan_69 : decode cX7_plan 69 = .ok (.invokevirtual 215, 3) := by decide +kernel
theorem dX7_plan_72 : decode cX7_plan 72 = .ok (.ireturn, 1) := by decide +kernel
theorem dX7_ends_0 : decode cX7_ends 0 = .ok (.iload_n 1, 1) := by decide +kernel
theorem dX7_ends_1 : decode cX7_ends 1 = .ok (.ifCond .eq 10, 3) := by decide +kernel
theorem dX7_ends_4 : decode cX7_ends 4 = .ok (.iload_n 1, 1) := by decide +kernel
theorem dX7_ends_5 : decode cX7_ends 5 = .ok (.iconst 1, 1) := by decide +kernel
theorem dX7_ends_6 : decode cX7_ends 6 = .ok (.if_icmp .eq 5, 3) := by decide +kernel
theorem dX7_ends_9 : decode cX7_ends 9 = .ok (.iconst (-1), 1) := by decide +kernel
theorem dX7_ends_10 : decode cX7_ends 10 = .ok (.ireturn, 1) := by decide +kernel
theorem dX7_ends_11 : decode cX7_ends 11 = .ok (.aload_n 0, 1) := by decide +kernel
theorem dX7_ends_12 : decode cX7_ends 12 = .ok (.getfield 57, 3) := by decide +kernel
theorem dX7_ends_15 : decode cX7_ends 15 = .ok (.aload_n 0, 1) := by decide +kernel
theorem dX7_ends_16 : decode cX7_ends 16 = .ok (.getfield 50, 3) := by decide +kernel
theorem dX7_ends_19 : decode cX7_ends 19 = .ok (.invokevirtual 162, 3) := by decide +kernel
theorem dX7_ends_22 : decode cX7_ends 22 = .ok (.iconst 0, 1) := by decide +kernel
theorem dX7_ends_23 : decode cX7_ends 23 = .ok (.istore_n 2, 1) := by decide +kernel
theorem dX7_ends_24 : decode cX7_ends 24 = .ok (.iload_n 2, 1) := by decide +kernel
theorem dX7_ends_25 : decode cX7_ends 25 = .ok (.aload_n 0, 1) := by decide +kernel
theorem dX7_ends_26 : decode cX7_ends 26 = .ok (.getfield 50, 3) := by decide +kernel
theorem dX7_ends_29 : decode cX7_ends 29 = .ok (.getfield 250, 3) := by decide +kernel
theorem dX7_ends_32 : decode cX7_ends 32 = .ok (.getfield 226, 3) := by decide +kernel
theorem dX7_ends_35 : decode cX7_ends 35 = .ok (.if_icmp .ge 40, 3) := by decide +kernel
theorem dX7_ends_38 : decode cX7_ends 38 = .ok (.aload_n 0, 1) := by decide +kernel
theorem dX7_ends_39 : decode cX7_ends 39 = .ok (.getfield 57, 3) := by decide +kernel
theorem dX7_ends_42 : decode cX7_ends 42 = .ok (.aload_n 0, 1) := by decide +kernel
theorem dX7_ends_43 : decode cX7_ends 43 = .ok (.getfield 50, 3) := by decide +kernel
theorem dX7_ends_46 : decode cX7_ends 46 = .ok (.getfield 250, 3) := by decide +kernel
theorem dX7_ends_49 : decode cX7_ends 49 = .ok (.getfield 232, 3) := by decide +kernel
theorem dX7_ends_52 : decode cX7_ends 52 = .ok (.iload_n 2, 1) := by decide +kernel
theorem dX7_ends_53 : decode cX7_ends 53 = .ok (.iaload, 1) := by decide +kernel
theorem dX7_ends_54 : decode cX7_ends 54 = .ok (.aload_n 0, 1) := by decide +kernel
theorem dX7_ends_55 : decode cX7_ends 55 = .ok (.getfield 50, 3) := by decide +kernel
theorem dX7_ends_58 : decode cX7_ends 58 = .ok (.getfield 250, 3) := by decide +kernel
theorem dX7_ends_61 : decode cX7_ends 61 = .ok (.getfield 235, 3) := by decide +kernel
theorem dX7_ends_64 : decode cX7_ends 64 = .ok (.iload_n 2, 1) := by decide +kernel
theorem dX7_ends_65 : decode cX7_ends 65 = .ok (.iaload, 1) := by decide +kernel
theorem dX7_ends_66 : decode cX7_ends 66 = .ok (.invokevirtual 253, 3) := by decide +kernel
theorem dX7_ends_69 : decode cX7_ends 69 = .ok (.iinc 2 1, 3) := by decide +kernel
theorem dX7_ends_72 : decode cX7_ends 72 = .ok (.goto (-48), 3) := by decide +kernel
theorem dX7_ends_75 : decode cX7_ends 75 = .ok (.iload_n 1, 1) := by decide +kernel
theorem dX7_ends_76 : decode cX7_ends 76 = .ok (.ifCond .ne 13, 3) := by decide +kernel
theorem dX7_ends_79 : decode cX7_ends 79 = .ok (.aload_n 0, 1) := by decide +kernel
theorem dX7_ends_80 : decode cX7_ends 80 = .ok (.getfield 57, 3) := by decide +kernel
theorem dX7_ends_83 : decode cX7_ends 83 = .ok (.invokevirtual 151, 3) := by decide +kernel
theorem dX7_ends_86 : decode cX7_ends 86 = .ok (.goto 13, 3) := by decide +kernel
theorem dX7_ends_89 : decode cX7_ends 89 = .ok (.aload_n 0, 1) := by decide +kernel
theorem dX7_ends_90 : decode cX7_ends 90 = .ok (.getfield 57, 3) := by decide +kernel
theorem dX7_ends_93 : decode cX7_ends 93 = .ok (.invokevirtual 155, 3) := by decide +kernel
theorem dX7_ends_96 : decode cX7_ends 96 = .ok (.invokestatic 257, 3) := by decide +kernel
theorem dX7_ends_99 : decode cX7_ends 99 = .ok (.ireturn, 1) := by decide +kernel
theorem dX7_book_0 : decode cX7_book 0 = .ok (.iload_n 1, 1) := by decide +kernel
theorem dX7_book_1 : decode cX7_book 1 = .ok (.iconst (-1), 1) := by decide +kernel
theorem dX7_book_2 : decode cX7_book 2 = .ok (.if_icmp .ne 14, 3) := by decide +kernel
theorem dX7_book_5 : decode cX7_book 5 = .ok (.aload_n 0, 1) := by decide +kernel
theorem dX7_book_6 : decode cX7_book 6 = .ok (.getfield 50, 3) := by decide +kernel
theorem dX7_book_9 : decode cX7_book 9 = .ok (.getfield 262, 3) := by decide +kernel
theorem dX7_book_12 : decode cX7_book 12 = .ok (.invokevirtual 206, 3) := by decide +kernel
theorem dX7_book_15 : decode cX7_book 15 = .ok (.ireturn, 1) := by decide +kernel
theorem dX7_book_16 : decode cX7_book 16 = .ok (.aload_n 0, 1) := by decide +kernel
theorem dX7_book_17 : decode cX7_book 17 = .ok (.getfield 50, 3) := by decide +kernel
theorem dX7_book_20 : decode cX7_book 20 = .ok (.iload_n 1, 1) := by decide +kernel
theorem dX7_book_21 : decode cX7_book 21 = .ok (.invokevirtual 77, 3) := by decide +kernel
theorem dX7_book_24 : decode cX7_book 24 = .ok (.ifCond .eq 11, 3) := by decide +kernel
theorem dX7_book_27 : decode cX7_book 27 = .ok (.iload_n 2, 1) := by decide +kernel
theorem dX7_book_28 : decode cX7_book 28 = .ok (.iconst 5, 1) := by decide +kernel
theorem dX7_book_29 : decode cX7_book 29 = .ok (.invokestatic 61, 3) := by decide +kernel
theorem dX7_book_32 : decode cX7_book 32 = .ok (.ifCond .ne 5, 3) := by decide +kernel
theorem dX7_book_35 : decode cX7_book 35 = .ok (.iconst (-1), 1) := by decide +kernel
theorem dX7_book_36 : decode cX7_book 36 = .ok (.ireturn, 1) := by decide +kernel
theorem dX7_book_37 : decode cX7_book 37 = .ok (.aload_n 0, 1) := by decide +kernel
theorem dX7_book_38 : decode cX7_book 38 = .ok (.getfield 50, 3) := by decide +kernel
theorem dX7_book_41 : decode cX7_book 41 = .ok (.getfield 262, 3) := by decide +kernel
theorem dX7_book_44 : decode cX7_book 44 = .ok (.invokevirtual 211, 3) := by decide +kernel
theorem dX7_book_47 : decode cX7_book 47 = .ok (.ifCond .eq 8, 3) := by decide +kernel
theorem dX7_book_50 : decode cX7_book 50 = .ok (.bipush (-4), 2) := by decide +kernel
theorem dX7_book_52 : decode cX7_book 52 = .ok (.goto 16, 3) := by decide +kernel
theorem dX7_book_55 : decode cX7_book 55 = .ok (.aload_n 0, 1) := by decide +kernel
theorem dX7_book_56 : decode cX7_book 56 = .ok (.getfield 50, 3) := by decide +kernel
theorem dX7_book_59 : decode cX7_book 59 = .ok (.getfield 262, 3) := by decide +kernel
theorem dX7_book_62 : decode cX7_book 62 = .ok (.iload_n 1, 1) := by decide +kernel
theorem dX7_book_63 : decode cX7_book 63 = .ok (.iload_n 2, 1) := by decide +kernel
theorem dX7_book_64 : decode cX7_book 64 = .ok (.iconst 0, 1) := by decide +kernel
theorem dX7_book_65 : decode cX7_book 65 = .ok (.invokevirtual 215, 3) := by decide +kernel
theorem dX7_book_68 : decode cX7_book 68 = .ok (.ireturn, 1) := by decide +kernel
theorem dX7_looked_0 : decode cX7_looked 0 = .ok (.iconst 0, 1) := by decide +kernel
theorem dX7_looked_1 : decode cX7_looked 1 = .ok (.istore_n 1, 1) := by decide +kernel
theorem dX7_looked_2 : decode cX7_looked 2 = .ok (.iload_n 1, 1) := by decide +kernel
theorem dX7_looked_3 : decode cX7_looked 3 = .ok (.aload_n 0, 1) := by decide +kernel
theorem dX7_looked_4 : decode cX7_looked 4 = .ok (.getfield 50, 3) := by decide +kernel
theorem dX7_looked_7 : decode cX7_looked 7 = .ok (.getfield 262, 3) := by decide +kernel
theorem dX7_looked_10 : decode cX7_looked 10 = .ok (.getfield 226, 3) := by decide +kernel
theorem dX7_looked_13 : decode cX7_looked 13 = .ok (.if_icmp .ge 57, 3) := by decide +kernel
theorem dX7_looked_16 : decode cX7_looked 16 = .ok (.aload_n 0, 1) := by decide +kernel
theorem dX7_looked_17 : decode cX7_looked 17 = .ok (.getfield 50, 3) := by decide +kernel
theorem dX7_looked_20 : decode cX7_looked 20 = .ok (.getfield 100, 3) := by decide +kernel
theorem dX7_looked_23 : decode cX7_looked 23 = .ok (.aload_n 0, 1) := by decide +kernel
theorem dX7_looked_24 : decode cX7_looked 24 = .ok (.getfield 50, 3) := by decide +kernel
theorem dX7_looked_27 : decode cX7_looked 27 = .ok (.getfield 262, 3) := by decide +kernel
theorem dX7_looked_30 : decode cX7_looked 30 = .ok (.getfield 232, 3) := by decide +kernel
theorem dX7_looked_33 : decode cX7_looked 33 = .ok (.iload_n 1, 1) := by decide +kernel
theorem dX7_looked_34 : decode cX7_looked 34 = .ok (.iaload, 1) := by decide +kernel
theorem dX7_looked_35 : decode cX7_looked 35 = .ok (.iaload, 1) := by decide +kernel
theorem dX7_looked_36 : decode cX7_looked 36 = .ok (.istore_n 2, 1) := by decide +kernel
theorem dX7_looked_37 : decode cX7_looked 37 = .ok (.aload_n 0, 1) := by decide +kernel
theorem dX7_looked_38 : decode cX7_looked 38 = .ok (.getfield 50, 3) := by decide +kernel
theorem dX7_looked_41 : decode cX7_looked 41 = .ok (.getfield 262, 3) := by decide +kernel
theorem dX7_looked_44 : decode cX7_looked 44 = .ok (.getfield 235, 3) := by decide +kernel
theorem dX7_looked_47 : decode cX7_looked 47 = .ok (.iload_n 1, 1) := by decide +kernel
theorem dX7_looked_48 : decode cX7_looked 48 = .ok (.iaload, 1) := by decide +kernel
theorem dX7_looked_49 : decode cX7_looked 49 = .ok (.iload_n 2, 1) := by decide +kernel
theorem dX7_looked_50 : decode cX7_looked 50 = .ok (.iconst (-1), 1) := by decide +kernel
theorem dX7_looked_51 : decode cX7_looked 51 = .ok (.if_icmp .ne 7, 3) := by decide +kernel
theorem dX7_looked_54 : decode cX7_looked 54 = .ok (.iconst 5, 1) := by decide +kernel
theorem dX7_looked_55 : decode cX7_looked 55 = .ok (.goto 4, 3) := by decide +kernel
theorem dX7_looked_58 : decode cX7_looked 58 = .ok (.iload_n 2, 1) := by decide +kernel
theorem dX7_looked_59 : decode cX7_looked 59 = .ok (.if_icmp .eq 5, 3) := by decide +kernel
theorem dX7_looked_62 : decode cX7_looked 62 = .ok (.iload_n 1, 1) := by decide +kernel
theorem dX7_looked_63 : decode cX7_looked 63 = .ok (.ireturn, 1) := by decide +kernel
theorem dX7_looked_64 : decode cX7_looked 64 = .ok (.iinc 1 1, 3) := by decide +kernel
theorem dX7_looked_67 : decode cX7_looked 67 = .ok (.goto (-65), 3) := by decide +kernel
theorem dX7_looked_70 : decode cX7_looked 70 = .ok (.bipush (-5), 2) := by decide +kernel
theorem dX7_looked_72 : decode cX7_looked 72 = .ok (.ireturn, 1) := by decide +kernel
theorem dX7_judge_0 : decode cX7_judge 0 = .ok (.iload_n 1, 1) := by decide +kernel
theorem dX7_judge_1 : decode cX7_judge 1 = .ok (.invokestatic 265, 3) := by decide +kernel
theorem dX7_judge_4 : decode cX7_judge 4 = .ok (.ifCond .ne 5, 3) := by decide +kernel
theorem dX7_judge_7 : decode cX7_judge 7 = .ok (.iconst (-1), 1) := by decide +kernel
theorem dX7_judge_8 : decode cX7_judge 8 = .ok (.ireturn, 1) := by decide +kernel
theorem dX7_judge_9 : decode cX7_judge 9 = .ok (.aload_n 0, 1) := by decide +kernel
theorem dX7_judge_10 : decode cX7_judge 10 = .ok (.getfield 40, 3) := by decide +kernel
theorem dX7_judge_13 : decode cX7_judge 13 = .ok (.iload_n 1, 1) := by decide +kernel
theorem dX7_judge_14 : decode cX7_judge 14 = .ok (.aaload, 1) := by decide +kernel
theorem dX7_judge_15 : decode cX7_judge 15 = .ok (.astore_n 3, 1) := by decide +kernel
theorem dX7_judge_16 : decode cX7_judge 16 = .ok (.aload_n 3, 1) := by decide +kernel
theorem dX7_judge_17 : decode cX7_judge 17 = .ok (.getfield 268, 3) := by decide +kernel
theorem dX7_judge_20 : decode cX7_judge 20 = .ok (.iconst (-1), 1) := by decide +kernel
theorem dX7_judge_21 : decode cX7_judge 21 = .ok (.if_icmp .eq 13, 3) := by decide +kernel
theorem dX7_judge_24 : decode cX7_judge 24 = .ok (.aload_n 3, 1) := by decide +kernel
theorem dX7_judge_25 : decode cX7_judge 25 = .ok (.getfield 268, 3) := by decide +kernel
theorem dX7_judge_28 : decode cX7_judge 28 = .ok (.ifCond .eq 6, 3) := by decide +kernel
theorem dX7_judge_31 : decode cX7_judge 31 = .ok (.bipush (-12), 2) := by decide +kernel
theorem dX7_judge_33 : decode cX7_judge 33 = .ok (.ireturn, 1) := by decide +kernel
theorem dX7_judge_34 : decode cX7_judge 34 = .ok (.iconst 0, 1) := by decide +kernel
theorem dX7_judge_35 : decode cX7_judge 35 = .ok (.istore 4, 2) := by decide +kernel
theorem dX7_judge_37 : decode cX7_judge 37 = .ok (.iload 4, 2) := by decide +kernel
theorem dX7_judge_39 : decode cX7_judge 39 = .ok (.aload_n 0, 1) := by decide +kernel
theorem dX7_judge_40 : decode cX7_judge 40 = .ok (.getfield 50, 3) := by decide +kernel
theorem dX7_judge_43 : decode cX7_judge 43 = .ok (.getfield 69, 3) := by decide +kernel
theorem dX7_judge_46 : decode cX7_judge 46 = .ok (.if_icmp .ge 57, 3) := by decide +kernel
theorem dX7_judge_49 : decode cX7_judge 49 = .ok (.iload_n 2, 1) := by decide +kernel
theorem dX7_judge_50 : decode cX7_judge 50 = .ok (.ifCond .lt 14, 3) := by decide +kernel
theorem dX7_judge_53 : decode cX7_judge 53 = .ok (.iload_n 2, 1) := by decide +kernel
theorem dX7_judge_54 : decode cX7_judge 54 = .ok (.aload_n 3, 1) := by decide +kernel
theorem dX7_judge_55 : decode cX7_judge 55 = .ok (.getfield 271, 3) := by decide +kernel
theorem dX7_judge_58 : decode cX7_judge 58 = .ok (.iload 4, 2) := by decide +kernel
theorem dX7_judge_60 : decode cX7_judge 60 = .ok (.isub, 1) := by decide +kernel
theorem dX7_judge_61 : decode cX7_judge 61 = .ok (.if_icmp .lt 9, 3) := by decide +kernel
theorem dX7_judge_64 : decode cX7_judge 64 = .ok (.bipush 100, 2) := by decide +kernel
theorem dX7_judge_66 : decode cX7_judge 66 = .ok (.iload 4, 2) := by decide +kernel
theorem dX7_judge_68 : decode cX7_judge 68 = .ok (.iadd, 1) := by decide +kernel
theorem dX7_judge_69 : decode cX7_judge 69 = .ok (.ireturn, 1) := by decide +kernel
theorem dX7_judge_70 : decode cX7_judge 70 = .ok (.aload_n 3, 1) := by decide +kernel
theorem dX7_judge_71 : decode cX7_judge 71 = .ok (.getfield 274, 3) := by decide +kernel
theorem dX7_judge_74 : decode cX7_judge 74 = .ok (.iload_n 2, 1) := by decide +kernel
theorem dX7_judge_75 : decode cX7_judge 75 = .ok (.iload 4, 2) := by decide +kernel
theorem dX7_judge_77 : decode cX7_judge 77 = .ok (.iadd, 1) := by decide +kernel
theorem dX7_judge_78 : decode cX7_judge 78 = .ok (.laload, 1) := by decide +kernel
theorem dX7_judge_79 : decode cX7_judge 79 = .ok (.aload_n 0, 1) := by decide +kernel
theorem dX7_judge_80 : decode cX7_judge 80 = .ok (.getfield 50, 3) := by decide +kernel
theorem dX7_judge_83 : decode cX7_judge 83 = .ok (.getfield 97, 3) := by decide +kernel
theorem dX7_judge_86 : decode cX7_judge 86 = .ok (.iload 4, 2) := by decide +kernel
theorem dX7_judge_88 : decode cX7_judge 88 = .ok (.iaload, 1) := by decide +kernel
theorem dX7_judge_89 : decode cX7_judge 89 = .ok (.i2l, 1) := by decide +kernel
theorem dX7_judge_90 : decode cX7_judge 90 = .ok (.lcmp, 1) := by decide +kernel
theorem dX7_judge_91 : decode cX7_judge 91 = .ok (.ifCond .eq 6, 3) := by decide +kernel
theorem dX7_judge_94 : decode cX7_judge 94 = .ok (.iload 4, 2) := by decide +kernel
theorem dX7_judge_96 : decode cX7_judge 96 = .ok (.ireturn, 1) := by decide +kernel
theorem dX7_judge_97 : decode cX7_judge 97 = .ok (.iinc 4 1, 3) := by decide +kernel
theorem dX7_judge_100 : decode cX7_judge 100 = .ok (.goto (-63), 3) := by decide +kernel
theorem dX7_judge_103 : decode cX7_judge 103 = .ok (.bipush (-5), 2) := by decide +kernel
theorem dX7_judge_105 : decode cX7_judge 105 = .ok (.ireturn, 1) := by decide +kernel
theorem dX7_image_0 : decode cX7_image 0 = .ok (.aload_n 0, 1) := by decide +kernel
theorem dX7_image_1 : decode cX7_image 1 = .ok (.getfield 54, 3) := by decide +kernel
theorem dX7_image_4 : decode cX7_image 4 = .ok (.aload_n 0, 1) := by decide +kernel
theorem dX7_image_5 : decode cX7_image 5 = .ok (.getfield 50, 3) := by decide +kernel
theorem dX7_image_8 : decode cX7_image 8 = .ok (.invokevirtual 278, 3) := by decide +kernel
theorem dX7_image_11 : decode cX7_image 11 = .ok (.aload_n 0, 1) := by decide +kernel
theorem dX7_image_12 : decode cX7_image 12 = .ok (.iconst 1, 1) := by decide +kernel
theorem dX7_image_13 : decode cX7_image 13 = .ok (.putfield 281, 3) := by decide +kernel
theorem dX7_image_16 : decode cX7_image 16 = .ok (.aload_n 0, 1) := by decide +kernel
theorem dX7_image_17 : decode cX7_image 17 = .ok (.getfield 50, 3) := by decide +kernel
theorem dX7_image_20 : decode cX7_image 20 = .ok (.getfield 69, 3) := by decide +kernel
theorem dX7_image_23 : decode cX7_image 23 = .ok (.ireturn, 1) := by decide +kernel
theorem dX7_undo_0 : decode cX7_undo 0 = .ok (.aload_n 0, 1) := by decide +kernel
theorem dX7_undo_1 : decode cX7_undo 1 = .ok (.getfield 281, 3) := by decide +kernel
theorem dX7_undo_4 : decode cX7_undo 4 = .ok (.ifCond .ne 6, 3) := by decide +kernel
theorem dX7_undo_7 : decode cX7_undo 7 = .ok (.bipush (-3), 2) := by decide +kernel
theorem dX7_undo_9 : decode cX7_undo 9 = .ok (.ireturn, 1) := by decide +kernel
theorem dX7_undo_10 : decode cX7_undo 10 = .ok (.aload_n 0, 1) := by decide +kernel
theorem dX7_undo_11 : decode cX7_undo 11 = .ok (.getfield 50, 3) := by decide +kernel
theorem dX7_undo_14 : decode cX7_undo 14 = .ok (.aload_n 0, 1) := by decide +kernel
theorem dX7_undo_15 : decode cX7_undo 15 = .ok (.getfield 54, 3) := by decide +kernel
theorem dX7_undo_18 : decode cX7_undo 18 = .ok (.invokevirtual 278, 3) := by decide +kernel
theorem dX7_undo_21 : decode cX7_undo 21 = .ok (.aload_n 0, 1) := by decide +kernel
theorem dX7_undo_22 : decode cX7_undo 22 = .ok (.getfield 50, 3) := by decide +kernel
theorem dX7_undo_25 : decode cX7_undo 25 = .ok (.getfield 69, 3) := by decide +kernel
theorem dX7_undo_28 : decode cX7_undo 28 = .ok (.ireturn, 1) := by decide +kernel
theorem dX7_act_0 : decode cX7_act 0 = .ok (.aload_n 0, 1) := by decide +kernel
theorem dX7_act_1 : decode cX7_act 1 = .ok (.getfield 34, 3) := by decide +kernel
theorem dX7_act_4 : decode cX7_act 4 = .ok (.iconst 0, 1) := by decide +kernel
theorem dX7_act_5 : decode cX7_act 5 = .ok (.putfield 285, 3) := by decide +kernel
theorem dX7_act_8 : decode cX7_act 8 = .ok (.aload_n 0, 1) := by decide +kernel
theorem dX7_act_9 : decode cX7_act 9 = .ok (.getfield 50, 3) := by decide +kernel
theorem dX7_act_12 : decode cX7_act 12 = .ok (.iload_n 1, 1) := by decide +kernel
theorem dX7_act_13 : decode cX7_act 13 = .ok (.invokevirtual 77, 3) := by decide +kernel
theorem dX7_act_16 : decode cX7_act 16 = .ok (.ifCond .eq 34, 3) := by decide +kernel
theorem dX7_act_19 : decode cX7_act 19 = .ok (.aload_n 0, 1) := by decide +kernel
theorem dX7_act_20 : decode cX7_act 20 = .ok (.getfield 34, 3) := by decide +kernel
theorem dX7_act_23 : decode cX7_act 23 = .ok (.aload_n 0, 1) := by decide +kernel
theorem dX7_act_24 : decode cX7_act 24 = .ok (.getfield 50, 3) := by decide +kernel
theorem dX7_act_27 : decode cX7_act 27 = .ok (.getfield 90, 3) := by decide +kernel
theorem dX7_act_30 : decode cX7_act 30 = .ok (.iload_n 1, 1) := by decide +kernel
theorem dX7_act_31 : decode cX7_act 31 = .ok (.iaload, 1) := by decide +kernel
theorem dX7_act_32 : decode cX7_act 32 = .ok (.iload_n 1, 1) := by decide +kernel
theorem dX7_act_33 : decode cX7_act 33 = .ok (.aload_n 0, 1) := by decide +kernel
theorem dX7_act_34 : decode cX7_act 34 = .ok (.getfield 50, 3) := by decide +kernel
theorem dX7_act_37 : decode cX7_act 37 = .ok (.getfield 94, 3) := by decide +kernel
theorem dX7_act_40 : decode cX7_act 40 = .ok (.iload_n 1, 1) := by decide +kernel
theorem dX7_act_41 : decode cX7_act 41 = .ok (.iaload, 1) := by decide +kernel
theorem dX7_act_42 : decode cX7_act 42 = .ok (.iload_n 2, 1) := by decide +kernel
theorem dX7_act_43 : decode cX7_act 43 = .ok (.iload_n 3, 1) := by decide +kernel
theorem dX7_act_44 : decode cX7_act 44 = .ok (.invokevirtual 288, 3) := by decide +kernel
theorem dX7_act_47 : decode cX7_act 47 = .ok (.goto 4, 3) := by decide +kernel
theorem dX7_act_50 : decode cX7_act 50 = .ok (.iconst 0, 1) := by decide +kernel
theorem dX7_act_51 : decode cX7_act 51 = .ok (.ireturn, 1) := by decide +kernel
theorem dX7_trace_0 : decode cX7_trace 0 = .ok (.iload_n 1, 1) := by decide +kernel
theorem dX7_trace_1 : decode cX7_trace 1 = .ok (.ifCond .lt 32, 3) := by decide +kernel
theorem dX7_trace_4 : decode cX7_trace 4 = .ok (.iload_n 1, 1) := by decide +kernel
theorem dX7_trace_5 : decode cX7_trace 5 = .ok (.bipush 20, 2) := by decide +kernel
theorem dX7_trace_7 : decode cX7_trace 7 = .ok (.if_icmp .ge 26, 3) := by decide +kernel
theorem dX7_trace_10 : decode cX7_trace 10 = .ok (.iload_n 1, 1) := by decide +kernel
theorem dX7_trace_11 : decode cX7_trace 11 = .ok (.aload_n 0, 1) := by decide +kernel
theorem dX7_trace_12 : decode cX7_trace 12 = .ok (.getfield 34, 3) := by decide +kernel
theorem dX7_trace_15 : decode cX7_trace 15 = .ok (.getfield 285, 3) := by decide +kernel
theorem dX7_trace_18 : decode cX7_trace 18 = .ok (.if_icmp .ge 15, 3) := by decide +kernel
theorem dX7_trace_21 : decode cX7_trace 21 = .ok (.aload_n 0, 1) := by decide +kernel
theorem dX7_trace_22 : decode cX7_trace 22 = .ok (.getfield 34, 3) := by decide +kernel
theorem dX7_trace_25 : decode cX7_trace 25 = .ok (.getfield 292, 3) := by decide +kernel
theorem dX7_trace_28 : decode cX7_trace 28 = .ok (.iload_n 1, 1) := by decide +kernel
theorem dX7_trace_29 : decode cX7_trace 29 = .ok (.iaload, 1) := by decide +kernel
theorem dX7_trace_30 : decode cX7_trace 30 = .ok (.goto 4, 3) := by decide +kernel
theorem dX7_trace_33 : decode cX7_trace 33 = .ok (.iconst (-1), 1) := by decide +kernel
theorem dX7_trace_34 : decode cX7_trace 34 = .ok (.ireturn, 1) := by decide +kernel
theorem dX7_taken_0 : decode cX7_taken 0 = .ok (.iload_n 2, 1) := by decide +kernel
theorem dX7_taken_1 : decode cX7_taken 1 = .ok (.bipush 6, 2) := by decide +kernel
theorem dX7_taken_3 : decode cX7_taken 3 = .ok (.invokestatic 61, 3) := by decide +kernel
theorem dX7_taken_6 : decode cX7_taken 6 = .ok (.ifCond .ne 6, 3) := by decide +kernel
theorem dX7_taken_9 : decode cX7_taken 9 = .ok (.bipush (-2), 2) := by decide +kernel
theorem dX7_taken_11 : decode cX7_taken 11 = .ok (.ireturn, 1) := by decide +kernel
theorem dX7_taken_12 : decode cX7_taken 12 = .ok (.aload_n 0, 1) := by decide +kernel
theorem dX7_taken_13 : decode cX7_taken 13 = .ok (.getfield 50, 3) := by decide +kernel
theorem dX7_taken_16 : decode cX7_taken 16 = .ok (.iload_n 1, 1) := by decide +kernel
theorem dX7_taken_17 : decode cX7_taken 17 = .ok (.invokevirtual 77, 3) := by decide +kernel
theorem dX7_taken_20 : decode cX7_taken 20 = .ok (.ifCond .ne 6, 3) := by decide +kernel
theorem dX7_taken_23 : decode cX7_taken 23 = .ok (.bipush (-11), 2) := by decide +kernel
theorem dX7_taken_25 : decode cX7_taken 25 = .ok (.ireturn, 1) := by decide +kernel
theorem dX7_taken_26 : decode cX7_taken 26 = .ok (.aload_n 0, 1) := by decide +kernel
theorem dX7_taken_27 : decode cX7_taken 27 = .ok (.getfield 50, 3) := by decide +kernel
theorem dX7_taken_30 : decode cX7_taken 30 = .ok (.getfield 90, 3) := by decide +kernel
theorem dX7_taken_33 : decode cX7_taken 33 = .ok (.iload_n 1, 1) := by decide +kernel
theorem dX7_taken_34 : decode cX7_taken 34 = .ok (.iaload, 1) := by decide +kernel
theorem dX7_taken_35 : decode cX7_taken 35 = .ok (.istore_n 3, 1) := by decide +kernel
theorem dX7_taken_36 : decode cX7_taken 36 = .ok (.iload_n 3, 1) := by decide +kernel
theorem dX7_taken_37 : decode cX7_taken 37 = .ok (.istore 4, 2) := by decide +kernel
theorem dX7_taken_39 : decode cX7_taken 39 = .ok (.iconst 0, 1) := by decide +kernel
theorem dX7_taken_40 : decode cX7_taken 40 = .ok (.istore 5, 2) := by decide +kernel
theorem dX7_taken_42 : decode cX7_taken 42 = .ok (.iload 5, 2) := by decide +kernel
theorem dX7_taken_44 : decode cX7_taken 44 = .ok (.bipush 7, 2) := by decide +kernel
theorem dX7_taken_46 : decode cX7_taken 46 = .ok (.if_icmp .ge 30, 3) := by decide +kernel
theorem dX7_taken_49 : decode cX7_taken 49 = .ok (.iload 4, 2) := by decide +kernel
theorem dX7_taken_51 : decode cX7_taken 51 = .ok (.ifCond .lt 25, 3) := by decide +kernel
theorem dX7_taken_54 : decode cX7_taken 54 = .ok (.iload 4, 2) := by decide +kernel
theorem dX7_taken_56 : decode cX7_taken 56 = .ok (.iload_n 2, 1) := by decide +kernel
theorem dX7_taken_57 : decode cX7_taken 57 = .ok (.if_icmp .ne 5, 3) := by decide +kernel
theorem dX7_taken_60 : decode cX7_taken 60 = .ok (.iload_n 3, 1) := by decide +kernel
theorem dX7_taken_61 : decode cX7_taken 61 = .ok (.ireturn, 1) := by decide +kernel
theorem dX7_taken_62 : decode cX7_taken 62 = .ok (.getstatic 295, 3) := by decide +kernel
theorem dX7_taken_65 : decode cX7_taken 65 = .ok (.iload 4, 2) := by decide +kernel
theorem dX7_taken_67 : decode cX7_taken 67 = .ok (.iaload, 1) := by decide +kernel
theorem dX7_taken_68 : decode cX7_taken 68 = .ok (.istore 4, 2) := by decide +kernel
theorem dX7_taken_70 : decode cX7_taken 70 = .ok (.iinc 5 1, 3) := by decide +kernel
theorem dX7_taken_73 : decode cX7_taken 73 = .ok (.goto (-31), 3) := by decide +kernel
theorem dX7_taken_76 : decode cX7_taken 76 = .ok (.bipush (-12), 2) := by decide +kernel
theorem dX7_taken_78 : decode cX7_taken 78 = .ok (.ireturn, 1) := by decide +kernel
theorem dX7_count_0 : decode cX7_count 0 = .ok (.iload_n 1, 1) := by decide +kernel
theorem dX7_count_1 : decode cX7_count 1 = .ok (.tableswitch 105 0 6 #[43, 51, 56, 67, 78, 89, 97], 43) := by decide +kernel
theorem dX7_count_44 : decode cX7_count 44 = .ok (.aload_n 0, 1) := by decide +kernel
theorem dX7_count_45 : decode cX7_count 45 = .ok (.getfield 50, 3) := by decide +kernel
theorem dX7_count_48 : decode cX7_count 48 = .ok (.getfield 69, 3) := by decide +kernel
theorem dX7_count_51 : decode cX7_count 51 = .ok (.ireturn, 1) := by decide +kernel
theorem dX7_count_52 : decode cX7_count 52 = .ok (.aload_n 0, 1) := by decide +kernel
theorem dX7_count_53 : decode cX7_count 53 = .ok (.getfield 125, 3) := by decide +kernel
theorem dX7_count_56 : decode cX7_count 56 = .ok (.ireturn, 1) := by decide +kernel
theorem dX7_count_57 : decode cX7_count 57 = .ok (.aload_n 0, 1) := by decide +kernel
theorem dX7_count_58 : decode cX7_count 58 = .ok (.getfield 50, 3) := by decide +kernel
theorem dX7_count_61 : decode cX7_count 61 = .ok (.getfield 202, 3) := by decide +kernel
theorem dX7_count_64 : decode cX7_count 64 = .ok (.getfield 226, 3) := by decide +kernel
theorem dX7_count_67 : decode cX7_count 67 = .ok (.ireturn, 1) := by decide +kernel
theorem dX7_count_68 : decode cX7_count 68 = .ok (.aload_n 0, 1) := by decide +kernel
theorem dX7_count_69 : decode cX7_count 69 = .ok (.getfield 50, 3) := by decide +kernel
theorem dX7_count_72 : decode cX7_count 72 = .ok (.getfield 250, 3) := by decide +kernel
theorem dX7_count_75 : decode cX7_count 75 = .ok (.getfield 226, 3) := by decide +kernel
theorem dX7_count_78 : decode cX7_count 78 = .ok (.ireturn, 1) := by decide +kernel
theorem dX7_count_79 : decode cX7_count 79 = .ok (.aload_n 0, 1) := by decide +kernel
theorem dX7_count_80 : decode cX7_count 80 = .ok (.getfield 50, 3) := by decide +kernel
theorem dX7_count_83 : decode cX7_count 83 = .ok (.getfield 262, 3) := by decide +kernel
theorem dX7_count_86 : decode cX7_count 86 = .ok (.getfield 226, 3) := by decide +kernel
theorem dX7_count_89 : decode cX7_count 89 = .ok (.ireturn, 1) := by decide +kernel
theorem dX7_count_90 : decode cX7_count 90 = .ok (.aload_n 0, 1) := by decide +kernel
theorem dX7_count_91 : decode cX7_count 91 = .ok (.getfield 14, 3) := by decide +kernel
theorem dX7_count_94 : decode cX7_count 94 = .ok (.getfield 118, 3) := by decide +kernel
theorem dX7_count_97 : decode cX7_count 97 = .ok (.ireturn, 1) := by decide +kernel
theorem dX7_count_98 : decode cX7_count 98 = .ok (.aload_n 0, 1) := by decide +kernel
theorem dX7_count_99 : decode cX7_count 99 = .ok (.getfield 34, 3) := by decide +kernel
theorem dX7_count_102 : decode cX7_count 102 = .ok (.getfield 285, 3) := by decide +kernel
theorem dX7_count_105 : decode cX7_count 105 = .ok (.ireturn, 1) := by decide +kernel
theorem dX7_count_106 : decode cX7_count 106 = .ok (.bipush (-2), 2) := by decide +kernel
theorem dX7_count_108 : decode cX7_count 108 = .ok (.ireturn, 1) := by decide +kernel
theorem dX7_tape_0 : decode cX7_tape 0 = .ok (.iload_n 1, 1) := by decide +kernel
theorem dX7_tape_1 : decode cX7_tape 1 = .ok (.invokestatic 265, 3) := by decide +kernel
theorem dX7_tape_4 : decode cX7_tape 4 = .ok (.ifCond .ne 5, 3) := by decide +kernel
theorem dX7_tape_7 : decode cX7_tape 7 = .ok (.iconst (-1), 1) := by decide +kernel
theorem dX7_tape_8 : decode cX7_tape 8 = .ok (.ireturn, 1) := by decide +kernel
theorem dX7_tape_9 : decode cX7_tape 9 = .ok (.iload_n 2, 1) := by decide +kernel
theorem dX7_tape_10 : decode cX7_tape 10 = .ok (.iconst (-1), 1) := by decide +kernel
theorem dX7_tape_11 : decode cX7_tape 11 = .ok (.if_icmp .ne 16, 3) := by decide +kernel
theorem dX7_tape_14 : decode cX7_tape 14 = .ok (.aload_n 0, 1) := by decide +kernel
theorem dX7_tape_15 : decode cX7_tape 15 = .ok (.getfield 40, 3) := by decide +kernel
theorem dX7_tape_18 : decode cX7_tape 18 = .ok (.iload_n 1, 1) := by decide +kernel
theorem dX7_tape_19 : decode cX7_tape 19 = .ok (.aaload, 1) := by decide +kernel
theorem dX7_tape_20 : decode cX7_tape 20 = .ok (.iconst (-1), 1) := by decide +kernel
theorem dX7_tape_21 : decode cX7_tape 21 = .ok (.iconst 0, 1) := by decide +kernel
theorem dX7_tape_22 : decode cX7_tape 22 = .ok (.invokevirtual 298, 3) := by decide +kernel
theorem dX7_tape_25 : decode cX7_tape 25 = .ok (.iconst 1, 1) := by decide +kernel
theorem dX7_tape_26 : decode cX7_tape 26 = .ok (.ireturn, 1) := by decide +kernel
theorem dX7_tape_27 : decode cX7_tape 27 = .ok (.iload_n 2, 1) := by decide +kernel
theorem dX7_tape_28 : decode cX7_tape 28 = .ok (.iconst 4, 1) := by decide +kernel
theorem dX7_tape_29 : decode cX7_tape 29 = .ok (.invokestatic 61, 3) := by decide +kernel
theorem dX7_tape_32 : decode cX7_tape 32 = .ok (.ifCond .eq 9, 3) := by decide +kernel
theorem dX7_tape_35 : decode cX7_tape 35 = .ok (.iload_n 3, 1) := by decide +kernel
theorem dX7_tape_36 : decode cX7_tape 36 = .ok (.bipush 60, 2) := by decide +kernel
theorem dX7_tape_38 : decode cX7_tape 38 = .ok (.if_icmp .le 6, 3) := by decide +kernel
theorem dX7_tape_41 : decode cX7_tape 41 = .ok (.bipush (-2), 2) := by decide +kernel
theorem dX7_tape_43 : decode cX7_tape 43 = .ok (.ireturn, 1) := by decide +kernel
theorem dX7_tape_44 : decode cX7_tape 44 = .ok (.iload_n 3, 1) := by decide +kernel
theorem dX7_tape_45 : decode cX7_tape 45 = .ok (.ifCond .ge 6, 3) := by decide +kernel
theorem dX7_tape_48 : decode cX7_tape 48 = .ok (.bipush (-14), 2) := by decide +kernel
theorem dX7_tape_50 : decode cX7_tape 50 = .ok (.ireturn, 1) := by decide +kernel
theorem dX7_tape_51 : decode cX7_tape 51 = .ok (.aload_n 0, 1) := by decide +kernel
theorem dX7_tape_52 : decode cX7_tape 52 = .ok (.getfield 40, 3) := by decide +kernel
theorem dX7_tape_55 : decode cX7_tape 55 = .ok (.iload_n 1, 1) := by decide +kernel
theorem dX7_tape_56 : decode cX7_tape 56 = .ok (.aaload, 1) := by decide +kernel
theorem dX7_tape_57 : decode cX7_tape 57 = .ok (.iload_n 2, 1) := by decide +kernel
theorem dX7_tape_58 : decode cX7_tape 58 = .ok (.iload_n 3, 1) := by decide +kernel
theorem dX7_tape_59 : decode cX7_tape 59 = .ok (.invokevirtual 298, 3) := by decide +kernel
theorem dX7_tape_62 : decode cX7_tape 62 = .ok (.iconst 1, 1) := by decide +kernel
theorem dX7_tape_63 : decode cX7_tape 63 = .ok (.ireturn, 1) := by decide +kernel
theorem dX7_item_0 : decode cX7_item 0 = .ok (.iload_n 1, 1) := by decide +kernel
theorem dX7_item_1 : decode cX7_item 1 = .ok (.invokestatic 265, 3) := by decide +kernel
theorem dX7_item_4 : decode cX7_item 4 = .ok (.ifCond .ne 5, 3) := by decide +kernel
theorem dX7_item_7 : decode cX7_item 7 = .ok (.iconst (-1), 1) := by decide +kernel
theorem dX7_item_8 : decode cX7_item 8 = .ok (.ireturn, 1) := by decide +kernel
theorem dX7_item_9 : decode cX7_item 9 = .ok (.aload_n 0, 1) := by decide +kernel
theorem dX7_item_10 : decode cX7_item 10 = .ok (.getfield 40, 3) := by decide +kernel
theorem dX7_item_13 : decode cX7_item 13 = .ok (.iload_n 1, 1) := by decide +kernel
theorem dX7_item_14 : decode cX7_item 14 = .ok (.aaload, 1) := by decide +kernel
theorem dX7_item_15 : decode cX7_item 15 = .ok (.getfield 268, 3) := by decide +kernel
theorem dX7_item_18 : decode cX7_item 18 = .ok (.iconst (-1), 1) := by decide +kernel
theorem dX7_item_19 : decode cX7_item 19 = .ok (.if_icmp .ne 6, 3) := by decide +kernel
theorem dX7_item_22 : decode cX7_item 22 = .ok (.bipush (-11), 2) := by decide +kernel
theorem dX7_item_24 : decode cX7_item 24 = .ok (.ireturn, 1) := by decide +kernel
theorem dX7_item_25 : decode cX7_item 25 = .ok (.aload_n 0, 1) := by decide +kernel
theorem dX7_item_26 : decode cX7_item 26 = .ok (.getfield 40, 3) := by decide +kernel
theorem dX7_item_29 : decode cX7_item 29 = .ok (.iload_n 1, 1) := by decide +kernel
theorem dX7_item_30 : decode cX7_item 30 = .ok (.aaload, 1) := by decide +kernel
theorem dX7_item_31 : decode cX7_item 31 = .ok (.iload_n 2, 1) := by decide +kernel
theorem dX7_item_32 : decode cX7_item 32 = .ok (.invokevirtual 301, 3) := by decide +kernel
theorem dX7_item_35 : decode cX7_item 35 = .ok (.ifCond .ne 6, 3) := by decide +kernel
theorem dX7_item_38 : decode cX7_item 38 = .ok (.bipush (-13), 2) := by decide +kernel
theorem dX7_item_40 : decode cX7_item 40 = .ok (.ireturn, 1) := by decide +kernel
theorem dX7_item_41 : decode cX7_item 41 = .ok (.aload_n 0, 1) := by decide +kernel
theorem dX7_item_42 : decode cX7_item 42 = .ok (.getfield 40, 3) := by decide +kernel
theorem dX7_item_45 : decode cX7_item 45 = .ok (.iload_n 1, 1) := by decide +kernel
theorem dX7_item_46 : decode cX7_item 46 = .ok (.aaload, 1) := by decide +kernel
theorem dX7_item_47 : decode cX7_item 47 = .ok (.iload_n 2, 1) := by decide +kernel
theorem dX7_item_48 : decode cX7_item 48 = .ok (.lload_n 3, 1) := by decide +kernel
theorem dX7_item_49 : decode cX7_item 49 = .ok (.invokevirtual 304, 3) := by decide +kernel
theorem dX7_item_52 : decode cX7_item 52 = .ok (.iconst 1, 1) := by decide +kernel
theorem dX7_item_53 : decode cX7_item 53 = .ok (.ireturn, 1) := by decide +kernel
theorem dX7_read_0 : decode cX7_read 0 = .ok (.iload_n 1, 1) := by decide +kernel
theorem dX7_read_1 : decode cX7_read 1 = .ok (.invokestatic 265, 3) := by decide +kernel
theorem dX7_read_4 : decode cX7_read 4 = .ok (.ifCond .eq 30, 3) := by decide +kernel
theorem dX7_read_7 : decode cX7_read 7 = .ok (.aload_n 0, 1) := by decide +kernel
theorem dX7_read_8 : decode cX7_read 8 = .ok (.getfield 40, 3) := by decide +kernel
theorem dX7_read_11 : decode cX7_read 11 = .ok (.iload_n 1, 1) := by decide +kernel
theorem dX7_read_12 : decode cX7_read 12 = .ok (.aaload, 1) := by decide +kernel
theorem dX7_read_13 : decode cX7_read 13 = .ok (.iload_n 2, 1) := by decide +kernel
theorem dX7_read_14 : decode cX7_read 14 = .ok (.invokevirtual 301, 3) := by decide +kernel
theorem dX7_read_17 : decode cX7_read 17 = .ok (.ifCond .eq 17, 3) := by decide +kernel
theorem dX7_read_20 : decode cX7_read 20 = .ok (.aload_n 0, 1) := by decide +kernel
theorem dX7_read_21 : decode cX7_read 21 = .ok (.getfield 40, 3) := by decide +kernel
theorem dX7_read_24 : decode cX7_read 24 = .ok (.iload_n 1, 1) := by decide +kernel
theorem dX7_read_25 : decode cX7_read 25 = .ok (.aaload, 1) := by decide +kernel
theorem dX7_read_26 : decode cX7_read 26 = .ok (.getfield 274, 3) := by decide +kernel
theorem dX7_read_29 : decode cX7_read 29 = .ok (.iload_n 2, 1) := by decide +kernel
theorem dX7_read_30 : decode cX7_read 30 = .ok (.laload, 1) := by decide +kernel
theorem dX7_read_31 : decode cX7_read 31 = .ok (.goto 6, 3) := by decide +kernel
theorem dX7_read_34 : decode cX7_read 34 = .ok (.ldc2_w 238, 3) := by decide +kernel
theorem dX7_read_37 : decode cX7_read 37 = .ok (.lreturn, 1) := by decide +kernel
theorem dX7_shift_0 : decode cX7_shift 0 = .ok (.iload_n 1, 1) := by decide +kernel
theorem dX7_shift_1 : decode cX7_shift 1 = .ok (.invokestatic 265, 3) := by decide +kernel
theorem dX7_shift_4 : decode cX7_shift 4 = .ok (.ifCond .eq 10, 3) := by decide +kernel
theorem dX7_shift_7 : decode cX7_shift 7 = .ok (.iload_n 3, 1) := by decide +kernel
theorem dX7_shift_8 : decode cX7_shift 8 = .ok (.invokestatic 265, 3) := by decide +kernel
theorem dX7_shift_11 : decode cX7_shift 11 = .ok (.ifCond .ne 5, 3) := by decide +kernel
theorem dX7_shift_14 : decode cX7_shift 14 = .ok (.iconst (-1), 1) := by decide +kernel
theorem dX7_shift_15 : decode cX7_shift 15 = .ok (.ireturn, 1) := by decide +kernel
theorem dX7_shift_16 : decode cX7_shift 16 = .ok (.aload_n 0, 1) := by decide +kernel
theorem dX7_shift_17 : decode cX7_shift 17 = .ok (.getfield 40, 3) := by decide +kernel
theorem dX7_shift_20 : decode cX7_shift 20 = .ok (.iload_n 1, 1) := by decide +kernel
theorem dX7_shift_21 : decode cX7_shift 21 = .ok (.aaload, 1) := by decide +kernel
theorem dX7_shift_22 : decode cX7_shift 22 = .ok (.astore 6, 2) := by decide +kernel
theorem dX7_shift_24 : decode cX7_shift 24 = .ok (.aload_n 0, 1) := by decide +kernel
theorem dX7_shift_25 : decode cX7_shift 25 = .ok (.getfield 40, 3) := by decide +kernel
theorem dX7_shift_28 : decode cX7_shift 28 = .ok (.iload_n 3, 1) := by decide +kernel
theorem dX7_shift_29 : decode cX7_shift 29 = .ok (.aaload, 1) := by decide +kernel
theorem dX7_shift_30 : decode cX7_shift 30 = .ok (.astore 7, 2) := by decide +kernel
theorem dX7_shift_32 : decode cX7_shift 32 = .ok (.aload 6, 2) := by decide +kernel
theorem dX7_shift_34 : decode cX7_shift 34 = .ok (.getfield 268, 3) := by decide +kernel
theorem dX7_shift_37 : decode cX7_shift 37 = .ok (.iconst (-1), 1) := by decide +kernel
theorem dX7_shift_38 : decode cX7_shift 38 = .ok (.if_icmp .eq 12, 3) := by decide +kernel
theorem dX7_shift_41 : decode cX7_shift 41 = .ok (.aload 7, 2) := by decide +kernel
theorem dX7_shift_43 : decode cX7_shift 43 = .ok (.getfield 268, 3) := by decide +kernel
theorem dX7_shift_46 : decode cX7_shift 46 = .ok (.iconst (-1), 1) := by decide +kernel
theorem dX7_shift_47 : decode cX7_shift 47 = .ok (.if_icmp .ne 6, 3) := by decide +kernel
theorem dX7_shift_50 : decode cX7_shift 50 = .ok (.bipush (-11), 2) := by decide +kernel
theorem dX7_shift_52 : decode cX7_shift 52 = .ok (.ireturn, 1) := by decide +kernel
theorem dX7_shift_53 : decode cX7_shift 53 = .ok (.aload 6, 2) := by decide +kernel
theorem dX7_shift_55 : decode cX7_shift 55 = .ok (.getfield 268, 3) := by decide +kernel
theorem dX7_shift_58 : decode cX7_shift 58 = .ok (.aload 7, 2) := by decide +kernel
theorem dX7_shift_60 : decode cX7_shift 60 = .ok (.getfield 268, 3) := by decide +kernel
theorem dX7_shift_63 : decode cX7_shift 63 = .ok (.if_icmp .eq 6, 3) := by decide +kernel
theorem dX7_shift_66 : decode cX7_shift 66 = .ok (.bipush (-12), 2) := by decide +kernel
theorem dX7_shift_68 : decode cX7_shift 68 = .ok (.ireturn, 1) := by decide +kernel
theorem dX7_shift_69 : decode cX7_shift 69 = .ok (.aload 6, 2) := by decide +kernel
theorem dX7_shift_71 : decode cX7_shift 71 = .ok (.iload_n 2, 1) := by decide +kernel
theorem dX7_shift_72 : decode cX7_shift 72 = .ok (.iload 5, 2) := by decide +kernel
theorem dX7_shift_74 : decode cX7_shift 74 = .ok (.invokevirtual 308, 3) := by decide +kernel
theorem dX7_shift_77 : decode cX7_shift 77 = .ok (.ifCond .eq 15, 3) := by decide +kernel
theorem dX7_shift_80 : decode cX7_shift 80 = .ok (.aload 7, 2) := by decide +kernel
theorem dX7_shift_82 : decode cX7_shift 82 = .ok (.iload 4, 2) := by decide +kernel
theorem dX7_shift_84 : decode cX7_shift 84 = .ok (.iload 5, 2) := by decide +kernel
theorem dX7_shift_86 : decode cX7_shift 86 = .ok (.invokevirtual 308, 3) := by decide +kernel
theorem dX7_shift_89 : decode cX7_shift 89 = .ok (.ifCond .ne 6, 3) := by decide +kernel
theorem dX7_shift_92 : decode cX7_shift 92 = .ok (.bipush (-13), 2) := by decide +kernel
theorem dX7_shift_94 : decode cX7_shift 94 = .ok (.ireturn, 1) := by decide +kernel
theorem dX7_shift_95 : decode cX7_shift 95 = .ok (.aload 6, 2) := by decide +kernel
theorem dX7_shift_97 : decode cX7_shift 97 = .ok (.getfield 274, 3) := by decide +kernel
theorem dX7_shift_100 : decode cX7_shift 100 = .ok (.iload_n 2, 1) := by decide +kernel
theorem dX7_shift_101 : decode cX7_shift 101 = .ok (.aload 7, 2) := by decide +kernel
theorem dX7_shift_103 : decode cX7_shift 103 = .ok (.getfield 274, 3) := by decide +kernel
theorem dX7_shift_106 : decode cX7_shift 106 = .ok (.iload 4, 2) := by decide +kernel
theorem dX7_shift_108 : decode cX7_shift 108 = .ok (.iload 5, 2) := by decide +kernel
theorem dX7_shift_110 : decode cX7_shift 110 = .ok (.invokestatic 311, 3) := by decide +kernel
theorem dX7_shift_113 : decode cX7_shift 113 = .ok (.iload 5, 2) := by decide +kernel
theorem dX7_shift_115 : decode cX7_shift 115 = .ok (.ireturn, 1) := by decide +kernel
theorem dX7_isIn_0 : decode cX7_isIn 0 = .ok (.iload_n 0, 1) := by decide +kernel
theorem dX7_isIn_1 : decode cX7_isIn 1 = .ok (.ifCond .lt 12, 3) := by decide +kernel
theorem dX7_isIn_4 : decode cX7_isIn 4 = .ok (.iload_n 0, 1) := by decide +kernel
theorem dX7_isIn_5 : decode cX7_isIn 5 = .ok (.iload_n 1, 1) := by decide +kernel
theorem dX7_isIn_6 : decode cX7_isIn 6 = .ok (.if_icmp .gt 7, 3) := by decide +kernel
theorem dX7_isIn_9 : decode cX7_isIn 9 = .ok (.iconst 1, 1) := by decide +kernel
theorem dX7_isIn_10 : decode cX7_isIn 10 = .ok (.goto 4, 3) := by decide +kernel
theorem dX7_isIn_13 : decode cX7_isIn 13 = .ok (.iconst 0, 1) := by decide +kernel
theorem dX7_isIn_14 : decode cX7_isIn 14 = .ok (.ireturn, 1) := by decide +kernel
theorem dX7_isHouse_0 : decode cX7_isHouse 0 = .ok (.iload_n 0, 1) := by decide +kernel
theorem dX7_isHouse_1 : decode cX7_isHouse 1 = .ok (.iconst 4, 1) := by decide +kernel
theorem dX7_isHouse_2 : decode cX7_isHouse 2 = .ok (.invokestatic 61, 3) := by decide +kernel
theorem dX7_isHouse_5 : decode cX7_isHouse 5 = .ok (.ireturn, 1) := by decide +kernel
theorem dX7_isTape_0 : decode cX7_isTape 0 = .ok (.iload_n 0, 1) := by decide +kernel
theorem dX7_isTape_1 : decode cX7_isTape 1 = .ok (.iconst 5, 1) := by decide +kernel
theorem dX7_isTape_2 : decode cX7_isTape 2 = .ok (.invokestatic 61, 3) := by decide +kernel
theorem dX7_isTape_5 : decode cX7_isTape 5 = .ok (.ireturn, 1) := by decide +kernel
end
section
theorem dX8_init_0 : decode cX8_init 0 = .ok (.aload_n 0, 1) := by decide +kernel
theorem dX8_init_1 : decode cX8_init 1 = .ok (.invokespecial 1, 3) := by decide +kernel
theorem dX8_init_4 : decode cX8_init 4 = .ok (.aload_n 0, 1) := by decide +kernel
theorem dX8_init_5 : decode cX8_init 5 = .ok (.iconst 0, 1) := by decide +kernel
theorem dX8_init_6 : decode cX8_init 6 = .ok (.putfield 7, 3) := by decide +kernel
theorem dX8_init_9 : decode cX8_init 9 = .ok (.aload_n 0, 1) := by decide +kernel
theorem dX8_init_10 : decode cX8_init 10 = .ok (.iconst 0, 1) := by decide +kernel
theorem dX8_init_11 : decode cX8_init 11 = .ok (.putfield 13, 3) := by decide +kernel
theorem dX8_init_14 : decode cX8_init 14 = .ok (.aload_n 0, 1) := by decide +kernel
theorem dX8_init_15 : decode cX8_init 15 = .ok (.bipush 6, 2) := by decide +kernel
theorem dX8_init_17 : decode cX8_init 17 = .ok (.newarray .int, 2) := by decide +kernel
theorem dX8_init_19 : decode cX8_init 19 = .ok (.putfield 16, 3) := by decide +kernel
theorem dX8_init_22 : decode cX8_init 22 = .ok (.aload_n 0, 1) := by decide +kernel
theorem dX8_init_23 : decode cX8_init 23 = .ok (.bipush 6, 2) := by decide +kernel
theorem dX8_init_25 : decode cX8_init 25 = .ok (.newarray .int, 2) := by decide +kernel
theorem dX8_init_27 : decode cX8_init 27 = .ok (.putfield 20, 3) := by decide +kernel
theorem dX8_init_30 : decode cX8_init 30 = .ok (.aload_n 0, 1) := by decide +kernel
theorem dX8_init_31 : decode cX8_init 31 = .ok (.bipush 6, 2) := by decide +kernel
theorem dX8_init_33 : decode cX8_init 33 = .ok (.newarray .int, 2) := by decide +kernel
theorem dX8_init_35 : decode cX8_init 35 = .ok (.putfield 23, 3) := by decide +kernel
theorem dX8_init_38 : decode cX8_init 38 = .ok (.aload_n 0, 1) := by decide +kernel
theorem dX8_init_39 : decode cX8_init 39 = .ok (.bipush 6, 2) := by decide +kernel
theorem dX8_init_41 : decode cX8_init 41 = .ok (.newarray .int, 2) := by decide +kernel
theorem dX8_init_43 : decode cX8_init 43 = .ok (.putfield 26, 3) := by decide +kernel
theorem dX8_init_46 : decode cX8_init 46 = .ok (.aload_n 0, 1) := by decide +kernel
theorem dX8_init_47 : decode cX8_init 47 = .ok (.bipush 24, 2) := by decide +kernel
theorem dX8_init_49 : decode cX8_init 49 = .ok (.newarray .int, 2) := by decide +kernel
theorem dX8_init_51 : decode cX8_init 51 = .ok (.putfield 29, 3) := by decide +kernel
theorem dX8_init_54 : decode cX8_init 54 = .ok (.aload_n 0, 1) := by decide +kernel
theorem dX8_init_55 : decode cX8_init 55 = .ok (.iconst 0, 1) := by decide +kernel
theorem dX8_init_56 : decode cX8_init 56 = .ok (.putfield 32, 3) := by decide +kernel
theorem dX8_init_59 : decode cX8_init 59 = .ok (.aload_n 0, 1) := by decide +kernel
theorem dX8_init_60 : decode cX8_init 60 = .ok (.iconst (-1), 1) := by decide +kernel
theorem dX8_init_61 : decode cX8_init 61 = .ok (.putfield 35, 3) := by decide +kernel
theorem dX8_init_64 : decode cX8_init 64 = .ok (.aload_n 0, 1) := by decide +kernel
theorem dX8_init_65 : decode cX8_init 65 = .ok (.iconst 0, 1) := by decide +kernel
theorem dX8_init_66 : decode cX8_init 66 = .ok (.putfield 38, 3) := by decide +kernel
theorem dX8_init_69 : decode cX8_init 69 = .ok (.aload_n 0, 1) := by decide +kernel
theorem dX8_init_70 : decode cX8_init 70 = .ok (.iconst 0, 1) := by decide +kernel
theorem dX8_init_71 : decode cX8_init 71 = .ok (.putfield 41, 3) := by decide +kernel
theorem dX8_init_74 : decode cX8_init 74 = .ok (.aload_n 0, 1) := by decide +kernel
theorem dX8_init_75 : decode cX8_init 75 = .ok (.iconst 0, 1) := by decide +kernel
theorem dX8_init_76 : decode cX8_init 76 = .ok (.putfield 44, 3) := by decide +kernel
theorem dX8_init_79 : decode cX8_init 79 = .ok (.aload_n 0, 1) := by decide +kernel
theorem dX8_init_80 : decode cX8_init 80 = .ok (.bipush 100, 2) := by decide +kernel
theorem dX8_init_82 : decode cX8_init 82 = .ok (.newarray .int, 2) := by decide +kernel
theorem dX8_init_84 : decode cX8_init 84 = .ok (.putfield 47, 3) := by decide +kernel
theorem dX8_init_87 : decode cX8_init 87 = .ok (.aload_n 0, 1) := by decide +kernel
theorem dX8_init_88 : decode cX8_init 88 = .ok (.bipush 6, 2) := by decide +kernel
theorem dX8_init_90 : decode cX8_init 90 = .ok (.newarray .int, 2) := by decide +kernel
theorem dX8_init_92 : decode cX8_init 92 = .ok (.putfield 50, 3) := by decide +kernel
theorem dX8_init_95 : decode cX8_init 95 = .ok (.aload_n 0, 1) := by decide +kernel
theorem dX8_init_96 : decode cX8_init 96 = .ok (.bipush 60, 2) := by decide +kernel
theorem dX8_init_98 : decode cX8_init 98 = .ok (.newarray .int, 2) := by decide +kernel
theorem dX8_init_100 : decode cX8_init 100 = .ok (.putfield 53, 3) := by decide +kernel
theorem dX8_init_103 : decode cX8_init 103 = .ok (.aload_n 0, 1) := by decide +kernel
theorem dX8_init_104 : decode cX8_init 104 = .ok (.bipush 60, 2) := by decide +kernel
theorem dX8_init_106 : decode cX8_init 106 = .ok (.newarray .int, 2) := by decide +kernel
theorem dX8_init_108 : decode cX8_init 108 = .ok (.putfield 56, 3) := by decide +kernel
theorem dX8_init_111 : decode cX8_init 111 = .ok (.aload_n 0, 1) := by decide +kernel
theorem dX8_init_112 : decode cX8_init 112 = .ok (.bipush 60, 2) := by decide +kernel
theorem dX8_init_114 : decode cX8_init 114 = .ok (.newarray .int, 2) := by decide +kernel
theorem dX8_init_116 : decode cX8_init 116 = .ok (.putfield 59, 3) := by decide +kernel
theorem dX8_init_119 : decode cX8_init 119 = .ok (.aload_n 0, 1) := by decide +kernel
theorem dX8_init_120 : decode cX8_init 120 = .ok (.bipush 60, 2) := by decide +kernel
theorem dX8_init_122 : decode cX8_init 122 = .ok (.newarray .int, 2) := by decide +kernel
theorem dX8_init_124 : decode cX8_init 124 = .ok (.putfield 62, 3) := by decide +kernel
theorem dX8_init_127 : decode cX8_init 127 = .ok (.aload_n 0, 1) := by decide +kernel
theorem dX8_init_128 : decode cX8_init 128 = .ok (.sipush 600, 3) := by decide +kernel
theorem dX8_init_131 : decode cX8_init 131 = .ok (.newarray .int, 2) := by decide +kernel
theorem dX8_init_133 : decode cX8_init 133 = .ok (.putfield 65, 3) := by decide +kernel
theorem dX8_init_136 : decode cX8_init 136 = .ok (.aload_n 0, 1) := by decide +kernel
theorem dX8_init_137 : decode cX8_init 137 = .ok (.bipush 101, 2) := by decide +kernel
theorem dX8_init_139 : decode cX8_init 139 = .ok (.newarray .int, 2) := by decide +kernel
theorem dX8_init_141 : decode cX8_init 141 = .ok (.putfield 68, 3) := by decide +kernel
theorem dX8_init_144 : decode cX8_init 144 = .ok (.aload_n 0, 1) := by decide +kernel
theorem dX8_init_145 : decode cX8_init 145 = .ok (.iconst 0, 1) := by decide +kernel
theorem dX8_init_146 : decode cX8_init 146 = .ok (.putfield 71, 3) := by decide +kernel
theorem dX8_init_149 : decode cX8_init 149 = .ok (.aload_n 0, 1) := by decide +kernel
theorem dX8_init_150 : decode cX8_init 150 = .ok (.iconst 0, 1) := by decide +kernel
theorem dX8_init_151 : decode cX8_init 151 = .ok (.putfield 74, 3) := by decide +kernel
theorem dX8_init_154 : decode cX8_init 154 = .ok (.aload_n 0, 1) := by decide +kernel
theorem dX8_init_155 : decode cX8_init 155 = .ok (.iconst 0, 1) := by decide +kernel
theorem dX8_init_156 : decode cX8_init 156 = .ok (.putfield 77, 3) := by decide +kernel
theorem dX8_init_159 : decode cX8_init 159 = .ok (.aload_n 0, 1) := by decide +kernel
theorem dX8_init_160 : decode cX8_init 160 = .ok (.bipush 20, 2) := by decide +kernel
theorem dX8_init_162 : decode cX8_init 162 = .ok (.newarray .int, 2) := by decide +kernel
theorem dX8_init_164 : decode cX8_init 164 = .ok (.dup, 1) := by decide +kernel
theorem dX8_init_165 : decode cX8_init 165 = .ok (.iconst 0, 1) := by decide +kernel
theorem dX8_init_166 : decode cX8_init 166 = .ok (.bipush 108, 2) := by decide +kernel
theorem dX8_init_168 : decode cX8_init 168 = .ok (.iastore, 1) := by decide +kernel
theorem dX8_init_169 : decode cX8_init 169 = .ok (.dup, 1) := by decide +kernel
theorem dX8_init_170 : decode cX8_init 170 = .ok (.iconst 1, 1) := by decide +kernel
theorem dX8_init_171 : decode cX8_init 171 = .ok (.bipush 111, 2) := by decide +kernel
theorem dX8_init_173 : decode cX8_init 173 = .ok (.iastore, 1) := by decide +kernel
theorem dX8_init_174 : decode cX8_init 174 = .ok (.dup, 1) := by decide +kernel
theorem dX8_init_175 : decode cX8_init 175 = .ok (.iconst 2, 1) := by decide +kernel
theorem dX8_init_176 : decode cX8_init 176 = .ok (.bipush 117, 2) := by decide +kernel
theorem dX8_init_178 : decode cX8_init 178 = .ok (.iastore, 1) := by decide +kernel
theorem dX8_init_179 : decode cX8_init 179 = .ok (.dup, 1) := by decide +kernel
theorem dX8_init_180 : decode cX8_init 180 = .ok (.iconst 3, 1) := by decide +kernel
theorem dX8_init_181 : decode cX8_init 181 = .ok (.bipush 100, 2) := by decide +kernel
theorem dX8_init_183 : decode cX8_init 183 = .ok (.iastore, 1) := by decide +kernel
theorem dX8_init_184 : decode cX8_init 184 = .ok (.dup, 1) := by decide +kernel
theorem dX8_init_185 : decode cX8_init 185 = .ok (.iconst 4, 1) := by decide +kernel
theorem dX8_init_186 : decode cX8_init 186 = .ok (.bipush 115, 2) := by decide +kernel
theorem dX8_init_188 : decode cX8_init 188 = .ok (.iastore, 1) := by decide +kernel
theorem dX8_init_189 : decode cX8_init 189 = .ok (.dup, 1) := by decide +kernel
theorem dX8_init_190 : decode cX8_init 190 = .ok (.iconst 5, 1) := by decide +kernel
theorem dX8_init_191 : decode cX8_init 191 = .ok (.bipush 111, 2) := by decide +kernel
theorem dX8_init_193 : decode cX8_init 193 = .ok (.iastore, 1) := by decide +kernel
theorem dX8_init_194 : decode cX8_init 194 = .ok (.dup, 1) := by decide +kernel
theorem dX8_init_195 : decode cX8_init 195 = .ok (.bipush 6, 2) := by decide +kernel
theorem dX8_init_197 : decode cX8_init 197 = .ok (.bipush 102, 2) := by decide +kernel
theorem dX8_init_199 : decode cX8_init 199 = .ok (.iastore, 1) := by decide +kernel
theorem dX8_init_200 : decode cX8_init 200 = .ok (.dup, 1) := by decide +kernel
theorem dX8_init_201 : decode cX8_init 201 = .ok (.bipush 7, 2) := by decide +kernel
theorem dX8_init_203 : decode cX8_init 203 = .ok (.bipush 116, 2) := by decide +kernel
theorem dX8_init_205 : decode cX8_init 205 = .ok (.iastore, 1) := by decide +kernel
theorem dX8_init_206 : decode cX8_init 206 = .ok (.dup, 1) := by decide +kernel
theorem dX8_init_207 : decode cX8_init 207 = .ok (.bipush 8, 2) := by decide +kernel
theorem dX8_init_209 : decode cX8_init 209 = .ok (.bipush 119, 2) := by decide +kernel
theorem dX8_init_211 : decode cX8_init 211 = .ok (.iastore, 1) := by decide +kernel
theorem dX8_init_212 : decode cX8_init 212 = .ok (.dup, 1) := by decide +kernel
theorem dX8_init_213 : decode cX8_init 213 = .ok (.bipush 9, 2) := by decide +kernel
theorem dX8_init_215 : decode cX8_init 215 = .ok (.bipush 97, 2) := by decide +kernel
theorem dX8_init_217 : decode cX8_init 217 = .ok (.iastore, 1) := by decide +kernel
theorem dX8_init_218 : decode cX8_init 218 = .ok (.dup, 1) := by decide +kernel
theorem dX8_init_219 : decode cX8_init 219 = .ok (.bipush 10, 2) := by decide +kernel
theorem dX8_init_221 : decode cX8_init 221 = .ok (.bipush 108, 2) := by decide +kernel
theorem dX8_init_223 : decode cX8_init 223 = .ok (.iastore, 1) := by decide +kernel
theorem dX8_init_224 : decode cX8_init 224 = .ok (.dup, 1) := by decide +kernel
theorem dX8_init_225 : decode cX8_init 225 = .ok (.bipush 11, 2) := by decide +kernel
theorem dX8_init_227 : decode cX8_init 227 = .ok (.bipush 108, 2) := by decide +kernel
theorem dX8_init_229 : decode cX8_init 229 = .ok (.iastore, 1) := by decide +kernel
theorem dX8_init_230 : decode cX8_init 230 = .ok (.dup, 1) := by decide +kernel
theorem dX8_init_231 : decode cX8_init 231 = .ok (.bipush 12, 2) := by decide +kernel
theorem dX8_init_233 : decode cX8_init 233 = .ok (.bipush 99, 2) := by decide +kernel
theorem dX8_init_235 : decode cX8_init 235 = .ok (.iastore, 1) := by decide +kernel
theorem dX8_init_236 : decode cX8_init 236 = .ok (.dup, 1) := by decide +kernel
theorem dX8_init_237 : decode cX8_init 237 = .ok (.bipush 13, 2) := by decide +kernel
theorem dX8_init_239 : decode cX8_init 239 = .ok (.bipush 97, 2) := by decide +kernel
theorem dX8_init_241 : decode cX8_init 241 = .ok (.iastore, 1) := by decide +kernel
theorem dX8_init_242 : decode cX8_init 242 = .ok (.dup, 1) := by decide +kernel
theorem dX8_init_243 : decode cX8_init 243 = .ok (.bipush 14, 2) := by decide +kernel
theorem dX8_init_245 : decode cX8_init 245 = .ok (.bipush 108, 2) := by decide +kernel
theorem dX8_init_247 : decode cX8_init 247 = .ok (.iastore, 1) := by decide +kernel
theorem dX8_init_248 : decode cX8_init 248 = .ok (.dup, 1) := by decide +kernel
theorem dX8_init_249 : decode cX8_init 249 = .ok (.bipush 15, 2) := by decide +kernel
theorem dX8_init_251 : decode cX8_init 251 = .ok (.bipush 109, 2) := by decide +kernel
theorem dX8_init_253 : decode cX8_init 253 = .ok (.iastore, 1) := by decide +kernel
theorem dX8_init_254 : decode cX8_init 254 = .ok (.dup, 1) := by decide +kernel
theorem dX8_init_255 : decode cX8_init 255 = .ok (.bipush 16, 2) := by decide +kernel
theorem dX8_init_257 : decode cX8_init 257 = .ok (.bipush 119, 2) := by decide +kernel
theorem dX8_init_259 : decode cX8_init 259 = .ok (.iastore, 1) := by decide +kernel
theorem dX8_init_260 : decode cX8_init 260 = .ok (.dup, 1) := by decide +kernel
theorem dX8_init_261 : decode cX8_init 261 = .ok (.bipush 17, 2) := by decide +kernel
theorem dX8_init_263 : decode cX8_init 263 = .ok (.bipush 101, 2) := by decide +kernel
theorem dX8_init_265 : decode cX8_init 265 = .ok (.iastore, 1) := by decide +kernel
theorem dX8_init_266 : decode cX8_init 266 = .ok (.dup, 1) := by decide +kernel
theorem dX8_init_267 : decode cX8_init 267 = .ok (.bipush 18, 2) := by decide +kernel
theorem dX8_init_269 : decode cX8_init 269 = .ok (.bipush 97, 2) := by decide +kernel
theorem dX8_init_271 : decode cX8_init 271 = .ok (.iastore, 1) := by decide +kernel
theorem dX8_init_272 : decode cX8_init 272 = .ok (.dup, 1) := by decide +kernel
theorem dX8_init_273 : decode cX8_init 273 = .ok (.bipush 19, 2) := by decide +kernel
theorem dX8_init_275 : decode cX8_init 275 = .ok (.bipush 114, 2) := by decide +kernel
theorem dX8_init_277 : decode cX8_init 277 = .ok (.iastore, 1) := by decide +kernel
theorem dX8_init_278 : decode cX8_init 278 = .ok (.putfield 80, 3) := by decide +kernel
theorem dX8_init_281 : decode cX8_init 281 = .ok (.aload_n 0, 1) := by decide +kernel
theorem dX8_init_282 : decode cX8_init 282 = .ok (.bipush 100, 2) := by decide +kernel
theorem dX8_init_284 : decode cX8_init 284 = .ok (.newarray .boolean, 2) := by decide +kernel
theorem dX8_init_286 : decode cX8_init 286 = .ok (.putfield 83, 3) := by decide +kernel
theorem dX8_init_289 : decode cX8_init 289 = .ok (.aload_n 0, 1) := by decide +kernel
theorem dX8_init_290 : decode cX8_init 290 = .ok (.iconst 5, 1) := by decide +kernel
theorem dX8_init_291 : decode cX8_init 291 = .ok (.newarray .int, 2) := by decide +kernel
theorem dX8_init_293 : decode cX8_init 293 = .ok (.putfield 87, 3) := by decide +kernel
theorem dX8_init_296 : decode cX8_init 296 = .ok (.aload_n 0, 1) := by decide +kernel
theorem dX8_init_297 : decode cX8_init 297 = .ok (.iconst 0, 1) := by decide +kernel
theorem dX8_init_298 : decode cX8_init 298 = .ok (.putfield 90, 3) := by decide +kernel
theorem dX8_init_301 : decode cX8_init 301 = .ok (.aload_n 0, 1) := by decide +kernel
theorem dX8_init_302 : decode cX8_init 302 = .ok (.bipush 6, 2) := by decide +kernel
theorem dX8_init_304 : decode cX8_init 304 = .ok (.newarray .int, 2) := by decide +kernel
theorem dX8_init_306 : decode cX8_init 306 = .ok (.putfield 93, 3) := by decide +kernel
theorem dX8_init_309 : decode cX8_init 309 = .ok (.aload_n 0, 1) := by decide +kernel
theorem dX8_init_310 : decode cX8_init 310 = .ok (.bipush 6, 2) := by decide +kernel
theorem dX8_init_312 : decode cX8_init 312 = .ok (.newarray .int, 2) := by decide +kernel
theorem dX8_init_314 : decode cX8_init 314 = .ok (.putfield 96, 3) := by decide +kernel
theorem dX8_init_317 : decode cX8_init 317 = .ok (.aload_n 0, 1) := by decide +kernel
theorem dX8_init_318 : decode cX8_init 318 = .ok (.sipush 150, 3) := by decide +kernel
theorem dX8_init_321 : decode cX8_init 321 = .ok (.newarray .int, 2) := by decide +kernel
theorem dX8_init_323 : decode cX8_init 323 = .ok (.putfield 99, 3) := by decide +kernel
theorem dX8_init_326 : decode cX8_init 326 = .ok (.aload_n 0, 1) := by decide +kernel
theorem dX8_init_327 : decode cX8_init 327 = .ok (.bipush 6, 2) := by decide +kernel
theorem dX8_init_329 : decode cX8_init 329 = .ok (.newarray .int, 2) := by decide +kernel
theorem dX8_init_331 : decode cX8_init 331 = .ok (.putfield 102, 3) := by decide +kernel
theorem dX8_init_334 : decode cX8_init 334 = .ok (.aload_n 0, 1) := by decide +kernel
theorem dX8_init_335 : decode cX8_init 335 = .ok (.iconst 0, 1) := by decide +kernel
theorem dX8_init_336 : decode cX8_init 336 = .ok (.putfield 105, 3) := by decide +kernel
theorem dX8_init_339 : decode cX8_init 339 = .ok (.aload_n 0, 1) := by decide +kernel
theorem dX8_init_340 : decode cX8_init 340 = .ok (.iconst 0, 1) := by decide +kernel
theorem dX8_init_341 : decode cX8_init 341 = .ok (.putfield 108, 3) := by decide +kernel
theorem dX8_init_344 : decode cX8_init 344 = .ok (.aload_n 0, 1) := by decide +kernel
theorem dX8_init_345 : decode cX8_init 345 = .ok (.iconst 0, 1) := by decide +kernel
theorem dX8_init_346 : decode cX8_init 346 = .ok (.putfield 111, 3) := by decide +kernel
theorem dX8_init_349 : decode cX8_init 349 = .ok (.aload_n 0, 1) := by decide +kernel
theorem dX8_init_350 : decode cX8_init 350 = .ok (.iconst 5, 1) := by decide +kernel
theorem dX8_init_351 : decode cX8_init 351 = .ok (.newarray .int, 2) := by decide +kernel
theorem dX8_init_353 : decode cX8_init 353 = .ok (.putfield 114, 3) := by decide +kernel
theorem dX8_init_356 : decode cX8_init 356 = .ok (.aload_n 0, 1) := by decide +kernel
theorem dX8_init_357 : decode cX8_init 357 = .ok (.iconst 5, 1) := by decide +kernel
theorem dX8_init_358 : decode cX8_init 358 = .ok (.newarray .int, 2) := by decide +kernel
theorem dX8_init_360 : decode cX8_init 360 = .ok (.putfield 117, 3) := by decide +kernel
theorem dX8_init_363 : decode cX8_init 363 = .ok (.aload_n 0, 1) := by decide +kernel
theorem dX8_init_364 : decode cX8_init 364 = .ok (.iconst 5, 1) := by decide +kernel
theorem dX8_init_365 : decode cX8_init 365 = .ok (.newarray .int, 2) := by decide +kernel
theorem dX8_init_367 : decode cX8_init 367 = .ok (.putfield 120, 3) := by decide +kernel
theorem dX8_init_370 : decode cX8_init 370 = .ok (.aload_n 0, 1) := by decide +kernel
theorem dX8_init_371 : decode cX8_init 371 = .ok (.iconst 0, 1) := by decide +kernel
theorem dX8_init_372 : decode cX8_init 372 = .ok (.putfield 123, 3) := by decide +kernel
theorem dX8_init_375 : decode cX8_init 375 = .ok (.aload_n 0, 1) := by decide +kernel
theorem dX8_init_376 : decode cX8_init 376 = .ok (.iconst 0, 1) := by decide +kernel
theorem dX8_init_377 : decode cX8_init 377 = .ok (.putfield 126, 3) := by decide +kernel
theorem dX8_init_380 : decode cX8_init 380 = .ok (.aload_n 0, 1) := by decide +kernel
theorem dX8_init_381 : decode cX8_init 381 = .ok (.bipush 10, 2) := by decide +kernel
theorem dX8_init_383 : decode cX8_init 383 = .ok (.newarray .int, 2) := by decide +kernel
theorem dX8_init_385 : decode cX8_init 385 = .ok (.putfield 129, 3) := by decide +kernel
theorem dX8_init_388 : decode cX8_init 388 = .ok (.aload_n 0, 1) := by decide +kernel
theorem dX8_init_389 : decode cX8_init 389 = .ok (.bipush 10, 2) := by decide +kernel
theorem dX8_init_391 : decode cX8_init 391 = .ok (.newarray .int, 2) := by decide +kernel
theorem dX8_init_393 : decode cX8_init 393 = .ok (.putfield 132, 3) := by decide +kernel
theorem dX8_init_396 : decode cX8_init 396 = .ok (.aload_n 0, 1) := by decide +kernel
theorem dX8_init_397 : decode cX8_init 397 = .ok (.bipush 8, 2) := by decide +kernel
theorem dX8_init_399 : decode cX8_init 399 = .ok (.newarray .int, 2) := by decide +kernel
theorem dX8_init_401 : decode cX8_init 401 = .ok (.putfield 135, 3) := by decide +kernel
theorem dX8_init_404 : decode cX8_init 404 = .ok (.aload_n 0, 1) := by decide +kernel
theorem dX8_init_405 : decode cX8_init 405 = .ok (.bipush 8, 2) := by decide +kernel
theorem dX8_init_407 : decode cX8_init 407 = .ok (.newarray .int, 2) := by decide +kernel
theorem dX8_init_409 : decode cX8_init 409 = .ok (.putfield 138, 3) := by decide +kernel
theorem dX8_init_412 : decode cX8_init 412 = .ok (.aload_n 0, 1) := by decide +kernel
theorem dX8_init_413 : decode cX8_init 413 = .ok (.iconst 0, 1) := by decide +kernel
theorem dX8_init_414 : decode cX8_init 414 = .ok (.putfield 141, 3) := by decide +kernel
theorem dX8_init_417 : decode cX8_init 417 = .ok (.aload_n 0, 1) := by decide +kernel
theorem dX8_init_418 : decode cX8_init 418 = .ok (.iconst (-1), 1) := by decide +kernel
theorem dX8_init_419 : decode cX8_init 419 = .ok (.putfield 145, 3) := by decide +kernel
theorem dX8_init_422 : decode cX8_init 422 = .ok (.aload_n 0, 1) := by decide +kernel
theorem dX8_init_423 : decode cX8_init 423 = .ok (.iconst 0, 1) := by decide +kernel
theorem dX8_init_424 : decode cX8_init 424 = .ok (.putfield 148, 3) := by decide +kernel
theorem dX8_init_427 : decode cX8_init 427 = .ok (.aload_n 0, 1) := by decide +kernel
theorem dX8_init_428 : decode cX8_init 428 = .ok (.iconst 0, 1) := by decide +kernel
theorem dX8_init_429 : decode cX8_init 429 = .ok (.putfield 151, 3) := by decide +kernel
theorem dX8_init_432 : decode cX8_init 432 = .ok (.aload_n 0, 1) := by decide +kernel
theorem dX8_init_433 : decode cX8_init 433 = .ok (.iconst 0, 1) := by decide +kernel
theorem dX8_init_434 : decode cX8_init 434 = .ok (.putfield 154, 3) := by decide +kernel
theorem dX8_init_437 : decode cX8_init 437 = .ok (.aload_n 0, 1) := by decide +kernel
theorem dX8_init_438 : decode cX8_init 438 = .ok (.iconst 0, 1) := by decide +kernel
theorem dX8_init_439 : decode cX8_init 439 = .ok (.putfield 157, 3) := by decide +kernel
theorem dX8_init_442 : decode cX8_init 442 = .ok (.aload_n 0, 1) := by decide +kernel
theorem dX8_init_443 : decode cX8_init 443 = .ok (.iconst 0, 1) := by decide +kernel
theorem dX8_init_444 : decode cX8_init 444 = .ok (.putfield 160, 3) := by decide +kernel
theorem dX8_init_447 : decode cX8_init 447 = .ok (.aload_n 0, 1) := by decide +kernel
theorem dX8_init_448 : decode cX8_init 448 = .ok (.bipush 6, 2) := by decide +kernel
theorem dX8_init_450 : decode cX8_init 450 = .ok (.newarray .int, 2) := by decide +kernel
theorem dX8_init_452 : decode cX8_init 452 = .ok (.putfield 163, 3) := by decide +kernel
theorem dX8_init_455 : decode cX8_init 455 = .ok (.aload_n 0, 1) := by decide +kernel
theorem dX8_init_456 : decode cX8_init 456 = .ok (.bipush 6, 2) := by decide +kernel
theorem dX8_init_458 : decode cX8_init 458 = .ok (.newarray .int, 2) := by decide +kernel
theorem dX8_init_460 : decode cX8_init 460 = .ok (.putfield 166, 3) := by decide +kernel
theorem dX8_init_463 : decode cX8_init 463 = .ok (.aload_n 0, 1) := by decide +kernel
theorem dX8_init_464 : decode cX8_init 464 = .ok (.bipush 6, 2) := by decide +kernel
theorem dX8_init_466 : decode cX8_init 466 = .ok (.newarray .int, 2) := by decide +kernel
theorem dX8_init_468 : decode cX8_init 468 = .ok (.putfield 169, 3) := by decide +kernel
theorem dX8_init_471 : decode cX8_init 471 = .ok (.aload_n 0, 1) := by decide +kernel
theorem dX8_init_472 : decode cX8_init 472 = .ok (.bipush 6, 2) := by decide +kernel
theorem dX8_init_474 : decode cX8_init 474 = .ok (.newarray .int, 2) := by decide +kernel
theorem dX8_init_476 : decode cX8_init 476 = .ok (.putfield 172, 3) := by decide +kernel
theorem dX8_init_479 : decode cX8_init 479 = .ok (.aload_n 0, 1) := by decide +kernel
theorem dX8_init_480 : decode cX8_init 480 = .ok (.bipush 24, 2) := by decide +kernel
theorem dX8_init_482 : decode cX8_init 482 = .ok (.newarray .int, 2) := by decide +kernel
theorem dX8_init_484 : decode cX8_init 484 = .ok (.putfield 175, 3) := by decide +kernel
theorem dX8_init_487 : decode cX8_init 487 = .ok (.aload_n 0, 1) := by decide +kernel
theorem dX8_init_488 : decode cX8_init 488 = .ok (.iconst 5, 1) := by decide +kernel
theorem dX8_init_489 : decode cX8_init 489 = .ok (.newarray .int, 2) := by decide +kernel
theorem dX8_init_491 : decode cX8_init 491 = .ok (.putfield 178, 3) := by decide +kernel
theorem dX8_init_494 : decode cX8_init 494 = .ok (.aload_n 0, 1) := by decide +kernel
theorem dX8_init_495 : decode cX8_init 495 = .ok (.iconst 5, 1) := by decide +kernel
theorem dX8_init_496 : decode cX8_init 496 = .ok (.newarray .int, 2) := by decide +kernel
theorem dX8_init_498 : decode cX8_init 498 = .ok (.putfield 181, 3) := by decide +kernel
theorem dX8_init_501 : decode cX8_init 501 = .ok (.aload_n 0, 1) := by decide +kernel
theorem dX8_init_502 : decode cX8_init 502 = .ok (.iconst 5, 1) := by decide +kernel
theorem dX8_init_503 : decode cX8_init 503 = .ok (.newarray .int, 2) := by decide +kernel
theorem dX8_init_505 : decode cX8_init 505 = .ok (.putfield 184, 3) := by decide +kernel
theorem dX8_init_508 : decode cX8_init 508 = .ok (.aload_n 0, 1) := by decide +kernel
theorem dX8_init_509 : decode cX8_init 509 = .ok (.bipush 10, 2) := by decide +kernel
theorem dX8_init_511 : decode cX8_init 511 = .ok (.newarray .int, 2) := by decide +kernel
theorem dX8_init_513 : decode cX8_init 513 = .ok (.putfield 187, 3) := by decide +kernel
theorem dX8_init_516 : decode cX8_init 516 = .ok (.aload_n 0, 1) := by decide +kernel
theorem dX8_init_517 : decode cX8_init 517 = .ok (.bipush 10, 2) := by decide +kernel
theorem dX8_init_519 : decode cX8_init 519 = .ok (.newarray .int, 2) := by decide +kernel
theorem dX8_init_521 : decode cX8_init 521 = .ok (.putfield 190, 3) := by decide +kernel
theorem dX8_init_524 : decode cX8_init 524 = .ok (.aload_n 0, 1) := by decide +kernel
theorem dX8_init_525 : decode cX8_init 525 = .ok (.bipush 8, 2) := by decide +kernel
theorem dX8_init_527 : decode cX8_init 527 = .ok (.newarray .int, 2) := by decide +kernel
theorem dX8_init_529 : decode cX8_init 529 = .ok (.putfield 193, 3) := by decide +kernel
theorem dX8_init_532 : decode cX8_init 532 = .ok (.aload_n 0, 1) := by decide +kernel
theorem dX8_init_533 : decode cX8_init 533 = .ok (.bipush 8, 2) := by decide +kernel
theorem dX8_init_535 : decode cX8_init 535 = .ok (.newarray .int, 2) := by decide +kernel
theorem dX8_init_537 : decode cX8_init 537 = .ok (.putfield 196, 3) := by decide +kernel
theorem dX8_init_540 : decode cX8_init 540 = .ok (.aload_n 0, 1) := by decide +kernel
theorem dX8_init_541 : decode cX8_init 541 = .ok (.iconst 0, 1) := by decide +kernel
theorem dX8_init_542 : decode cX8_init 542 = .ok (.putfield 199, 3) := by decide +kernel
theorem dX8_init_545 : decode cX8_init 545 = .ok (.aload_n 0, 1) := by decide +kernel
theorem dX8_init_546 : decode cX8_init 546 = .ok (.bipush 20, 2) := by decide +kernel
theorem dX8_init_548 : decode cX8_init 548 = .ok (.newarray .int, 2) := by decide +kernel
theorem dX8_init_550 : decode cX8_init 550 = .ok (.putfield 202, 3) := by decide +kernel
theorem dX8_init_553 : decode cX8_init 553 = .ok (.aload_n 0, 1) := by decide +kernel
theorem dX8_init_554 : decode cX8_init 554 = .ok (.bipush 6, 2) := by decide +kernel
theorem dX8_init_556 : decode cX8_init 556 = .ok (.newarray .int, 2) := by decide +kernel
theorem dX8_init_558 : decode cX8_init 558 = .ok (.dup, 1) := by decide +kernel
theorem dX8_init_559 : decode cX8_init 559 = .ok (.iconst 0, 1) := by decide +kernel
theorem dX8_init_560 : decode cX8_init 560 = .ok (.iconst (-1), 1) := by decide +kernel
theorem dX8_init_561 : decode cX8_init 561 = .ok (.iastore, 1) := by decide +kernel
theorem dX8_init_562 : decode cX8_init 562 = .ok (.dup, 1) := by decide +kernel
theorem dX8_init_563 : decode cX8_init 563 = .ok (.iconst 1, 1) := by decide +kernel
theorem dX8_init_564 : decode cX8_init 564 = .ok (.iconst (-1), 1) := by decide +kernel
theorem dX8_init_565 : decode cX8_init 565 = .ok (.iastore, 1) := by decide +kernel
theorem dX8_init_566 : decode cX8_init 566 = .ok (.dup, 1) := by decide +kernel
theorem dX8_init_567 : decode cX8_init 567 = .ok (.iconst 2, 1) := by decide +kernel
theorem dX8_init_568 : decode cX8_init 568 = .ok (.iconst (-1), 1) := by decide +kernel
theorem dX8_init_569 : decode cX8_init 569 = .ok (.iastore, 1) := by decide +kernel
theorem dX8_init_570 : decode cX8_init 570 = .ok (.dup, 1) := by decide +kernel
theorem dX8_init_571 : decode cX8_init 571 = .ok (.iconst 3, 1) := by decide +kernel
theorem dX8_init_572 : decode cX8_init 572 = .ok (.iconst (-1), 1) := by decide +kernel
theorem dX8_init_573 : decode cX8_init 573 = .ok (.iastore, 1) := by decide +kernel
theorem dX8_init_574 : decode cX8_init 574 = .ok (.dup, 1) := by decide +kernel
theorem dX8_init_575 : decode cX8_init 575 = .ok (.iconst 4, 1) := by decide +kernel
theorem dX8_init_576 : decode cX8_init 576 = .ok (.iconst (-1), 1) := by decide +kernel
theorem dX8_init_577 : decode cX8_init 577 = .ok (.iastore, 1) := by decide +kernel
theorem dX8_init_578 : decode cX8_init 578 = .ok (.dup, 1) := by decide +kernel
theorem dX8_init_579 : decode cX8_init 579 = .ok (.iconst 5, 1) := by decide +kernel
theorem dX8_init_580 : decode cX8_init 580 = .ok (.iconst (-1), 1) := by decide +kernel
theorem dX8_init_581 : decode cX8_init 581 = .ok (.iastore, 1) := by decide +kernel
theorem dX8_init_582 : decode cX8_init 582 = .ok (.putfield 205, 3) := by decide +kernel
theorem dX8_init_585 : decode cX8_init 585 = .ok (.aload_n 0, 1) := by decide +kernel
theorem dX8_init_586 : decode cX8_init 586 = .ok (.bipush 6, 2) := by decide +kernel
theorem dX8_init_588 : decode cX8_init 588 = .ok (.newarray .int, 2) := by decide +kernel
theorem dX8_init_590 : decode cX8_init 590 = .ok (.putfield 208, 3) := by decide +kernel
theorem dX8_init_593 : decode cX8_init 593 = .ok (.aload_n 0, 1) := by decide +kernel
theorem dX8_init_594 : decode cX8_init 594 = .ok (.sipush 360, 3) := by decide +kernel
theorem dX8_init_597 : decode cX8_init 597 = .ok (.newarray .long, 2) := by decide +kernel
theorem dX8_init_599 : decode cX8_init 599 = .ok (.putfield 211, 3) := by decide +kernel
theorem dX8_init_602 : decode cX8_init 602 = .ok (.aload_n 0, 1) := by decide +kernel
theorem dX8_init_603 : decode cX8_init 603 = .ok (.bipush 60, 2) := by decide +kernel
theorem dX8_init_605 : decode cX8_init 605 = .ok (.newarray .long, 2) := by decide +kernel
theorem dX8_init_607 : decode cX8_init 607 = .ok (.putfield 215, 3) := by decide +kernel
theorem dX8_init_610 : decode cX8_init 610 = .ok (.return_, 1) := by decide +kernel
theorem dX8_in_0 : decode cX8_in 0 = .ok (.iload_n 1, 1) := by decide +kernel
theorem dX8_in_1 : decode cX8_in 1 = .ok (.iload_n 2, 1) := by decide +kernel
theorem dX8_in_2 : decode cX8_in 2 = .ok (.if_icmp .lt 12, 3) := by decide +kernel
theorem dX8_in_5 : decode cX8_in 5 = .ok (.iload_n 1, 1) := by decide +kernel
theorem dX8_in_6 : decode cX8_in 6 = .ok (.iload_n 3, 1) := by decide +kernel
theorem dX8_in_7 : decode cX8_in 7 = .ok (.if_icmp .gt 7, 3) := by decide +kernel
theorem dX8_in_10 : decode cX8_in 10 = .ok (.iconst 1, 1) := by decide +kernel
theorem dX8_in_11 : decode cX8_in 11 = .ok (.goto 4, 3) := by decide +kernel
theorem dX8_in_14 : decode cX8_in 14 = .ok (.iconst 0, 1) := by decide +kernel
theorem dX8_in_15 : decode cX8_in 15 = .ok (.ireturn, 1) := by decide +kernel
theorem dX8_least0_0 : decode cX8_least0 0 = .ok (.iload_n 1, 1) := by decide +kernel
theorem dX8_least0_1 : decode cX8_least0 1 = .ok (.ifCond .ge 7, 3) := by decide +kernel
theorem dX8_least0_4 : decode cX8_least0 4 = .ok (.iconst 0, 1) := by decide +kernel
theorem dX8_least0_5 : decode cX8_least0 5 = .ok (.goto 4, 3) := by decide +kernel
theorem dX8_least0_8 : decode cX8_least0 8 = .ok (.iload_n 1, 1) := by decide +kernel
theorem dX8_least0_9 : decode cX8_least0 9 = .ok (.ireturn, 1) := by decide +kernel
theorem dX8_farOf_0 : decode cX8_farOf 0 = .ok (.iload_n 1, 1) := by decide +kernel
theorem dX8_farOf_1 : decode cX8_farOf 1 = .ok (.iload_n 2, 1) := by decide +kernel
theorem dX8_farOf_2 : decode cX8_farOf 2 = .ok (.if_icmp .le 9, 3) := by decide +kernel
theorem dX8_farOf_5 : decode cX8_farOf 5 = .ok (.iload_n 1, 1) := by decide +kernel
theorem dX8_farOf_6 : decode cX8_farOf 6 = .ok (.iload_n 2, 1) := by decide +kernel
theorem dX8_farOf_7 : decode cX8_farOf 7 = .ok (.isub, 1) := by decide +kernel
theorem dX8_farOf_8 : decode cX8_farOf 8 = .ok (.goto 6, 3) := by decide +kernel
theorem dX8_farOf_11 : decode cX8_farOf 11 = .ok (.iload_n 2, 1) := by decide +kernel
theorem dX8_farOf_12 : decode cX8_farOf 12 = .ok (.iload_n 1, 1) := by decide +kernel
theorem dX8_farOf_13 : decode cX8_farOf 13 = .ok (.isub, 1) := by decide +kernel
theorem dX8_farOf_14 : decode cX8_farOf 14 = .ok (.ireturn, 1) := by decide +kernel
theorem dX8_isSound_0 : decode cX8_isSound 0 = .ok (.aload_n 0, 1) := by decide +kernel
theorem dX8_isSound_1 : decode cX8_isSound 1 = .ok (.iload_n 1, 1) := by decide +kernel
theorem dX8_isSound_2 : decode cX8_isSound 2 = .ok (.iconst 0, 1) := by decide +kernel
theorem dX8_isSound_3 : decode cX8_isSound 3 = .ok (.aload_n 0, 1) := by decide +kernel
theorem dX8_isSound_4 : decode cX8_isSound 4 = .ok (.getfield 7, 3) := by decide +kernel
theorem dX8_isSound_7 : decode cX8_isSound 7 = .ok (.iconst 1, 1) := by decide +kernel
theorem dX8_isSound_8 : decode cX8_isSound 8 = .ok (.isub, 1) := by decide +kernel
theorem dX8_isSound_9 : decode cX8_isSound 9 = .ok (.invokevirtual 218, 3) := by decide +kernel
theorem dX8_isSound_12 : decode cX8_isSound 12 = .ok (.ireturn, 1) := by decide +kernel
theorem dX8_isHouse_0 : decode cX8_isHouse 0 = .ok (.aload_n 0, 1) := by decide +kernel
theorem dX8_isHouse_1 : decode cX8_isHouse 1 = .ok (.iload_n 1, 1) := by decide +kernel
theorem dX8_isHouse_2 : decode cX8_isHouse 2 = .ok (.iconst 0, 1) := by decide +kernel
theorem dX8_isHouse_3 : decode cX8_isHouse 3 = .ok (.iconst 4, 1) := by decide +kernel
theorem dX8_isHouse_4 : decode cX8_isHouse 4 = .ok (.invokevirtual 218, 3) := by decide +kernel
theorem dX8_isHouse_7 : decode cX8_isHouse 7 = .ok (.ireturn, 1) := by decide +kernel
theorem dX8_isLoud_0 : decode cX8_isLoud 0 = .ok (.aload_n 0, 1) := by decide +kernel
theorem dX8_isLoud_1 : decode cX8_isLoud 1 = .ok (.iload_n 1, 1) := by decide +kernel
theorem dX8_isLoud_2 : decode cX8_isLoud 2 = .ok (.iconst 0, 1) := by decide +kernel
theorem dX8_isLoud_3 : decode cX8_isLoud 3 = .ok (.bipush 99, 2) := by decide +kernel
theorem dX8_isLoud_5 : decode cX8_isLoud 5 = .ok (.invokevirtual 218, 3) := by decide +kernel
theorem dX8_isLoud_8 : decode cX8_isLoud 8 = .ok (.ireturn, 1) := by decide +kernel
theorem dX8_isYears_0 : decode cX8_isYears 0 = .ok (.aload_n 0, 1) := by decide +kernel
theorem dX8_isYears_1 : decode cX8_isYears 1 = .ok (.iload_n 1, 1) := by decide +kernel
theorem dX8_isYears_2 : decode cX8_isYears 2 = .ok (.iconst 0, 1) := by decide +kernel
theorem dX8_isYears_3 : decode cX8_isYears 3 = .ok (.bipush 60, 2) := by decide +kernel
theorem dX8_isYears_5 : decode cX8_isYears 5 = .ok (.invokevirtual 218, 3) := by decide +kernel
theorem dX8_isYears_8 : decode cX8_isYears 8 = .ok (.ireturn, 1) := by decide +kernel
theorem dX8_isLost_0 : decode cX8_isLost 0 = .ok (.aload_n 0, 1) := by decide +kernel
theorem dX8_isLost_1 : decode cX8_isLost 1 = .ok (.getfield 26, 3) := by decide +kernel
theorem dX8_isLost_4 : decode cX8_isLost 4 = .ok (.iload_n 1, 1) := by decide +kernel
theorem dX8_isLost_5 : decode cX8_isLost 5 = .ok (.iaload, 1) := by decide +kernel
theorem dX8_isLost_6 : decode cX8_isLost 6 = .ok (.bipush (-5), 2) := by decide +kernel
theorem dX8_isLost_8 : decode cX8_isLost 8 = .ok (.if_icmp .ne 7, 3) := by decide +kernel
theorem dX8_isLost_11 : decode cX8_isLost 11 = .ok (.iconst 1, 1) := by decide +kernel
theorem dX8_isLost_12 : decode cX8_isLost 12 = .ok (.goto 4, 3) := by decide +kernel
theorem dX8_isLost_15 : decode cX8_isLost 15 = .ok (.iconst 0, 1) := by decide +kernel
theorem dX8_isLost_16 : decode cX8_isLost 16 = .ok (.ireturn, 1) := by decide +kernel
theorem dX8_sound_0 : decode cX8_sound 0 = .ok (.aload_n 0, 1) := by decide +kernel
theorem dX8_sound_1 : decode cX8_sound 1 = .ok (.iload_n 1, 1) := by decide +kernel
theorem dX8_sound_2 : decode cX8_sound 2 = .ok (.iconst 0, 1) := by decide +kernel
theorem dX8_sound_3 : decode cX8_sound 3 = .ok (.bipush 6, 2) := by decide +kernel
theorem dX8_sound_5 : decode cX8_sound 5 = .ok (.invokevirtual 218, 3) := by decide +kernel
theorem dX8_sound_8 : decode cX8_sound 8 = .ok (.ifCond .eq 12, 3) := by decide +kernel
theorem dX8_sound_11 : decode cX8_sound 11 = .ok (.aload_n 0, 1) := by decide +kernel
theorem dX8_sound_12 : decode cX8_sound 12 = .ok (.iload 4, 2) := by decide +kernel
theorem dX8_sound_14 : decode cX8_sound 14 = .ok (.invokevirtual 222, 3) := by decide +kernel
theorem dX8_sound_17 : decode cX8_sound 17 = .ok (.ifCond .ne 5, 3) := by decide +kernel
theorem dX8_sound_20 : decode cX8_sound 20 = .ok (.iconst (-1), 1) := by decide +kernel
theorem dX8_sound_21 : decode cX8_sound 21 = .ok (.ireturn, 1) := by decide +kernel
theorem dX8_sound_22 : decode cX8_sound 22 = .ok (.aload_n 0, 1) := by decide +kernel
theorem dX8_sound_23 : decode cX8_sound 23 = .ok (.iload_n 2, 1) := by decide +kernel
theorem dX8_sound_24 : decode cX8_sound 24 = .ok (.iconst 0, 1) := by decide +kernel
theorem dX8_sound_25 : decode cX8_sound 25 = .ok (.bipush 9, 2) := by decide +kernel
theorem dX8_sound_27 : decode cX8_sound 27 = .ok (.invokevirtual 218, 3) := by decide +kernel
theorem dX8_sound_30 : decode cX8_sound 30 = .ok (.ifCond .eq 11, 3) := by decide +kernel
theorem dX8_sound_33 : decode cX8_sound 33 = .ok (.aload_n 0, 1) := by decide +kernel
theorem dX8_sound_34 : decode cX8_sound 34 = .ok (.iload_n 3, 1) := by decide +kernel
theorem dX8_sound_35 : decode cX8_sound 35 = .ok (.invokevirtual 226, 3) := by decide +kernel
theorem dX8_sound_38 : decode cX8_sound 38 = .ok (.ifCond .ne 6, 3) := by decide +kernel
theorem dX8_sound_41 : decode cX8_sound 41 = .ok (.bipush (-2), 2) := by decide +kernel
theorem dX8_sound_43 : decode cX8_sound 43 = .ok (.ireturn, 1) := by decide +kernel
theorem dX8_sound_44 : decode cX8_sound 44 = .ok (.aload_n 0, 1) := by decide +kernel
theorem dX8_sound_45 : decode cX8_sound 45 = .ok (.getfield 7, 3) := by decide +kernel
theorem dX8_sound_48 : decode cX8_sound 48 = .ok (.bipush 6, 2) := by decide +kernel
theorem dX8_sound_50 : decode cX8_sound 50 = .ok (.if_icmp .ne 6, 3) := by decide +kernel
theorem dX8_sound_53 : decode cX8_sound 53 = .ok (.bipush (-4), 2) := by decide +kernel
theorem dX8_sound_55 : decode cX8_sound 55 = .ok (.ireturn, 1) := by decide +kernel
theorem dX8_sound_56 : decode cX8_sound 56 = .ok (.aload_n 0, 1) := by decide +kernel
theorem dX8_sound_57 : decode cX8_sound 57 = .ok (.getfield 16, 3) := by decide +kernel
theorem dX8_sound_60 : decode cX8_sound 60 = .ok (.aload_n 0, 1) := by decide +kernel
theorem dX8_sound_61 : decode cX8_sound 61 = .ok (.getfield 7, 3) := by decide +kernel
theorem dX8_sound_64 : decode cX8_sound 64 = .ok (.iload_n 1, 1) := by decide +kernel
theorem dX8_sound_65 : decode cX8_sound 65 = .ok (.iastore, 1) := by decide +kernel
theorem dX8_sound_66 : decode cX8_sound 66 = .ok (.aload_n 0, 1) := by decide +kernel
theorem dX8_sound_67 : decode cX8_sound 67 = .ok (.getfield 20, 3) := by decide +kernel
theorem dX8_sound_70 : decode cX8_sound 70 = .ok (.aload_n 0, 1) := by decide +kernel
theorem dX8_sound_71 : decode cX8_sound 71 = .ok (.getfield 7, 3) := by decide +kernel
theorem dX8_sound_74 : decode cX8_sound 74 = .ok (.iload_n 2, 1) := by decide +kernel
theorem dX8_sound_75 : decode cX8_sound 75 = .ok (.iastore, 1) := by decide +kernel
theorem dX8_sound_76 : decode cX8_sound 76 = .ok (.aload_n 0, 1) := by decide +kernel
theorem dX8_sound_77 : decode cX8_sound 77 = .ok (.getfield 23, 3) := by decide +kernel
theorem dX8_sound_80 : decode cX8_sound 80 = .ok (.aload_n 0, 1) := by decide +kernel
theorem dX8_sound_81 : decode cX8_sound 81 = .ok (.getfield 7, 3) := by decide +kernel
theorem dX8_sound_84 : decode cX8_sound 84 = .ok (.iload_n 3, 1) := by decide +kernel
theorem dX8_sound_85 : decode cX8_sound 85 = .ok (.iastore, 1) := by decide +kernel
theorem dX8_sound_86 : decode cX8_sound 86 = .ok (.aload_n 0, 1) := by decide +kernel
theorem dX8_sound_87 : decode cX8_sound 87 = .ok (.getfield 26, 3) := by decide +kernel
theorem dX8_sound_90 : decode cX8_sound 90 = .ok (.aload_n 0, 1) := by decide +kernel
theorem dX8_sound_91 : decode cX8_sound 91 = .ok (.getfield 7, 3) := by decide +kernel
theorem dX8_sound_94 : decode cX8_sound 94 = .ok (.iload 4, 2) := by decide +kernel
theorem dX8_sound_96 : decode cX8_sound 96 = .ok (.iastore, 1) := by decide +kernel
theorem dX8_sound_97 : decode cX8_sound 97 = .ok (.iconst 0, 1) := by decide +kernel
theorem dX8_sound_98 : decode cX8_sound 98 = .ok (.istore 5, 2) := by decide +kernel
theorem dX8_sound_100 : decode cX8_sound 100 = .ok (.iload 5, 2) := by decide +kernel
theorem dX8_sound_102 : decode cX8_sound 102 = .ok (.iconst 4, 1) := by decide +kernel
theorem dX8_sound_103 : decode cX8_sound 103 = .ok (.if_icmp .ge 24, 3) := by decide +kernel
theorem dX8_sound_106 : decode cX8_sound 106 = .ok (.aload_n 0, 1) := by decide +kernel
theorem dX8_sound_107 : decode cX8_sound 107 = .ok (.getfield 29, 3) := by decide +kernel
theorem dX8_sound_110 : decode cX8_sound 110 = .ok (.iconst 4, 1) := by decide +kernel
theorem dX8_sound_111 : decode cX8_sound 111 = .ok (.aload_n 0, 1) := by decide +kernel
theorem dX8_sound_112 : decode cX8_sound 112 = .ok (.getfield 7, 3) := by decide +kernel
theorem dX8_sound_115 : decode cX8_sound 115 = .ok (.imul, 1) := by decide +kernel
theorem dX8_sound_116 : decode cX8_sound 116 = .ok (.iload 5, 2) := by decide +kernel
theorem dX8_sound_118 : decode cX8_sound 118 = .ok (.iadd, 1) := by decide +kernel
theorem dX8_sound_119 : decode cX8_sound 119 = .ok (.iconst 0, 1) := by decide +kernel
theorem dX8_sound_120 : decode cX8_sound 120 = .ok (.iastore, 1) := by decide +kernel
theorem dX8_sound_121 : decode cX8_sound 121 = .ok (.iinc 5 1, 3) := by decide +kernel
theorem dX8_sound_124 : decode cX8_sound 124 = .ok (.goto (-24), 3) := by decide +kernel
theorem dX8_sound_127 : decode cX8_sound 127 = .ok (.aload_n 0, 1) := by decide +kernel
theorem dX8_sound_128 : decode cX8_sound 128 = .ok (.dup, 1) := by decide +kernel
theorem dX8_sound_129 : decode cX8_sound 129 = .ok (.getfield 7, 3) := by decide +kernel
theorem dX8_sound_132 : decode cX8_sound 132 = .ok (.iconst 1, 1) := by decide +kernel
theorem dX8_sound_133 : decode cX8_sound 133 = .ok (.iadd, 1) := by decide +kernel
theorem dX8_sound_134 : decode cX8_sound 134 = .ok (.putfield 7, 3) := by decide +kernel
theorem dX8_sound_137 : decode cX8_sound 137 = .ok (.aload_n 0, 1) := by decide +kernel
theorem dX8_sound_138 : decode cX8_sound 138 = .ok (.getfield 7, 3) := by decide +kernel
theorem dX8_sound_141 : decode cX8_sound 141 = .ok (.iconst 1, 1) := by decide +kernel
theorem dX8_sound_142 : decode cX8_sound 142 = .ok (.isub, 1) := by decide +kernel
theorem dX8_sound_143 : decode cX8_sound 143 = .ok (.ireturn, 1) := by decide +kernel
theorem dX8_set_0 : decode cX8_set 0 = .ok (.aload_n 0, 1) := by decide +kernel
theorem dX8_set_1 : decode cX8_set 1 = .ok (.iload_n 1, 1) := by decide +kernel
theorem dX8_set_2 : decode cX8_set 2 = .ok (.invokevirtual 229, 3) := by decide +kernel
theorem dX8_set_5 : decode cX8_set 5 = .ok (.ifCond .ne 5, 3) := by decide +kernel
theorem dX8_set_8 : decode cX8_set 8 = .ok (.iconst (-1), 1) := by decide +kernel
theorem dX8_set_9 : decode cX8_set 9 = .ok (.ireturn, 1) := by decide +kernel
theorem dX8_set_10 : decode cX8_set 10 = .ok (.aload_n 0, 1) := by decide +kernel
theorem dX8_set_11 : decode cX8_set 11 = .ok (.iload_n 2, 1) := by decide +kernel
theorem dX8_set_12 : decode cX8_set 12 = .ok (.invokevirtual 226, 3) := by decide +kernel
theorem dX8_set_15 : decode cX8_set 15 = .ok (.ifCond .ne 6, 3) := by decide +kernel
theorem dX8_set_18 : decode cX8_set 18 = .ok (.bipush (-2), 2) := by decide +kernel
theorem dX8_set_20 : decode cX8_set 20 = .ok (.ireturn, 1) := by decide +kernel
theorem dX8_set_21 : decode cX8_set 21 = .ok (.aload_n 0, 1) := by decide +kernel
theorem dX8_set_22 : decode cX8_set 22 = .ok (.getfield 23, 3) := by decide +kernel
theorem dX8_set_25 : decode cX8_set 25 = .ok (.iload_n 1, 1) := by decide +kernel
theorem dX8_set_26 : decode cX8_set 26 = .ok (.iaload, 1) := by decide +kernel
theorem dX8_set_27 : decode cX8_set 27 = .ok (.istore_n 3, 1) := by decide +kernel
theorem dX8_set_28 : decode cX8_set 28 = .ok (.aload_n 0, 1) := by decide +kernel
theorem dX8_set_29 : decode cX8_set 29 = .ok (.getfield 23, 3) := by decide +kernel
theorem dX8_set_32 : decode cX8_set 32 = .ok (.iload_n 1, 1) := by decide +kernel
theorem dX8_set_33 : decode cX8_set 33 = .ok (.iload_n 2, 1) := by decide +kernel
theorem dX8_set_34 : decode cX8_set 34 = .ok (.iastore, 1) := by decide +kernel
theorem dX8_set_35 : decode cX8_set 35 = .ok (.iload_n 3, 1) := by decide +kernel
theorem dX8_set_36 : decode cX8_set 36 = .ok (.ireturn, 1) := by decide +kernel
theorem dX8_row_0 : decode cX8_row 0 = .ok (.aload_n 0, 1) := by decide +kernel
theorem dX8_row_1 : decode cX8_row 1 = .ok (.iload_n 1, 1) := by decide +kernel
theorem dX8_row_2 : decode cX8_row 2 = .ok (.invokevirtual 229, 3) := by decide +kernel
theorem dX8_row_5 : decode cX8_row 5 = .ok (.ifCond .eq 13, 3) := by decide +kernel
theorem dX8_row_8 : decode cX8_row 8 = .ok (.aload_n 0, 1) := by decide +kernel
theorem dX8_row_9 : decode cX8_row 9 = .ok (.iload_n 2, 1) := by decide +kernel
theorem dX8_row_10 : decode cX8_row 10 = .ok (.iconst 0, 1) := by decide +kernel
theorem dX8_row_11 : decode cX8_row 11 = .ok (.iconst 3, 1) := by decide +kernel
theorem dX8_row_12 : decode cX8_row 12 = .ok (.invokevirtual 218, 3) := by decide +kernel
theorem dX8_row_15 : decode cX8_row 15 = .ok (.ifCond .ne 5, 3) := by decide +kernel
theorem dX8_row_18 : decode cX8_row 18 = .ok (.iconst (-1), 1) := by decide +kernel
theorem dX8_row_19 : decode cX8_row 19 = .ok (.ireturn, 1) := by decide +kernel
theorem dX8_row_20 : decode cX8_row 20 = .ok (.aload_n 0, 1) := by decide +kernel
theorem dX8_row_21 : decode cX8_row 21 = .ok (.iload_n 3, 1) := by decide +kernel
theorem dX8_row_22 : decode cX8_row 22 = .ok (.iconst 0, 1) := by decide +kernel
theorem dX8_row_23 : decode cX8_row 23 = .ok (.bipush 9, 2) := by decide +kernel
theorem dX8_row_25 : decode cX8_row 25 = .ok (.invokevirtual 218, 3) := by decide +kernel
theorem dX8_row_28 : decode cX8_row 28 = .ok (.ifCond .ne 6, 3) := by decide +kernel
theorem dX8_row_31 : decode cX8_row 31 = .ok (.bipush (-2), 2) := by decide +kernel
theorem dX8_row_33 : decode cX8_row 33 = .ok (.ireturn, 1) := by decide +kernel
theorem dX8_row_34 : decode cX8_row 34 = .ok (.aload_n 0, 1) := by decide +kernel
theorem dX8_row_35 : decode cX8_row 35 = .ok (.getfield 16, 3) := by decide +kernel
theorem dX8_row_38 : decode cX8_row 38 = .ok (.iload_n 1, 1) := by decide +kernel
theorem dX8_row_39 : decode cX8_row 39 = .ok (.iaload, 1) := by decide +kernel
theorem dX8_row_40 : decode cX8_row 40 = .ok (.bipush 6, 2) := by decide +kernel
theorem dX8_row_42 : decode cX8_row 42 = .ok (.if_icmp .eq 6, 3) := by decide +kernel
theorem dX8_row_45 : decode cX8_row 45 = .ok (.bipush (-3), 2) := by decide +kernel
theorem dX8_row_47 : decode cX8_row 47 = .ok (.ireturn, 1) := by decide +kernel
theorem dX8_row_48 : decode cX8_row 48 = .ok (.aload_n 0, 1) := by decide +kernel
theorem dX8_row_49 : decode cX8_row 49 = .ok (.getfield 29, 3) := by decide +kernel
theorem dX8_row_52 : decode cX8_row 52 = .ok (.iconst 4, 1) := by decide +kernel
theorem dX8_row_53 : decode cX8_row 53 = .ok (.iload_n 1, 1) := by decide +kernel
theorem dX8_row_54 : decode cX8_row 54 = .ok (.imul, 1) := by decide +kernel
theorem dX8_row_55 : decode cX8_row 55 = .ok (.iload_n 2, 1) := by decide +kernel
theorem dX8_row_56 : decode cX8_row 56 = .ok (.iadd, 1) := by decide +kernel
theorem dX8_row_57 : decode cX8_row 57 = .ok (.iaload, 1) := by decide +kernel
theorem dX8_row_58 : decode cX8_row 58 = .ok (.istore 4, 2) := by decide +kernel
theorem dX8_row_60 : decode cX8_row 60 = .ok (.aload_n 0, 1) := by decide +kernel
theorem dX8_row_61 : decode cX8_row 61 = .ok (.getfield 29, 3) := by decide +kernel
theorem dX8_row_64 : decode cX8_row 64 = .ok (.iconst 4, 1) := by decide +kernel
theorem dX8_row_65 : decode cX8_row 65 = .ok (.iload_n 1, 1) := by decide +kernel
theorem dX8_row_66 : decode cX8_row 66 = .ok (.imul, 1) := by decide +kernel
theorem dX8_row_67 : decode cX8_row 67 = .ok (.iload_n 2, 1) := by decide +kernel
theorem dX8_row_68 : decode cX8_row 68 = .ok (.iadd, 1) := by decide +kernel
theorem dX8_row_69 : decode cX8_row 69 = .ok (.iload_n 3, 1) := by decide +kernel
theorem dX8_row_70 : decode cX8_row 70 = .ok (.iastore, 1) := by decide +kernel
theorem dX8_row_71 : decode cX8_row 71 = .ok (.iload 4, 2) := by decide +kernel
theorem dX8_row_73 : decode cX8_row 73 = .ok (.ireturn, 1) := by decide +kernel
theorem dX8_pass_0 : decode cX8_pass 0 = .ok (.aload_n 0, 1) := by decide +kernel
theorem dX8_pass_1 : decode cX8_pass 1 = .ok (.iload_n 1, 1) := by decide +kernel
theorem dX8_pass_2 : decode cX8_pass 2 = .ok (.invokevirtual 229, 3) := by decide +kernel
theorem dX8_pass_5 : decode cX8_pass 5 = .ok (.ifCond .eq 11, 3) := by decide +kernel
theorem dX8_pass_8 : decode cX8_pass 8 = .ok (.aload_n 0, 1) := by decide +kernel
theorem dX8_pass_9 : decode cX8_pass 9 = .ok (.iload_n 2, 1) := by decide +kernel
theorem dX8_pass_10 : decode cX8_pass 10 = .ok (.invokevirtual 222, 3) := by decide +kernel
theorem dX8_pass_13 : decode cX8_pass 13 = .ok (.ifCond .ne 5, 3) := by decide +kernel
theorem dX8_pass_16 : decode cX8_pass 16 = .ok (.iconst (-1), 1) := by decide +kernel
theorem dX8_pass_17 : decode cX8_pass 17 = .ok (.ireturn, 1) := by decide +kernel
theorem dX8_pass_18 : decode cX8_pass 18 = .ok (.aload_n 0, 1) := by decide +kernel
theorem dX8_pass_19 : decode cX8_pass 19 = .ok (.iload_n 1, 1) := by decide +kernel
theorem dX8_pass_20 : decode cX8_pass 20 = .ok (.invokevirtual 232, 3) := by decide +kernel
theorem dX8_pass_23 : decode cX8_pass 23 = .ok (.ifCond .ne 18, 3) := by decide +kernel
theorem dX8_pass_26 : decode cX8_pass 26 = .ok (.aload_n 0, 1) := by decide +kernel
theorem dX8_pass_27 : decode cX8_pass 27 = .ok (.aload_n 0, 1) := by decide +kernel
theorem dX8_pass_28 : decode cX8_pass 28 = .ok (.getfield 26, 3) := by decide +kernel
theorem dX8_pass_31 : decode cX8_pass 31 = .ok (.iload_n 1, 1) := by decide +kernel
theorem dX8_pass_32 : decode cX8_pass 32 = .ok (.iaload, 1) := by decide +kernel
theorem dX8_pass_33 : decode cX8_pass 33 = .ok (.iload_n 2, 1) := by decide +kernel
theorem dX8_pass_34 : decode cX8_pass 34 = .ok (.invokevirtual 235, 3) := by decide +kernel
theorem dX8_pass_37 : decode cX8_pass 37 = .ok (.iconst 1, 1) := by decide +kernel
theorem dX8_pass_38 : decode cX8_pass 38 = .ok (.if_icmp .eq 6, 3) := by decide +kernel
theorem dX8_pass_41 : decode cX8_pass 41 = .ok (.bipush (-3), 2) := by decide +kernel
theorem dX8_pass_43 : decode cX8_pass 43 = .ok (.ireturn, 1) := by decide +kernel
theorem dX8_pass_44 : decode cX8_pass 44 = .ok (.aload_n 0, 1) := by decide +kernel
theorem dX8_pass_45 : decode cX8_pass 45 = .ok (.getfield 26, 3) := by decide +kernel
theorem dX8_pass_48 : decode cX8_pass 48 = .ok (.iload_n 1, 1) := by decide +kernel
theorem dX8_pass_49 : decode cX8_pass 49 = .ok (.iload_n 2, 1) := by decide +kernel
theorem dX8_pass_50 : decode cX8_pass 50 = .ok (.iastore, 1) := by decide +kernel
theorem dX8_pass_51 : decode cX8_pass 51 = .ok (.aload_n 0, 1) := by decide +kernel
theorem dX8_pass_52 : decode cX8_pass 52 = .ok (.iload_n 2, 1) := by decide +kernel
theorem dX8_pass_53 : decode cX8_pass 53 = .ok (.invokevirtual 239, 3) := by decide +kernel
theorem dX8_pass_56 : decode cX8_pass 56 = .ok (.ireturn, 1) := by decide +kernel
theorem dX8_lose_0 : decode cX8_lose 0 = .ok (.aload_n 0, 1) := by decide +kernel
theorem dX8_lose_1 : decode cX8_lose 1 = .ok (.iload_n 1, 1) := by decide +kernel
theorem dX8_lose_2 : decode cX8_lose 2 = .ok (.invokevirtual 229, 3) := by decide +kernel
theorem dX8_lose_5 : decode cX8_lose 5 = .ok (.ifCond .ne 5, 3) := by decide +kernel
theorem dX8_lose_8 : decode cX8_lose 8 = .ok (.iconst (-1), 1) := by decide +kernel
theorem dX8_lose_9 : decode cX8_lose 9 = .ok (.ireturn, 1) := by decide +kernel
theorem dX8_lose_10 : decode cX8_lose 10 = .ok (.aload_n 0, 1) := by decide +kernel
theorem dX8_lose_11 : decode cX8_lose 11 = .ok (.iload_n 1, 1) := by decide +kernel
theorem dX8_lose_12 : decode cX8_lose 12 = .ok (.invokevirtual 232, 3) := by decide +kernel
theorem dX8_lose_15 : decode cX8_lose 15 = .ok (.ifCond .eq 6, 3) := by decide +kernel
theorem dX8_lose_18 : decode cX8_lose 18 = .ok (.bipush (-3), 2) := by decide +kernel
theorem dX8_lose_20 : decode cX8_lose 20 = .ok (.ireturn, 1) := by decide +kernel
theorem dX8_lose_21 : decode cX8_lose 21 = .ok (.aload_n 0, 1) := by decide +kernel
theorem dX8_lose_22 : decode cX8_lose 22 = .ok (.getfield 26, 3) := by decide +kernel
theorem dX8_lose_25 : decode cX8_lose 25 = .ok (.iload_n 1, 1) := by decide +kernel
theorem dX8_lose_26 : decode cX8_lose 26 = .ok (.iaload, 1) := by decide +kernel
theorem dX8_lose_27 : decode cX8_lose 27 = .ok (.istore_n 2, 1) := by decide +kernel
theorem dX8_lose_28 : decode cX8_lose 28 = .ok (.aload_n 0, 1) := by decide +kernel
theorem dX8_lose_29 : decode cX8_lose 29 = .ok (.getfield 26, 3) := by decide +kernel
theorem dX8_lose_32 : decode cX8_lose 32 = .ok (.iload_n 1, 1) := by decide +kernel
theorem dX8_lose_33 : decode cX8_lose 33 = .ok (.bipush (-5), 2) := by decide +kernel
theorem dX8_lose_35 : decode cX8_lose 35 = .ok (.iastore, 1) := by decide +kernel
theorem dX8_lose_36 : decode cX8_lose 36 = .ok (.iload_n 2, 1) := by decide +kernel
theorem dX8_lose_37 : decode cX8_lose 37 = .ok (.ireturn, 1) := by decide +kernel
theorem dX8_find_0 : decode cX8_find 0 = .ok (.aload_n 0, 1) := by decide +kernel
theorem dX8_find_1 : decode cX8_find 1 = .ok (.iload_n 1, 1) := by decide +kernel
theorem dX8_find_2 : decode cX8_find 2 = .ok (.invokevirtual 229, 3) := by decide +kernel
theorem dX8_find_5 : decode cX8_find 5 = .ok (.ifCond .eq 11, 3) := by decide +kernel
theorem dX8_find_8 : decode cX8_find 8 = .ok (.aload_n 0, 1) := by decide +kernel
theorem dX8_find_9 : decode cX8_find 9 = .ok (.iload_n 2, 1) := by decide +kernel
theorem dX8_find_10 : decode cX8_find 10 = .ok (.invokevirtual 222, 3) := by decide +kernel
theorem dX8_find_13 : decode cX8_find 13 = .ok (.ifCond .ne 5, 3) := by decide +kernel
theorem dX8_find_16 : decode cX8_find 16 = .ok (.iconst (-1), 1) := by decide +kernel
theorem dX8_find_17 : decode cX8_find 17 = .ok (.ireturn, 1) := by decide +kernel
theorem dX8_find_18 : decode cX8_find 18 = .ok (.aload_n 0, 1) := by decide +kernel
theorem dX8_find_19 : decode cX8_find 19 = .ok (.iload_n 1, 1) := by decide +kernel
theorem dX8_find_20 : decode cX8_find 20 = .ok (.invokevirtual 232, 3) := by decide +kernel
theorem dX8_find_23 : decode cX8_find 23 = .ok (.ifCond .ne 6, 3) := by decide +kernel
theorem dX8_find_26 : decode cX8_find 26 = .ok (.bipush (-3), 2) := by decide +kernel
theorem dX8_find_28 : decode cX8_find 28 = .ok (.ireturn, 1) := by decide +kernel
theorem dX8_find_29 : decode cX8_find 29 = .ok (.aload_n 0, 1) := by decide +kernel
theorem dX8_find_30 : decode cX8_find 30 = .ok (.getfield 26, 3) := by decide +kernel
theorem dX8_find_33 : decode cX8_find 33 = .ok (.iload_n 1, 1) := by decide +kernel
theorem dX8_find_34 : decode cX8_find 34 = .ok (.iload_n 2, 1) := by decide +kernel
theorem dX8_find_35 : decode cX8_find 35 = .ok (.iastore, 1) := by decide +kernel
theorem dX8_find_36 : decode cX8_find 36 = .ok (.aload_n 0, 1) := by decide +kernel
theorem dX8_find_37 : decode cX8_find 37 = .ok (.iload_n 2, 1) := by decide +kernel
theorem dX8_find_38 : decode cX8_find 38 = .ok (.invokevirtual 239, 3) := by decide +kernel
theorem dX8_find_41 : decode cX8_find 41 = .ok (.ireturn, 1) := by decide +kernel
theorem dX8_feed_0 : decode cX8_feed 0 = .ok (.aload_n 0, 1) := by decide +kernel
theorem dX8_feed_1 : decode cX8_feed 1 = .ok (.iload_n 1, 1) := by decide +kernel
theorem dX8_feed_2 : decode cX8_feed 2 = .ok (.iconst 0, 1) := by decide +kernel
theorem dX8_feed_3 : decode cX8_feed 3 = .ok (.bipush 127, 2) := by decide +kernel
theorem dX8_feed_5 : decode cX8_feed 5 = .ok (.invokevirtual 218, 3) := by decide +kernel
theorem dX8_feed_8 : decode cX8_feed 8 = .ok (.ifCond .ne 6, 3) := by decide +kernel
theorem dX8_feed_11 : decode cX8_feed 11 = .ok (.bipush (-2), 2) := by decide +kernel
theorem dX8_feed_13 : decode cX8_feed 13 = .ok (.ireturn, 1) := by decide +kernel
theorem dX8_feed_14 : decode cX8_feed 14 = .ok (.aload_n 0, 1) := by decide +kernel
theorem dX8_feed_15 : decode cX8_feed 15 = .ok (.getfield 38, 3) := by decide +kernel
theorem dX8_feed_18 : decode cX8_feed 18 = .ok (.bipush 100, 2) := by decide +kernel
theorem dX8_feed_20 : decode cX8_feed 20 = .ok (.if_icmp .ne 6, 3) := by decide +kernel
theorem dX8_feed_23 : decode cX8_feed 23 = .ok (.bipush (-4), 2) := by decide +kernel
theorem dX8_feed_25 : decode cX8_feed 25 = .ok (.ireturn, 1) := by decide +kernel
theorem dX8_feed_26 : decode cX8_feed 26 = .ok (.aload_n 0, 1) := by decide +kernel
theorem dX8_feed_27 : decode cX8_feed 27 = .ok (.getfield 47, 3) := by decide +kernel
theorem dX8_feed_30 : decode cX8_feed 30 = .ok (.aload_n 0, 1) := by decide +kernel
theorem dX8_feed_31 : decode cX8_feed 31 = .ok (.getfield 38, 3) := by decide +kernel
theorem dX8_feed_34 : decode cX8_feed 34 = .ok (.iload_n 1, 1) := by decide +kernel
theorem dX8_feed_35 : decode cX8_feed 35 = .ok (.iastore, 1) := by decide +kernel
theorem dX8_feed_36 : decode cX8_feed 36 = .ok (.aload_n 0, 1) := by decide +kernel
theorem dX8_feed_37 : decode cX8_feed 37 = .ok (.dup, 1) := by decide +kernel
theorem dX8_feed_38 : decode cX8_feed 38 = .ok (.getfield 38, 3) := by decide +kernel
theorem dX8_feed_41 : decode cX8_feed 41 = .ok (.iconst 1, 1) := by decide +kernel
theorem dX8_feed_42 : decode cX8_feed 42 = .ok (.iadd, 1) := by decide +kernel
theorem dX8_feed_43 : decode cX8_feed 43 = .ok (.putfield 38, 3) := by decide +kernel
theorem dX8_feed_46 : decode cX8_feed 46 = .ok (.aload_n 0, 1) := by decide +kernel
theorem dX8_feed_47 : decode cX8_feed 47 = .ok (.getfield 38, 3) := by decide +kernel
theorem dX8_feed_50 : decode cX8_feed 50 = .ok (.ireturn, 1) := by decide +kernel
theorem dX8_next_0 : decode cX8_next 0 = .ok (.aload_n 0, 1) := by decide +kernel
theorem dX8_next_1 : decode cX8_next 1 = .ok (.getfield 41, 3) := by decide +kernel
theorem dX8_next_4 : decode cX8_next 4 = .ok (.aload_n 0, 1) := by decide +kernel
theorem dX8_next_5 : decode cX8_next 5 = .ok (.getfield 38, 3) := by decide +kernel
theorem dX8_next_8 : decode cX8_next 8 = .ok (.if_icmp .ge 15, 3) := by decide +kernel
theorem dX8_next_11 : decode cX8_next 11 = .ok (.aload_n 0, 1) := by decide +kernel
theorem dX8_next_12 : decode cX8_next 12 = .ok (.getfield 47, 3) := by decide +kernel
theorem dX8_next_15 : decode cX8_next 15 = .ok (.aload_n 0, 1) := by decide +kernel
theorem dX8_next_16 : decode cX8_next 16 = .ok (.getfield 41, 3) := by decide +kernel
theorem dX8_next_19 : decode cX8_next 19 = .ok (.iaload, 1) := by decide +kernel
theorem dX8_next_20 : decode cX8_next 20 = .ok (.goto 4, 3) := by decide +kernel
theorem dX8_next_23 : decode cX8_next 23 = .ok (.iconst (-1), 1) := by decide +kernel
theorem dX8_next_24 : decode cX8_next 24 = .ok (.ireturn, 1) := by decide +kernel
theorem dX8_second_0 : decode cX8_second 0 = .ok (.aload_n 0, 1) := by decide +kernel
theorem dX8_second_1 : decode cX8_second 1 = .ok (.getfield 41, 3) := by decide +kernel
theorem dX8_second_4 : decode cX8_second 4 = .ok (.iconst 1, 1) := by decide +kernel
theorem dX8_second_5 : decode cX8_second 5 = .ok (.iadd, 1) := by decide +kernel
theorem dX8_second_6 : decode cX8_second 6 = .ok (.aload_n 0, 1) := by decide +kernel
theorem dX8_second_7 : decode cX8_second 7 = .ok (.getfield 38, 3) := by decide +kernel
theorem dX8_second_10 : decode cX8_second 10 = .ok (.if_icmp .ge 17, 3) := by decide +kernel
theorem dX8_second_13 : decode cX8_second 13 = .ok (.aload_n 0, 1) := by decide +kernel
theorem dX8_second_14 : decode cX8_second 14 = .ok (.getfield 47, 3) := by decide +kernel
theorem dX8_second_17 : decode cX8_second 17 = .ok (.aload_n 0, 1) := by decide +kernel
theorem dX8_second_18 : decode cX8_second 18 = .ok (.getfield 41, 3) := by decide +kernel
theorem dX8_second_21 : decode cX8_second 21 = .ok (.iconst 1, 1) := by decide +kernel
theorem dX8_second_22 : decode cX8_second 22 = .ok (.iadd, 1) := by decide +kernel
theorem dX8_second_23 : decode cX8_second 23 = .ok (.iaload, 1) := by decide +kernel
theorem dX8_second_24 : decode cX8_second 24 = .ok (.goto 4, 3) := by decide +kernel
theorem dX8_second_27 : decode cX8_second 27 = .ok (.iconst (-1), 1) := by decide +kernel
theorem dX8_second_28 : decode cX8_second 28 = .ok (.ireturn, 1) := by decide +kernel
theorem dX8_takes_0 : decode cX8_takes 0 = .ok (.aload_n 0, 1) := by decide +kernel
theorem dX8_takes_1 : decode cX8_takes 1 = .ok (.invokevirtual 243, 3) := by decide +kernel
theorem dX8_takes_4 : decode cX8_takes 4 = .ok (.iload_n 1, 1) := by decide +kernel
theorem dX8_takes_5 : decode cX8_takes 5 = .ok (.if_icmp .eq 5, 3) := by decide +kernel
theorem dX8_takes_8 : decode cX8_takes 8 = .ok (.iconst 0, 1) := by decide +kernel
theorem dX8_takes_9 : decode cX8_takes 9 = .ok (.ireturn, 1) := by decide +kernel
theorem dX8_takes_10 : decode cX8_takes 10 = .ok (.aload_n 0, 1) := by decide +kernel
theorem dX8_takes_11 : decode cX8_takes 11 = .ok (.dup, 1) := by decide +kernel
theorem dX8_takes_12 : decode cX8_takes 12 = .ok (.getfield 41, 3) := by decide +kernel
theorem dX8_takes_15 : decode cX8_takes 15 = .ok (.iconst 1, 1) := by decide +kernel
theorem dX8_takes_16 : decode cX8_takes 16 = .ok (.iadd, 1) := by decide +kernel
theorem dX8_takes_17 : decode cX8_takes 17 = .ok (.putfield 41, 3) := by decide +kernel
theorem dX8_takes_20 : decode cX8_takes 20 = .ok (.iconst 1, 1) := by decide +kernel
theorem dX8_takes_21 : decode cX8_takes 21 = .ok (.ireturn, 1) := by decide +kernel
theorem dX8_takesWord_0 : decode cX8_takesWord 0 = .ok (.iconst 0, 1) := by decide +kernel
theorem dX8_takesWord_1 : decode cX8_takesWord 1 = .ok (.istore_n 3, 1) := by decide +kernel
theorem dX8_takesWord_2 : decode cX8_takesWord 2 = .ok (.iload_n 3, 1) := by decide +kernel
theorem dX8_takesWord_3 : decode cX8_takesWord 3 = .ok (.iload_n 2, 1) := by decide +kernel
theorem dX8_takesWord_4 : decode cX8_takesWord 4 = .ok (.if_icmp .ge 26, 3) := by decide +kernel
theorem dX8_takesWord_7 : decode cX8_takesWord 7 = .ok (.aload_n 0, 1) := by decide +kernel
theorem dX8_takesWord_8 : decode cX8_takesWord 8 = .ok (.aload_n 0, 1) := by decide +kernel
theorem dX8_takesWord_9 : decode cX8_takesWord 9 = .ok (.getfield 80, 3) := by decide +kernel
theorem dX8_takesWord_12 : decode cX8_takesWord 12 = .ok (.iload_n 1, 1) := by decide +kernel
theorem dX8_takesWord_13 : decode cX8_takesWord 13 = .ok (.iload_n 3, 1) := by decide +kernel
theorem dX8_takesWord_14 : decode cX8_takesWord 14 = .ok (.iadd, 1) := by decide +kernel
theorem dX8_takesWord_15 : decode cX8_takesWord 15 = .ok (.iaload, 1) := by decide +kernel
theorem dX8_takesWord_16 : decode cX8_takesWord 16 = .ok (.invokevirtual 247, 3) := by decide +kernel
theorem dX8_takesWord_19 : decode cX8_takesWord 19 = .ok (.ifCond .ne 5, 3) := by decide +kernel
theorem dX8_takesWord_22 : decode cX8_takesWord 22 = .ok (.iconst 0, 1) := by decide +kernel
theorem dX8_takesWord_23 : decode cX8_takesWord 23 = .ok (.ireturn, 1) := by decide +kernel
theorem dX8_takesWord_24 : decode cX8_takesWord 24 = .ok (.iinc 3 1, 3) := by decide +kernel
theorem dX8_takesWord_27 : decode cX8_takesWord 27 = .ok (.goto (-25), 3) := by decide +kernel
theorem dX8_takesWord_30 : decode cX8_takesWord 30 = .ok (.aload_n 0, 1) := by decide +kernel
theorem dX8_takesWord_31 : decode cX8_takesWord 31 = .ok (.bipush 32, 2) := by decide +kernel
theorem dX8_takesWord_33 : decode cX8_takesWord 33 = .ok (.invokevirtual 247, 3) := by decide +kernel
theorem dX8_takesWord_36 : decode cX8_takesWord 36 = .ok (.ireturn, 1) := by decide +kernel
theorem dX8_isDigit_0 : decode cX8_isDigit 0 = .ok (.aload_n 0, 1) := by decide +kernel
theorem dX8_isDigit_1 : decode cX8_isDigit 1 = .ok (.aload_n 0, 1) := by decide +kernel
theorem dX8_isDigit_2 : decode cX8_isDigit 2 = .ok (.invokevirtual 243, 3) := by decide +kernel
theorem dX8_isDigit_5 : decode cX8_isDigit 5 = .ok (.bipush 48, 2) := by decide +kernel
theorem dX8_isDigit_7 : decode cX8_isDigit 7 = .ok (.bipush 57, 2) := by decide +kernel
theorem dX8_isDigit_9 : decode cX8_isDigit 9 = .ok (.invokevirtual 218, 3) := by decide +kernel
theorem dX8_isDigit_12 : decode cX8_isDigit 12 = .ok (.ireturn, 1) := by decide +kernel
theorem dX8_takesNumber_0 : decode cX8_takesNumber 0 = .ok (.aload_n 0, 1) := by decide +kernel
theorem dX8_takesNumber_1 : decode cX8_takesNumber 1 = .ok (.invokevirtual 250, 3) := by decide +kernel
theorem dX8_takesNumber_4 : decode cX8_takesNumber 4 = .ok (.ifCond .ne 5, 3) := by decide +kernel
theorem dX8_takesNumber_7 : decode cX8_takesNumber 7 = .ok (.iconst 0, 1) := by decide +kernel
theorem dX8_takesNumber_8 : decode cX8_takesNumber 8 = .ok (.ireturn, 1) := by decide +kernel
theorem dX8_takesNumber_9 : decode cX8_takesNumber 9 = .ok (.aload_n 0, 1) := by decide +kernel
theorem dX8_takesNumber_10 : decode cX8_takesNumber 10 = .ok (.iconst 0, 1) := by decide +kernel
theorem dX8_takesNumber_11 : decode cX8_takesNumber 11 = .ok (.putfield 44, 3) := by decide +kernel
theorem dX8_takesNumber_14 : decode cX8_takesNumber 14 = .ok (.iconst 0, 1) := by decide +kernel
theorem dX8_takesNumber_15 : decode cX8_takesNumber 15 = .ok (.istore_n 1, 1) := by decide +kernel
theorem dX8_takesNumber_16 : decode cX8_takesNumber 16 = .ok (.iload_n 1, 1) := by decide +kernel
theorem dX8_takesNumber_17 : decode cX8_takesNumber 17 = .ok (.iconst 2, 1) := by decide +kernel
theorem dX8_takesNumber_18 : decode cX8_takesNumber 18 = .ok (.if_icmp .ge 45, 3) := by decide +kernel
theorem dX8_takesNumber_21 : decode cX8_takesNumber 21 = .ok (.aload_n 0, 1) := by decide +kernel
theorem dX8_takesNumber_22 : decode cX8_takesNumber 22 = .ok (.invokevirtual 250, 3) := by decide +kernel
theorem dX8_takesNumber_25 : decode cX8_takesNumber 25 = .ok (.ifCond .eq 38, 3) := by decide +kernel
theorem dX8_takesNumber_28 : decode cX8_takesNumber 28 = .ok (.aload_n 0, 1) := by decide +kernel
theorem dX8_takesNumber_29 : decode cX8_takesNumber 29 = .ok (.bipush 10, 2) := by decide +kernel
theorem dX8_takesNumber_31 : decode cX8_takesNumber 31 = .ok (.aload_n 0, 1) := by decide +kernel
theorem dX8_takesNumber_32 : decode cX8_takesNumber 32 = .ok (.getfield 44, 3) := by decide +kernel
theorem dX8_takesNumber_35 : decode cX8_takesNumber 35 = .ok (.imul, 1) := by decide +kernel
theorem dX8_takesNumber_36 : decode cX8_takesNumber 36 = .ok (.aload_n 0, 1) := by decide +kernel
theorem dX8_takesNumber_37 : decode cX8_takesNumber 37 = .ok (.invokevirtual 243, 3) := by decide +kernel
theorem dX8_takesNumber_40 : decode cX8_takesNumber 40 = .ok (.iadd, 1) := by decide +kernel
theorem dX8_takesNumber_41 : decode cX8_takesNumber 41 = .ok (.bipush 48, 2) := by decide +kernel
theorem dX8_takesNumber_43 : decode cX8_takesNumber 43 = .ok (.isub, 1) := by decide +kernel
theorem dX8_takesNumber_44 : decode cX8_takesNumber 44 = .ok (.putfield 44, 3) := by decide +kernel
theorem dX8_takesNumber_47 : decode cX8_takesNumber 47 = .ok (.aload_n 0, 1) := by decide +kernel
theorem dX8_takesNumber_48 : decode cX8_takesNumber 48 = .ok (.dup, 1) := by decide +kernel
theorem dX8_takesNumber_49 : decode cX8_takesNumber 49 = .ok (.getfield 41, 3) := by decide +kernel
theorem dX8_takesNumber_52 : decode cX8_takesNumber 52 = .ok (.iconst 1, 1) := by decide +kernel
theorem dX8_takesNumber_53 : decode cX8_takesNumber 53 = .ok (.iadd, 1) := by decide +kernel
theorem dX8_takesNumber_54 : decode cX8_takesNumber 54 = .ok (.putfield 41, 3) := by decide +kernel
theorem dX8_takesNumber_57 : decode cX8_takesNumber 57 = .ok (.iinc 1 1, 3) := by decide +kernel
theorem dX8_takesNumber_60 : decode cX8_takesNumber 60 = .ok (.goto (-44), 3) := by decide +kernel
theorem dX8_takesNumber_63 : decode cX8_takesNumber 63 = .ok (.iconst 1, 1) := by decide +kernel
theorem dX8_takesNumber_64 : decode cX8_takesNumber 64 = .ok (.ireturn, 1) := by decide +kernel
theorem dX8_emits_0 : decode cX8_emits 0 = .ok (.aload_n 0, 1) := by decide +kernel
theorem dX8_emits_1 : decode cX8_emits 1 = .ok (.getfield 65, 3) := by decide +kernel
theorem dX8_emits_4 : decode cX8_emits 4 = .ok (.aload_n 0, 1) := by decide +kernel
theorem dX8_emits_5 : decode cX8_emits 5 = .ok (.getfield 71, 3) := by decide +kernel
theorem dX8_emits_8 : decode cX8_emits 8 = .ok (.iload_n 1, 1) := by decide +kernel
theorem dX8_emits_9 : decode cX8_emits 9 = .ok (.iastore, 1) := by decide +kernel
theorem dX8_emits_10 : decode cX8_emits 10 = .ok (.aload_n 0, 1) := by decide +kernel
theorem dX8_emits_11 : decode cX8_emits 11 = .ok (.dup, 1) := by decide +kernel
theorem dX8_emits_12 : decode cX8_emits 12 = .ok (.getfield 71, 3) := by decide +kernel
theorem dX8_emits_15 : decode cX8_emits 15 = .ok (.iconst 1, 1) := by decide +kernel
theorem dX8_emits_16 : decode cX8_emits 16 = .ok (.iadd, 1) := by decide +kernel
theorem dX8_emits_17 : decode cX8_emits 17 = .ok (.putfield 71, 3) := by decide +kernel
theorem dX8_emits_20 : decode cX8_emits 20 = .ok (.return_, 1) := by decide +kernel
theorem dX8_whole_0 : decode cX8_whole 0 = .ok (.aload_n 0, 1) := by decide +kernel
theorem dX8_whole_1 : decode cX8_whole 1 = .ok (.getfield 74, 3) := by decide +kernel
theorem dX8_whole_4 : decode cX8_whole 4 = .ok (.ifCond .le 48, 3) := by decide +kernel
theorem dX8_whole_7 : decode cX8_whole 7 = .ok (.aload_n 0, 1) := by decide +kernel
theorem dX8_whole_8 : decode cX8_whole 8 = .ok (.getfield 68, 3) := by decide +kernel
theorem dX8_whole_11 : decode cX8_whole 11 = .ok (.aload_n 0, 1) := by decide +kernel
theorem dX8_whole_12 : decode cX8_whole 12 = .ok (.getfield 74, 3) := by decide +kernel
theorem dX8_whole_15 : decode cX8_whole 15 = .ok (.iconst 1, 1) := by decide +kernel
theorem dX8_whole_16 : decode cX8_whole 16 = .ok (.isub, 1) := by decide +kernel
theorem dX8_whole_17 : decode cX8_whole 17 = .ok (.iaload, 1) := by decide +kernel
theorem dX8_whole_18 : decode cX8_whole 18 = .ok (.bipush 33, 2) := by decide +kernel
theorem dX8_whole_20 : decode cX8_whole 20 = .ok (.if_icmp .ne 32, 3) := by decide +kernel
theorem dX8_whole_23 : decode cX8_whole 23 = .ok (.aload_n 0, 1) := by decide +kernel
theorem dX8_whole_24 : decode cX8_whole 24 = .ok (.bipush (-33), 2) := by decide +kernel
theorem dX8_whole_26 : decode cX8_whole 26 = .ok (.invokevirtual 254, 3) := by decide +kernel
theorem dX8_whole_29 : decode cX8_whole 29 = .ok (.aload_n 0, 1) := by decide +kernel
theorem dX8_whole_30 : decode cX8_whole 30 = .ok (.dup, 1) := by decide +kernel
theorem dX8_whole_31 : decode cX8_whole 31 = .ok (.getfield 74, 3) := by decide +kernel
theorem dX8_whole_34 : decode cX8_whole 34 = .ok (.iconst 1, 1) := by decide +kernel
theorem dX8_whole_35 : decode cX8_whole 35 = .ok (.isub, 1) := by decide +kernel
theorem dX8_whole_36 : decode cX8_whole 36 = .ok (.putfield 74, 3) := by decide +kernel
theorem dX8_whole_39 : decode cX8_whole 39 = .ok (.aload_n 0, 1) := by decide +kernel
theorem dX8_whole_40 : decode cX8_whole 40 = .ok (.dup, 1) := by decide +kernel
theorem dX8_whole_41 : decode cX8_whole 41 = .ok (.getfield 77, 3) := by decide +kernel
theorem dX8_whole_44 : decode cX8_whole 44 = .ok (.iconst 1, 1) := by decide +kernel
theorem dX8_whole_45 : decode cX8_whole 45 = .ok (.isub, 1) := by decide +kernel
theorem dX8_whole_46 : decode cX8_whole 46 = .ok (.putfield 77, 3) := by decide +kernel
theorem dX8_whole_49 : decode cX8_whole 49 = .ok (.goto (-49), 3) := by decide +kernel
theorem dX8_whole_52 : decode cX8_whole 52 = .ok (.return_, 1) := by decide +kernel
theorem dX8_settle_0 : decode cX8_settle 0 = .ok (.aload_n 0, 1) := by decide +kernel
theorem dX8_settle_1 : decode cX8_settle 1 = .ok (.getfield 74, 3) := by decide +kernel
theorem dX8_settle_4 : decode cX8_settle 4 = .ok (.ifCond .le 68, 3) := by decide +kernel
theorem dX8_settle_7 : decode cX8_settle 7 = .ok (.aload_n 0, 1) := by decide +kernel
theorem dX8_settle_8 : decode cX8_settle 8 = .ok (.getfield 68, 3) := by decide +kernel
theorem dX8_settle_11 : decode cX8_settle 11 = .ok (.aload_n 0, 1) := by decide +kernel
theorem dX8_settle_12 : decode cX8_settle 12 = .ok (.getfield 74, 3) := by decide +kernel
theorem dX8_settle_15 : decode cX8_settle 15 = .ok (.iconst 1, 1) := by decide +kernel
theorem dX8_settle_16 : decode cX8_settle 16 = .ok (.isub, 1) := by decide +kernel
theorem dX8_settle_17 : decode cX8_settle 17 = .ok (.iaload, 1) := by decide +kernel
theorem dX8_settle_18 : decode cX8_settle 18 = .ok (.bipush 38, 2) := by decide +kernel
theorem dX8_settle_20 : decode cX8_settle 20 = .ok (.if_icmp .eq 25, 3) := by decide +kernel
theorem dX8_settle_23 : decode cX8_settle 23 = .ok (.aload_n 0, 1) := by decide +kernel
theorem dX8_settle_24 : decode cX8_settle 24 = .ok (.getfield 68, 3) := by decide +kernel
theorem dX8_settle_27 : decode cX8_settle 27 = .ok (.aload_n 0, 1) := by decide +kernel
theorem dX8_settle_28 : decode cX8_settle 28 = .ok (.getfield 74, 3) := by decide +kernel
theorem dX8_settle_31 : decode cX8_settle 31 = .ok (.iconst 1, 1) := by decide +kernel
theorem dX8_settle_32 : decode cX8_settle 32 = .ok (.isub, 1) := by decide +kernel
theorem dX8_settle_33 : decode cX8_settle 33 = .ok (.iaload, 1) := by decide +kernel
theorem dX8_settle_34 : decode cX8_settle 34 = .ok (.bipush 124, 2) := by decide +kernel
theorem dX8_settle_36 : decode cX8_settle 36 = .ok (.if_icmp .ne 36, 3) := by decide +kernel
theorem dX8_settle_39 : decode cX8_settle 39 = .ok (.iload_n 1, 1) := by decide +kernel
theorem dX8_settle_40 : decode cX8_settle 40 = .ok (.bipush 38, 2) := by decide +kernel
theorem dX8_settle_42 : decode cX8_settle 42 = .ok (.if_icmp .eq 30, 3) := by decide +kernel
theorem dX8_settle_45 : decode cX8_settle 45 = .ok (.aload_n 0, 1) := by decide +kernel
theorem dX8_settle_46 : decode cX8_settle 46 = .ok (.dup, 1) := by decide +kernel
theorem dX8_settle_47 : decode cX8_settle 47 = .ok (.getfield 74, 3) := by decide +kernel
theorem dX8_settle_50 : decode cX8_settle 50 = .ok (.iconst 1, 1) := by decide +kernel
theorem dX8_settle_51 : decode cX8_settle 51 = .ok (.isub, 1) := by decide +kernel
theorem dX8_settle_52 : decode cX8_settle 52 = .ok (.putfield 74, 3) := by decide +kernel
theorem dX8_settle_55 : decode cX8_settle 55 = .ok (.aload_n 0, 1) := by decide +kernel
theorem dX8_settle_56 : decode cX8_settle 56 = .ok (.aload_n 0, 1) := by decide +kernel
theorem dX8_settle_57 : decode cX8_settle 57 = .ok (.getfield 68, 3) := by decide +kernel
theorem dX8_settle_60 : decode cX8_settle 60 = .ok (.aload_n 0, 1) := by decide +kernel
theorem dX8_settle_61 : decode cX8_settle 61 = .ok (.getfield 74, 3) := by decide +kernel
theorem dX8_settle_64 : decode cX8_settle 64 = .ok (.iaload, 1) := by decide +kernel
theorem dX8_settle_65 : decode cX8_settle 65 = .ok (.ineg, 1) := by decide +kernel
theorem dX8_settle_66 : decode cX8_settle 66 = .ok (.invokevirtual 254, 3) := by decide +kernel
theorem dX8_settle_69 : decode cX8_settle 69 = .ok (.goto (-69), 3) := by decide +kernel
theorem dX8_settle_72 : decode cX8_settle 72 = .ok (.return_, 1) := by decide +kernel
theorem dX8_place_0 : decode cX8_place 0 = .ok (.iload_n 1, 1) := by decide +kernel
theorem dX8_place_1 : decode cX8_place 1 = .ok (.tableswitch 99 104 121 #[89, 99, 99, 91, 95, 99, 99, 99, 99, 99, 99, 87, 99, 99, 93, 99, 99, 97], 87) := by decide +kernel
theorem dX8_place_88 : decode cX8_place 88 = .ok (.iconst 0, 1) := by decide +kernel
theorem dX8_place_89 : decode cX8_place 89 = .ok (.ireturn, 1) := by decide +kernel
theorem dX8_place_90 : decode cX8_place 90 = .ok (.iconst 1, 1) := by decide +kernel
theorem dX8_place_91 : decode cX8_place 91 = .ok (.ireturn, 1) := by decide +kernel
theorem dX8_place_92 : decode cX8_place 92 = .ok (.iconst 2, 1) := by decide +kernel
theorem dX8_place_93 : decode cX8_place 93 = .ok (.ireturn, 1) := by decide +kernel
theorem dX8_place_94 : decode cX8_place 94 = .ok (.iconst 3, 1) := by decide +kernel
theorem dX8_place_95 : decode cX8_place 95 = .ok (.ireturn, 1) := by decide +kernel
theorem dX8_place_96 : decode cX8_place 96 = .ok (.iconst 4, 1) := by decide +kernel
theorem dX8_place_97 : decode cX8_place 97 = .ok (.ireturn, 1) := by decide +kernel
theorem dX8_place_98 : decode cX8_place 98 = .ok (.iconst 5, 1) := by decide +kernel
theorem dX8_place_99 : decode cX8_place 99 = .ok (.ireturn, 1) := by decide +kernel
theorem dX8_place_100 : decode cX8_place 100 = .ok (.iconst (-1), 1) := by decide +kernel
theorem dX8_place_101 : decode cX8_place 101 = .ok (.ireturn, 1) := by decide +kernel
theorem dX8_takesTest_0 : decode cX8_takesTest 0 = .ok (.aload_n 0, 1) := by decide +kernel
theorem dX8_takesTest_1 : decode cX8_takesTest 1 = .ok (.aload_n 0, 1) := by decide +kernel
theorem dX8_takesTest_2 : decode cX8_takesTest 2 = .ok (.invokevirtual 243, 3) := by decide +kernel
theorem dX8_takesTest_5 : decode cX8_takesTest 5 = .ok (.invokevirtual 258, 3) := by decide +kernel
theorem dX8_takesTest_8 : decode cX8_takesTest 8 = .ok (.istore_n 1, 1) := by decide +kernel
theorem dX8_takesTest_9 : decode cX8_takesTest 9 = .ok (.iload_n 1, 1) := by decide +kernel
theorem dX8_takesTest_10 : decode cX8_takesTest 10 = .ok (.ifCond .ge 5, 3) := by decide +kernel
theorem dX8_takesTest_13 : decode cX8_takesTest 13 = .ok (.iconst 0, 1) := by decide +kernel
theorem dX8_takesTest_14 : decode cX8_takesTest 14 = .ok (.ireturn, 1) := by decide +kernel
theorem dX8_takesTest_15 : decode cX8_takesTest 15 = .ok (.aload_n 0, 1) := by decide +kernel
theorem dX8_takesTest_16 : decode cX8_takesTest 16 = .ok (.dup, 1) := by decide +kernel
theorem dX8_takesTest_17 : decode cX8_takesTest 17 = .ok (.getfield 41, 3) := by decide +kernel
theorem dX8_takesTest_20 : decode cX8_takesTest 20 = .ok (.iconst 1, 1) := by decide +kernel
theorem dX8_takesTest_21 : decode cX8_takesTest 21 = .ok (.iadd, 1) := by decide +kernel
theorem dX8_takesTest_22 : decode cX8_takesTest 22 = .ok (.putfield 41, 3) := by decide +kernel
theorem dX8_takesTest_25 : decode cX8_takesTest 25 = .ok (.aload_n 0, 1) := by decide +kernel
theorem dX8_takesTest_26 : decode cX8_takesTest 26 = .ok (.invokevirtual 243, 3) := by decide +kernel
theorem dX8_takesTest_29 : decode cX8_takesTest 29 = .ok (.istore_n 2, 1) := by decide +kernel
theorem dX8_takesTest_30 : decode cX8_takesTest 30 = .ok (.aload_n 0, 1) := by decide +kernel
theorem dX8_takesTest_31 : decode cX8_takesTest 31 = .ok (.iload_n 2, 1) := by decide +kernel
theorem dX8_takesTest_32 : decode cX8_takesTest 32 = .ok (.bipush 60, 2) := by decide +kernel
theorem dX8_takesTest_34 : decode cX8_takesTest 34 = .ok (.bipush 62, 2) := by decide +kernel
theorem dX8_takesTest_36 : decode cX8_takesTest 36 = .ok (.invokevirtual 218, 3) := by decide +kernel
theorem dX8_takesTest_39 : decode cX8_takesTest 39 = .ok (.ifCond .ne 5, 3) := by decide +kernel
theorem dX8_takesTest_42 : decode cX8_takesTest 42 = .ok (.iconst 0, 1) := by decide +kernel
theorem dX8_takesTest_43 : decode cX8_takesTest 43 = .ok (.ireturn, 1) := by decide +kernel
theorem dX8_takesTest_44 : decode cX8_takesTest 44 = .ok (.aload_n 0, 1) := by decide +kernel
theorem dX8_takesTest_45 : decode cX8_takesTest 45 = .ok (.dup, 1) := by decide +kernel
theorem dX8_takesTest_46 : decode cX8_takesTest 46 = .ok (.getfield 41, 3) := by decide +kernel
theorem dX8_takesTest_49 : decode cX8_takesTest 49 = .ok (.iconst 1, 1) := by decide +kernel
theorem dX8_takesTest_50 : decode cX8_takesTest 50 = .ok (.iadd, 1) := by decide +kernel
theorem dX8_takesTest_51 : decode cX8_takesTest 51 = .ok (.putfield 41, 3) := by decide +kernel
theorem dX8_takesTest_54 : decode cX8_takesTest 54 = .ok (.aload_n 0, 1) := by decide +kernel
theorem dX8_takesTest_55 : decode cX8_takesTest 55 = .ok (.invokevirtual 261, 3) := by decide +kernel
theorem dX8_takesTest_58 : decode cX8_takesTest 58 = .ok (.ifCond .ne 5, 3) := by decide +kernel
theorem dX8_takesTest_61 : decode cX8_takesTest 61 = .ok (.iconst 0, 1) := by decide +kernel
theorem dX8_takesTest_62 : decode cX8_takesTest 62 = .ok (.ireturn, 1) := by decide +kernel
theorem dX8_takesTest_63 : decode cX8_takesTest 63 = .ok (.aload_n 0, 1) := by decide +kernel
theorem dX8_takesTest_64 : decode cX8_takesTest 64 = .ok (.sipush 1000, 3) := by decide +kernel
theorem dX8_takesTest_67 : decode cX8_takesTest 67 = .ok (.iload_n 1, 1) := by decide +kernel
theorem dX8_takesTest_68 : decode cX8_takesTest 68 = .ok (.imul, 1) := by decide +kernel
theorem dX8_takesTest_69 : decode cX8_takesTest 69 = .ok (.bipush 100, 2) := by decide +kernel
theorem dX8_takesTest_71 : decode cX8_takesTest 71 = .ok (.iload_n 2, 1) := by decide +kernel
theorem dX8_takesTest_72 : decode cX8_takesTest 72 = .ok (.bipush 60, 2) := by decide +kernel
theorem dX8_takesTest_74 : decode cX8_takesTest 74 = .ok (.isub, 1) := by decide +kernel
theorem dX8_takesTest_75 : decode cX8_takesTest 75 = .ok (.imul, 1) := by decide +kernel
theorem dX8_takesTest_76 : decode cX8_takesTest 76 = .ok (.iadd, 1) := by decide +kernel
theorem dX8_takesTest_77 : decode cX8_takesTest 77 = .ok (.aload_n 0, 1) := by decide +kernel
theorem dX8_takesTest_78 : decode cX8_takesTest 78 = .ok (.getfield 44, 3) := by decide +kernel
theorem dX8_takesTest_81 : decode cX8_takesTest 81 = .ok (.iadd, 1) := by decide +kernel
theorem dX8_takesTest_82 : decode cX8_takesTest 82 = .ok (.invokevirtual 254, 3) := by decide +kernel
theorem dX8_takesTest_85 : decode cX8_takesTest 85 = .ok (.aload_n 0, 1) := by decide +kernel
theorem dX8_takesTest_86 : decode cX8_takesTest 86 = .ok (.invokevirtual 264, 3) := by decide +kernel
theorem dX8_takesTest_89 : decode cX8_takesTest 89 = .ok (.iconst 1, 1) := by decide +kernel
theorem dX8_takesTest_90 : decode cX8_takesTest 90 = .ok (.ireturn, 1) := by decide +kernel
theorem dX8_takesE_0 : decode cX8_takesE 0 = .ok (.aload_n 0, 1) := by decide +kernel
theorem dX8_takesE_1 : decode cX8_takesE 1 = .ok (.iconst 0, 1) := by decide +kernel
theorem dX8_takesE_2 : decode cX8_takesE 2 = .ok (.putfield 74, 3) := by decide +kernel
theorem dX8_takesE_5 : decode cX8_takesE 5 = .ok (.aload_n 0, 1) := by decide +kernel
theorem dX8_takesE_6 : decode cX8_takesE 6 = .ok (.iconst 0, 1) := by decide +kernel
theorem dX8_takesE_7 : decode cX8_takesE 7 = .ok (.putfield 77, 3) := by decide +kernel
theorem dX8_takesE_10 : decode cX8_takesE 10 = .ok (.aload_n 0, 1) := by decide +kernel
theorem dX8_takesE_11 : decode cX8_takesE 11 = .ok (.getfield 59, 3) := by decide +kernel
theorem dX8_takesE_14 : decode cX8_takesE 14 = .ok (.iload_n 1, 1) := by decide +kernel
theorem dX8_takesE_15 : decode cX8_takesE 15 = .ok (.aload_n 0, 1) := by decide +kernel
theorem dX8_takesE_16 : decode cX8_takesE 16 = .ok (.getfield 71, 3) := by decide +kernel
theorem dX8_takesE_19 : decode cX8_takesE 19 = .ok (.iastore, 1) := by decide +kernel
theorem dX8_takesE_20 : decode cX8_takesE 20 = .ok (.iconst 1, 1) := by decide +kernel
theorem dX8_takesE_21 : decode cX8_takesE 21 = .ok (.istore_n 2, 1) := by decide +kernel
theorem dX8_takesE_22 : decode cX8_takesE 22 = .ok (.aload_n 0, 1) := by decide +kernel
theorem dX8_takesE_23 : decode cX8_takesE 23 = .ok (.invokevirtual 243, 3) := by decide +kernel
theorem dX8_takesE_26 : decode cX8_takesE 26 = .ok (.istore_n 3, 1) := by decide +kernel
theorem dX8_takesE_27 : decode cX8_takesE 27 = .ok (.iload_n 2, 1) := by decide +kernel
theorem dX8_takesE_28 : decode cX8_takesE 28 = .ok (.ifCond .eq 82, 3) := by decide +kernel
theorem dX8_takesE_31 : decode cX8_takesE 31 = .ok (.iload_n 3, 1) := by decide +kernel
theorem dX8_takesE_32 : decode cX8_takesE 32 = .ok (.bipush 33, 2) := by decide +kernel
theorem dX8_takesE_34 : decode cX8_takesE 34 = .ok (.if_icmp .eq 9, 3) := by decide +kernel
theorem dX8_takesE_37 : decode cX8_takesE 37 = .ok (.iload_n 3, 1) := by decide +kernel
theorem dX8_takesE_38 : decode cX8_takesE 38 = .ok (.bipush 40, 2) := by decide +kernel
theorem dX8_takesE_40 : decode cX8_takesE 40 = .ok (.if_icmp .ne 56, 3) := by decide +kernel
theorem dX8_takesE_43 : decode cX8_takesE 43 = .ok (.aload_n 0, 1) := by decide +kernel
theorem dX8_takesE_44 : decode cX8_takesE 44 = .ok (.getfield 77, 3) := by decide +kernel
theorem dX8_takesE_47 : decode cX8_takesE 47 = .ok (.iconst 4, 1) := by decide +kernel
theorem dX8_takesE_48 : decode cX8_takesE 48 = .ok (.if_icmp .ne 5, 3) := by decide +kernel
theorem dX8_takesE_51 : decode cX8_takesE 51 = .ok (.iconst 0, 1) := by decide +kernel
theorem dX8_takesE_52 : decode cX8_takesE 52 = .ok (.ireturn, 1) := by decide +kernel
theorem dX8_takesE_53 : decode cX8_takesE 53 = .ok (.aload_n 0, 1) := by decide +kernel
theorem dX8_takesE_54 : decode cX8_takesE 54 = .ok (.dup, 1) := by decide +kernel
theorem dX8_takesE_55 : decode cX8_takesE 55 = .ok (.getfield 77, 3) := by decide +kernel
theorem dX8_takesE_58 : decode cX8_takesE 58 = .ok (.iconst 1, 1) := by decide +kernel
theorem dX8_takesE_59 : decode cX8_takesE 59 = .ok (.iadd, 1) := by decide +kernel
theorem dX8_takesE_60 : decode cX8_takesE 60 = .ok (.putfield 77, 3) := by decide +kernel
theorem dX8_takesE_63 : decode cX8_takesE 63 = .ok (.aload_n 0, 1) := by decide +kernel
theorem dX8_takesE_64 : decode cX8_takesE 64 = .ok (.getfield 68, 3) := by decide +kernel
theorem dX8_takesE_67 : decode cX8_takesE 67 = .ok (.aload_n 0, 1) := by decide +kernel
theorem dX8_takesE_68 : decode cX8_takesE 68 = .ok (.getfield 74, 3) := by decide +kernel
theorem dX8_takesE_71 : decode cX8_takesE 71 = .ok (.iload_n 3, 1) := by decide +kernel
theorem dX8_takesE_72 : decode cX8_takesE 72 = .ok (.iastore, 1) := by decide +kernel
theorem dX8_takesE_73 : decode cX8_takesE 73 = .ok (.aload_n 0, 1) := by decide +kernel
theorem dX8_takesE_74 : decode cX8_takesE 74 = .ok (.dup, 1) := by decide +kernel
theorem dX8_takesE_75 : decode cX8_takesE 75 = .ok (.getfield 74, 3) := by decide +kernel
theorem dX8_takesE_78 : decode cX8_takesE 78 = .ok (.iconst 1, 1) := by decide +kernel
theorem dX8_takesE_79 : decode cX8_takesE 79 = .ok (.iadd, 1) := by decide +kernel
theorem dX8_takesE_80 : decode cX8_takesE 80 = .ok (.putfield 74, 3) := by decide +kernel
theorem dX8_takesE_83 : decode cX8_takesE 83 = .ok (.aload_n 0, 1) := by decide +kernel
theorem dX8_takesE_84 : decode cX8_takesE 84 = .ok (.dup, 1) := by decide +kernel
theorem dX8_takesE_85 : decode cX8_takesE 85 = .ok (.getfield 41, 3) := by decide +kernel
theorem dX8_takesE_88 : decode cX8_takesE 88 = .ok (.iconst 1, 1) := by decide +kernel
theorem dX8_takesE_89 : decode cX8_takesE 89 = .ok (.iadd, 1) := by decide +kernel
theorem dX8_takesE_90 : decode cX8_takesE 90 = .ok (.putfield 41, 3) := by decide +kernel
theorem dX8_takesE_93 : decode cX8_takesE 93 = .ok (.goto (-71), 3) := by decide +kernel
theorem dX8_takesE_96 : decode cX8_takesE 96 = .ok (.aload_n 0, 1) := by decide +kernel
theorem dX8_takesE_97 : decode cX8_takesE 97 = .ok (.invokevirtual 267, 3) := by decide +kernel
theorem dX8_takesE_100 : decode cX8_takesE 100 = .ok (.ifCond .eq 8, 3) := by decide +kernel
theorem dX8_takesE_103 : decode cX8_takesE 103 = .ok (.iconst 0, 1) := by decide +kernel
theorem dX8_takesE_104 : decode cX8_takesE 104 = .ok (.istore_n 2, 1) := by decide +kernel
theorem dX8_takesE_105 : decode cX8_takesE 105 = .ok (.goto (-83), 3) := by decide +kernel
theorem dX8_takesE_108 : decode cX8_takesE 108 = .ok (.iconst 0, 1) := by decide +kernel
theorem dX8_takesE_109 : decode cX8_takesE 109 = .ok (.ireturn, 1) := by decide +kernel
theorem dX8_takesE_110 : decode cX8_takesE 110 = .ok (.iload_n 3, 1) := by decide +kernel
theorem dX8_takesE_111 : decode cX8_takesE 111 = .ok (.bipush 38, 2) := by decide +kernel
theorem dX8_takesE_113 : decode cX8_takesE 113 = .ok (.if_icmp .eq 9, 3) := by decide +kernel
theorem dX8_takesE_116 : decode cX8_takesE 116 = .ok (.iload_n 3, 1) := by decide +kernel
theorem dX8_takesE_117 : decode cX8_takesE 117 = .ok (.bipush 124, 2) := by decide +kernel
theorem dX8_takesE_119 : decode cX8_takesE 119 = .ok (.if_icmp .ne 43, 3) := by decide +kernel
theorem dX8_takesE_122 : decode cX8_takesE 122 = .ok (.aload_n 0, 1) := by decide +kernel
theorem dX8_takesE_123 : decode cX8_takesE 123 = .ok (.iload_n 3, 1) := by decide +kernel
theorem dX8_takesE_124 : decode cX8_takesE 124 = .ok (.invokevirtual 270, 3) := by decide +kernel
theorem dX8_takesE_127 : decode cX8_takesE 127 = .ok (.aload_n 0, 1) := by decide +kernel
theorem dX8_takesE_128 : decode cX8_takesE 128 = .ok (.getfield 68, 3) := by decide +kernel
theorem dX8_takesE_131 : decode cX8_takesE 131 = .ok (.aload_n 0, 1) := by decide +kernel
theorem dX8_takesE_132 : decode cX8_takesE 132 = .ok (.getfield 74, 3) := by decide +kernel
theorem dX8_takesE_135 : decode cX8_takesE 135 = .ok (.iload_n 3, 1) := by decide +kernel
theorem dX8_takesE_136 : decode cX8_takesE 136 = .ok (.iastore, 1) := by decide +kernel
theorem dX8_takesE_137 : decode cX8_takesE 137 = .ok (.aload_n 0, 1) := by decide +kernel
theorem dX8_takesE_138 : decode cX8_takesE 138 = .ok (.dup, 1) := by decide +kernel
theorem dX8_takesE_139 : decode cX8_takesE 139 = .ok (.getfield 74, 3) := by decide +kernel
theorem dX8_takesE_142 : decode cX8_takesE 142 = .ok (.iconst 1, 1) := by decide +kernel
theorem dX8_takesE_143 : decode cX8_takesE 143 = .ok (.iadd, 1) := by decide +kernel
theorem dX8_takesE_144 : decode cX8_takesE 144 = .ok (.putfield 74, 3) := by decide +kernel
theorem dX8_takesE_147 : decode cX8_takesE 147 = .ok (.iconst 1, 1) := by decide +kernel
theorem dX8_takesE_148 : decode cX8_takesE 148 = .ok (.istore_n 2, 1) := by decide +kernel
theorem dX8_takesE_149 : decode cX8_takesE 149 = .ok (.aload_n 0, 1) := by decide +kernel
theorem dX8_takesE_150 : decode cX8_takesE 150 = .ok (.dup, 1) := by decide +kernel
theorem dX8_takesE_151 : decode cX8_takesE 151 = .ok (.getfield 41, 3) := by decide +kernel
theorem dX8_takesE_154 : decode cX8_takesE 154 = .ok (.iconst 1, 1) := by decide +kernel
theorem dX8_takesE_155 : decode cX8_takesE 155 = .ok (.iadd, 1) := by decide +kernel
theorem dX8_takesE_156 : decode cX8_takesE 156 = .ok (.putfield 41, 3) := by decide +kernel
theorem dX8_takesE_159 : decode cX8_takesE 159 = .ok (.goto (-137), 3) := by decide +kernel
theorem dX8_takesE_162 : decode cX8_takesE 162 = .ok (.aload_n 0, 1) := by decide +kernel
theorem dX8_takesE_163 : decode cX8_takesE 163 = .ok (.bipush 124, 2) := by decide +kernel
theorem dX8_takesE_165 : decode cX8_takesE 165 = .ok (.invokevirtual 270, 3) := by decide +kernel
theorem dX8_takesE_168 : decode cX8_takesE 168 = .ok (.aload_n 0, 1) := by decide +kernel
theorem dX8_takesE_169 : decode cX8_takesE 169 = .ok (.getfield 62, 3) := by decide +kernel
theorem dX8_takesE_172 : decode cX8_takesE 172 = .ok (.iload_n 1, 1) := by decide +kernel
theorem dX8_takesE_173 : decode cX8_takesE 173 = .ok (.aload_n 0, 1) := by decide +kernel
theorem dX8_takesE_174 : decode cX8_takesE 174 = .ok (.getfield 71, 3) := by decide +kernel
theorem dX8_takesE_177 : decode cX8_takesE 177 = .ok (.iastore, 1) := by decide +kernel
theorem dX8_takesE_178 : decode cX8_takesE 178 = .ok (.aload_n 0, 1) := by decide +kernel
theorem dX8_takesE_179 : decode cX8_takesE 179 = .ok (.getfield 74, 3) := by decide +kernel
theorem dX8_takesE_182 : decode cX8_takesE 182 = .ok (.ifCond .ne 5, 3) := by decide +kernel
theorem dX8_takesE_185 : decode cX8_takesE 185 = .ok (.iconst 1, 1) := by decide +kernel
theorem dX8_takesE_186 : decode cX8_takesE 186 = .ok (.ireturn, 1) := by decide +kernel
theorem dX8_takesE_187 : decode cX8_takesE 187 = .ok (.iload_n 3, 1) := by decide +kernel
theorem dX8_takesE_188 : decode cX8_takesE 188 = .ok (.bipush 41, 2) := by decide +kernel
theorem dX8_takesE_190 : decode cX8_takesE 190 = .ok (.if_icmp .eq 5, 3) := by decide +kernel
theorem dX8_takesE_193 : decode cX8_takesE 193 = .ok (.iconst 0, 1) := by decide +kernel
theorem dX8_takesE_194 : decode cX8_takesE 194 = .ok (.ireturn, 1) := by decide +kernel
theorem dX8_takesE_195 : decode cX8_takesE 195 = .ok (.aload_n 0, 1) := by decide +kernel
theorem dX8_takesE_196 : decode cX8_takesE 196 = .ok (.dup, 1) := by decide +kernel
theorem dX8_takesE_197 : decode cX8_takesE 197 = .ok (.getfield 74, 3) := by decide +kernel
theorem dX8_takesE_200 : decode cX8_takesE 200 = .ok (.iconst 1, 1) := by decide +kernel
theorem dX8_takesE_201 : decode cX8_takesE 201 = .ok (.isub, 1) := by decide +kernel
theorem dX8_takesE_202 : decode cX8_takesE 202 = .ok (.putfield 74, 3) := by decide +kernel
theorem dX8_takesE_205 : decode cX8_takesE 205 = .ok (.aload_n 0, 1) := by decide +kernel
theorem dX8_takesE_206 : decode cX8_takesE 206 = .ok (.dup, 1) := by decide +kernel
theorem dX8_takesE_207 : decode cX8_takesE 207 = .ok (.getfield 77, 3) := by decide +kernel
theorem dX8_takesE_210 : decode cX8_takesE 210 = .ok (.iconst 1, 1) := by decide +kernel
theorem dX8_takesE_211 : decode cX8_takesE 211 = .ok (.isub, 1) := by decide +kernel
theorem dX8_takesE_212 : decode cX8_takesE 212 = .ok (.putfield 77, 3) := by decide +kernel
theorem dX8_takesE_215 : decode cX8_takesE 215 = .ok (.aload_n 0, 1) := by decide +kernel
theorem dX8_takesE_216 : decode cX8_takesE 216 = .ok (.dup, 1) := by decide +kernel
theorem dX8_takesE_217 : decode cX8_takesE 217 = .ok (.getfield 41, 3) := by decide +kernel
theorem dX8_takesE_220 : decode cX8_takesE 220 = .ok (.iconst 1, 1) := by decide +kernel
theorem dX8_takesE_221 : decode cX8_takesE 221 = .ok (.iadd, 1) := by decide +kernel
theorem dX8_takesE_222 : decode cX8_takesE 222 = .ok (.putfield 41, 3) := by decide +kernel
theorem dX8_takesE_225 : decode cX8_takesE 225 = .ok (.aload_n 0, 1) := by decide +kernel
theorem dX8_takesE_226 : decode cX8_takesE 226 = .ok (.invokevirtual 264, 3) := by decide +kernel
theorem dX8_takesE_229 : decode cX8_takesE 229 = .ok (.goto (-207), 3) := by decide +kernel
theorem dX8_takesHead_0 : decode cX8_takesHead 0 = .ok (.aload_n 0, 1) := by decide +kernel
theorem dX8_takesHead_1 : decode cX8_takesHead 1 = .ok (.invokevirtual 243, 3) := by decide +kernel
theorem dX8_takesHead_4 : decode cX8_takesHead 4 = .ok (.lookupswitch 79 #[(99, 64), (108, 36), (115, 50)], 36) := by decide +kernel
theorem dX8_takesHead_40 : decode cX8_takesHead 40 = .ok (.aload_n 0, 1) := by decide +kernel
theorem dX8_takesHead_41 : decode cX8_takesHead 41 = .ok (.getfield 53, 3) := by decide +kernel
theorem dX8_takesHead_44 : decode cX8_takesHead 44 = .ok (.iload_n 1, 1) := by decide +kernel
theorem dX8_takesHead_45 : decode cX8_takesHead 45 = .ok (.iconst 0, 1) := by decide +kernel
theorem dX8_takesHead_46 : decode cX8_takesHead 46 = .ok (.iastore, 1) := by decide +kernel
theorem dX8_takesHead_47 : decode cX8_takesHead 47 = .ok (.aload_n 0, 1) := by decide +kernel
theorem dX8_takesHead_48 : decode cX8_takesHead 48 = .ok (.iconst 0, 1) := by decide +kernel
theorem dX8_takesHead_49 : decode cX8_takesHead 49 = .ok (.iconst 4, 1) := by decide +kernel
theorem dX8_takesHead_50 : decode cX8_takesHead 50 = .ok (.invokevirtual 273, 3) := by decide +kernel
theorem dX8_takesHead_53 : decode cX8_takesHead 53 = .ok (.ireturn, 1) := by decide +kernel
theorem dX8_takesHead_54 : decode cX8_takesHead 54 = .ok (.aload_n 0, 1) := by decide +kernel
theorem dX8_takesHead_55 : decode cX8_takesHead 55 = .ok (.getfield 53, 3) := by decide +kernel
theorem dX8_takesHead_58 : decode cX8_takesHead 58 = .ok (.iload_n 1, 1) := by decide +kernel
theorem dX8_takesHead_59 : decode cX8_takesHead 59 = .ok (.iconst 1, 1) := by decide +kernel
theorem dX8_takesHead_60 : decode cX8_takesHead 60 = .ok (.iastore, 1) := by decide +kernel
theorem dX8_takesHead_61 : decode cX8_takesHead 61 = .ok (.aload_n 0, 1) := by decide +kernel
theorem dX8_takesHead_62 : decode cX8_takesHead 62 = .ok (.iconst 4, 1) := by decide +kernel
theorem dX8_takesHead_63 : decode cX8_takesHead 63 = .ok (.iconst 4, 1) := by decide +kernel
theorem dX8_takesHead_64 : decode cX8_takesHead 64 = .ok (.invokevirtual 273, 3) := by decide +kernel
theorem dX8_takesHead_67 : decode cX8_takesHead 67 = .ok (.ireturn, 1) := by decide +kernel
theorem dX8_takesHead_68 : decode cX8_takesHead 68 = .ok (.aload_n 0, 1) := by decide +kernel
theorem dX8_takesHead_69 : decode cX8_takesHead 69 = .ok (.getfield 53, 3) := by decide +kernel
theorem dX8_takesHead_72 : decode cX8_takesHead 72 = .ok (.iload_n 1, 1) := by decide +kernel
theorem dX8_takesHead_73 : decode cX8_takesHead 73 = .ok (.iconst 3, 1) := by decide +kernel
theorem dX8_takesHead_74 : decode cX8_takesHead 74 = .ok (.iastore, 1) := by decide +kernel
theorem dX8_takesHead_75 : decode cX8_takesHead 75 = .ok (.aload_n 0, 1) := by decide +kernel
theorem dX8_takesHead_76 : decode cX8_takesHead 76 = .ok (.bipush 12, 2) := by decide +kernel
theorem dX8_takesHead_78 : decode cX8_takesHead 78 = .ok (.iconst 4, 1) := by decide +kernel
theorem dX8_takesHead_79 : decode cX8_takesHead 79 = .ok (.invokevirtual 273, 3) := by decide +kernel
theorem dX8_takesHead_82 : decode cX8_takesHead 82 = .ok (.ireturn, 1) := by decide +kernel
theorem dX8_takesHead_83 : decode cX8_takesHead 83 = .ok (.aload_n 0, 1) := by decide +kernel
theorem dX8_takesHead_84 : decode cX8_takesHead 84 = .ok (.getfield 53, 3) := by decide +kernel
theorem dX8_takesHead_87 : decode cX8_takesHead 87 = .ok (.iload_n 1, 1) := by decide +kernel
theorem dX8_takesHead_88 : decode cX8_takesHead 88 = .ok (.aload_n 0, 1) := by decide +kernel
theorem dX8_takesHead_89 : decode cX8_takesHead 89 = .ok (.invokevirtual 277, 3) := by decide +kernel
theorem dX8_takesHead_92 : decode cX8_takesHead 92 = .ok (.bipush 101, 2) := by decide +kernel
theorem dX8_takesHead_94 : decode cX8_takesHead 94 = .ok (.if_icmp .ne 7, 3) := by decide +kernel
theorem dX8_takesHead_97 : decode cX8_takesHead 97 = .ok (.iconst 4, 1) := by decide +kernel
theorem dX8_takesHead_98 : decode cX8_takesHead 98 = .ok (.goto 4, 3) := by decide +kernel
theorem dX8_takesHead_101 : decode cX8_takesHead 101 = .ok (.iconst 2, 1) := by decide +kernel
theorem dX8_takesHead_102 : decode cX8_takesHead 102 = .ok (.iastore, 1) := by decide +kernel
theorem dX8_takesHead_103 : decode cX8_takesHead 103 = .ok (.aload_n 0, 1) := by decide +kernel
theorem dX8_takesHead_104 : decode cX8_takesHead 104 = .ok (.getfield 53, 3) := by decide +kernel
theorem dX8_takesHead_107 : decode cX8_takesHead 107 = .ok (.iload_n 1, 1) := by decide +kernel
theorem dX8_takesHead_108 : decode cX8_takesHead 108 = .ok (.iaload, 1) := by decide +kernel
theorem dX8_takesHead_109 : decode cX8_takesHead 109 = .ok (.iconst 4, 1) := by decide +kernel
theorem dX8_takesHead_110 : decode cX8_takesHead 110 = .ok (.if_icmp .ne 13, 3) := by decide +kernel
theorem dX8_takesHead_113 : decode cX8_takesHead 113 = .ok (.aload_n 0, 1) := by decide +kernel
theorem dX8_takesHead_114 : decode cX8_takesHead 114 = .ok (.bipush 16, 2) := by decide +kernel
theorem dX8_takesHead_116 : decode cX8_takesHead 116 = .ok (.iconst 4, 1) := by decide +kernel
theorem dX8_takesHead_117 : decode cX8_takesHead 117 = .ok (.invokevirtual 273, 3) := by decide +kernel
theorem dX8_takesHead_120 : decode cX8_takesHead 120 = .ok (.goto 10, 3) := by decide +kernel
theorem dX8_takesHead_123 : decode cX8_takesHead 123 = .ok (.aload_n 0, 1) := by decide +kernel
theorem dX8_takesHead_124 : decode cX8_takesHead 124 = .ok (.bipush 8, 2) := by decide +kernel
theorem dX8_takesHead_126 : decode cX8_takesHead 126 = .ok (.iconst 4, 1) := by decide +kernel
theorem dX8_takesHead_127 : decode cX8_takesHead 127 = .ok (.invokevirtual 273, 3) := by decide +kernel
theorem dX8_takesHead_130 : decode cX8_takesHead 130 = .ok (.ireturn, 1) := by decide +kernel
theorem dX8_takesClause_0 : decode cX8_takesClause 0 = .ok (.aload_n 0, 1) := by decide +kernel
theorem dX8_takesClause_1 : decode cX8_takesClause 1 = .ok (.iload_n 1, 1) := by decide +kernel
theorem dX8_takesClause_2 : decode cX8_takesClause 2 = .ok (.invokevirtual 280, 3) := by decide +kernel
theorem dX8_takesClause_5 : decode cX8_takesClause 5 = .ok (.ifCond .eq 10, 3) := by decide +kernel
theorem dX8_takesClause_8 : decode cX8_takesClause 8 = .ok (.aload_n 0, 1) := by decide +kernel
theorem dX8_takesClause_9 : decode cX8_takesClause 9 = .ok (.invokevirtual 261, 3) := by decide +kernel
theorem dX8_takesClause_12 : decode cX8_takesClause 12 = .ok (.ifCond .ne 5, 3) := by decide +kernel
theorem dX8_takesClause_15 : decode cX8_takesClause 15 = .ok (.iconst 0, 1) := by decide +kernel
theorem dX8_takesClause_16 : decode cX8_takesClause 16 = .ok (.ireturn, 1) := by decide +kernel
theorem dX8_takesClause_17 : decode cX8_takesClause 17 = .ok (.aload_n 0, 1) := by decide +kernel
theorem dX8_takesClause_18 : decode cX8_takesClause 18 = .ok (.getfield 56, 3) := by decide +kernel
theorem dX8_takesClause_21 : decode cX8_takesClause 21 = .ok (.iload_n 1, 1) := by decide +kernel
theorem dX8_takesClause_22 : decode cX8_takesClause 22 = .ok (.aload_n 0, 1) := by decide +kernel
theorem dX8_takesClause_23 : decode cX8_takesClause 23 = .ok (.getfield 44, 3) := by decide +kernel
theorem dX8_takesClause_26 : decode cX8_takesClause 26 = .ok (.iastore, 1) := by decide +kernel
theorem dX8_takesClause_27 : decode cX8_takesClause 27 = .ok (.aload_n 0, 1) := by decide +kernel
theorem dX8_takesClause_28 : decode cX8_takesClause 28 = .ok (.getfield 53, 3) := by decide +kernel
theorem dX8_takesClause_31 : decode cX8_takesClause 31 = .ok (.iload_n 1, 1) := by decide +kernel
theorem dX8_takesClause_32 : decode cX8_takesClause 32 = .ok (.iaload, 1) := by decide +kernel
theorem dX8_takesClause_33 : decode cX8_takesClause 33 = .ok (.iconst 2, 1) := by decide +kernel
theorem dX8_takesClause_34 : decode cX8_takesClause 34 = .ok (.if_icmp .ge 20, 3) := by decide +kernel
theorem dX8_takesClause_37 : decode cX8_takesClause 37 = .ok (.aload_n 0, 1) := by decide +kernel
theorem dX8_takesClause_38 : decode cX8_takesClause 38 = .ok (.bipush 32, 2) := by decide +kernel
theorem dX8_takesClause_40 : decode cX8_takesClause 40 = .ok (.invokevirtual 247, 3) := by decide +kernel
theorem dX8_takesClause_43 : decode cX8_takesClause 43 = .ok (.ifCond .eq 15, 3) := by decide +kernel
theorem dX8_takesClause_46 : decode cX8_takesClause 46 = .ok (.aload_n 0, 1) := by decide +kernel
theorem dX8_takesClause_47 : decode cX8_takesClause 47 = .ok (.iload_n 1, 1) := by decide +kernel
theorem dX8_takesClause_48 : decode cX8_takesClause 48 = .ok (.invokevirtual 283, 3) := by decide +kernel
theorem dX8_takesClause_51 : decode cX8_takesClause 51 = .ok (.ifCond .eq 7, 3) := by decide +kernel
theorem dX8_takesClause_54 : decode cX8_takesClause 54 = .ok (.iconst 1, 1) := by decide +kernel
theorem dX8_takesClause_55 : decode cX8_takesClause 55 = .ok (.goto 4, 3) := by decide +kernel
theorem dX8_takesClause_58 : decode cX8_takesClause 58 = .ok (.iconst 0, 1) := by decide +kernel
theorem dX8_takesClause_59 : decode cX8_takesClause 59 = .ok (.ireturn, 1) := by decide +kernel
theorem dX8_goesText_0 : decode cX8_goesText 0 = .ok (.aload_n 0, 1) := by decide +kernel
theorem dX8_goesText_1 : decode cX8_goesText 1 = .ok (.iconst 0, 1) := by decide +kernel
theorem dX8_goesText_2 : decode cX8_goesText 2 = .ok (.putfield 41, 3) := by decide +kernel
theorem dX8_goesText_5 : decode cX8_goesText 5 = .ok (.aload_n 0, 1) := by decide +kernel
theorem dX8_goesText_6 : decode cX8_goesText 6 = .ok (.bipush 100, 2) := by decide +kernel
theorem dX8_goesText_8 : decode cX8_goesText 8 = .ok (.iload_n 1, 1) := by decide +kernel
theorem dX8_goesText_9 : decode cX8_goesText 9 = .ok (.imul, 1) := by decide +kernel
theorem dX8_goesText_10 : decode cX8_goesText 10 = .ok (.putfield 71, 3) := by decide +kernel
theorem dX8_goesText_13 : decode cX8_goesText 13 = .ok (.iconst 0, 1) := by decide +kernel
theorem dX8_goesText_14 : decode cX8_goesText 14 = .ok (.istore_n 2, 1) := by decide +kernel
theorem dX8_goesText_15 : decode cX8_goesText 15 = .ok (.aload_n 0, 1) := by decide +kernel
theorem dX8_goesText_16 : decode cX8_goesText 16 = .ok (.bipush 10, 2) := by decide +kernel
theorem dX8_goesText_18 : decode cX8_goesText 18 = .ok (.iload_n 1, 1) := by decide +kernel
theorem dX8_goesText_19 : decode cX8_goesText 19 = .ok (.imul, 1) := by decide +kernel
theorem dX8_goesText_20 : decode cX8_goesText 20 = .ok (.iload_n 2, 1) := by decide +kernel
theorem dX8_goesText_21 : decode cX8_goesText 21 = .ok (.iadd, 1) := by decide +kernel
theorem dX8_goesText_22 : decode cX8_goesText 22 = .ok (.invokevirtual 286, 3) := by decide +kernel
theorem dX8_goesText_25 : decode cX8_goesText 25 = .ok (.ifCond .ne 5, 3) := by decide +kernel
theorem dX8_goesText_28 : decode cX8_goesText 28 = .ok (.iconst 0, 1) := by decide +kernel
theorem dX8_goesText_29 : decode cX8_goesText 29 = .ok (.ireturn, 1) := by decide +kernel
theorem dX8_goesText_30 : decode cX8_goesText 30 = .ok (.iinc 2 1, 3) := by decide +kernel
theorem dX8_goesText_33 : decode cX8_goesText 33 = .ok (.aload_n 0, 1) := by decide +kernel
theorem dX8_goesText_34 : decode cX8_goesText 34 = .ok (.getfield 50, 3) := by decide +kernel
theorem dX8_goesText_37 : decode cX8_goesText 37 = .ok (.iload_n 1, 1) := by decide +kernel
theorem dX8_goesText_38 : decode cX8_goesText 38 = .ok (.iload_n 2, 1) := by decide +kernel
theorem dX8_goesText_39 : decode cX8_goesText 39 = .ok (.iastore, 1) := by decide +kernel
theorem dX8_goesText_40 : decode cX8_goesText 40 = .ok (.aload_n 0, 1) := by decide +kernel
theorem dX8_goesText_41 : decode cX8_goesText 41 = .ok (.getfield 41, 3) := by decide +kernel
theorem dX8_goesText_44 : decode cX8_goesText 44 = .ok (.aload_n 0, 1) := by decide +kernel
theorem dX8_goesText_45 : decode cX8_goesText 45 = .ok (.getfield 38, 3) := by decide +kernel
theorem dX8_goesText_48 : decode cX8_goesText 48 = .ok (.if_icmp .ne 5, 3) := by decide +kernel
theorem dX8_goesText_51 : decode cX8_goesText 51 = .ok (.iconst 1, 1) := by decide +kernel
theorem dX8_goesText_52 : decode cX8_goesText 52 = .ok (.ireturn, 1) := by decide +kernel
theorem dX8_goesText_53 : decode cX8_goesText 53 = .ok (.iload_n 2, 1) := by decide +kernel
theorem dX8_goesText_54 : decode cX8_goesText 54 = .ok (.bipush 10, 2) := by decide +kernel
theorem dX8_goesText_56 : decode cX8_goesText 56 = .ok (.if_icmp .eq 12, 3) := by decide +kernel
theorem dX8_goesText_59 : decode cX8_goesText 59 = .ok (.aload_n 0, 1) := by decide +kernel
theorem dX8_goesText_60 : decode cX8_goesText 60 = .ok (.bipush 59, 2) := by decide +kernel
theorem dX8_goesText_62 : decode cX8_goesText 62 = .ok (.invokevirtual 247, 3) := by decide +kernel
theorem dX8_goesText_65 : decode cX8_goesText 65 = .ok (.ifCond .ne (-50), 3) := by decide +kernel
theorem dX8_goesText_68 : decode cX8_goesText 68 = .ok (.iconst 0, 1) := by decide +kernel
theorem dX8_goesText_69 : decode cX8_goesText 69 = .ok (.ireturn, 1) := by decide +kernel
theorem dX8_street_0 : decode cX8_street 0 = .ok (.aload_n 0, 1) := by decide +kernel
theorem dX8_street_1 : decode cX8_street 1 = .ok (.getfield 32, 3) := by decide +kernel
theorem dX8_street_4 : decode cX8_street 4 = .ok (.bipush 6, 2) := by decide +kernel
theorem dX8_street_6 : decode cX8_street 6 = .ok (.if_icmp .ne 6, 3) := by decide +kernel
theorem dX8_street_9 : decode cX8_street 9 = .ok (.bipush (-4), 2) := by decide +kernel
theorem dX8_street_11 : decode cX8_street 11 = .ok (.ireturn, 1) := by decide +kernel
theorem dX8_street_12 : decode cX8_street 12 = .ok (.aload_n 0, 1) := by decide +kernel
theorem dX8_street_13 : decode cX8_street 13 = .ok (.aload_n 0, 1) := by decide +kernel
theorem dX8_street_14 : decode cX8_street 14 = .ok (.getfield 32, 3) := by decide +kernel
theorem dX8_street_17 : decode cX8_street 17 = .ok (.invokevirtual 289, 3) := by decide +kernel
theorem dX8_street_20 : decode cX8_street 20 = .ok (.istore_n 1, 1) := by decide +kernel
theorem dX8_street_21 : decode cX8_street 21 = .ok (.aload_n 0, 1) := by decide +kernel
theorem dX8_street_22 : decode cX8_street 22 = .ok (.iconst 0, 1) := by decide +kernel
theorem dX8_street_23 : decode cX8_street 23 = .ok (.putfield 38, 3) := by decide +kernel
theorem dX8_street_26 : decode cX8_street 26 = .ok (.iload_n 1, 1) := by decide +kernel
theorem dX8_street_27 : decode cX8_street 27 = .ok (.ifCond .ne 11, 3) := by decide +kernel
theorem dX8_street_30 : decode cX8_street 30 = .ok (.bipush (-10), 2) := by decide +kernel
theorem dX8_street_32 : decode cX8_street 32 = .ok (.aload_n 0, 1) := by decide +kernel
theorem dX8_street_33 : decode cX8_street 33 = .ok (.getfield 41, 3) := by decide +kernel
theorem dX8_street_36 : decode cX8_street 36 = .ok (.isub, 1) := by decide +kernel
theorem dX8_street_37 : decode cX8_street 37 = .ok (.ireturn, 1) := by decide +kernel
theorem dX8_street_38 : decode cX8_street 38 = .ok (.aload_n 0, 1) := by decide +kernel
theorem dX8_street_39 : decode cX8_street 39 = .ok (.aload_n 0, 1) := by decide +kernel
theorem dX8_street_40 : decode cX8_street 40 = .ok (.getfield 32, 3) := by decide +kernel
theorem dX8_street_43 : decode cX8_street 43 = .ok (.putfield 35, 3) := by decide +kernel
theorem dX8_street_46 : decode cX8_street 46 = .ok (.aload_n 0, 1) := by decide +kernel
theorem dX8_street_47 : decode cX8_street 47 = .ok (.dup, 1) := by decide +kernel
theorem dX8_street_48 : decode cX8_street 48 = .ok (.getfield 32, 3) := by decide +kernel
theorem dX8_street_51 : decode cX8_street 51 = .ok (.iconst 1, 1) := by decide +kernel
theorem dX8_street_52 : decode cX8_street 52 = .ok (.iadd, 1) := by decide +kernel
theorem dX8_street_53 : decode cX8_street 53 = .ok (.putfield 32, 3) := by decide +kernel
theorem dX8_street_56 : decode cX8_street 56 = .ok (.aload_n 0, 1) := by decide +kernel
theorem dX8_street_57 : decode cX8_street 57 = .ok (.getfield 35, 3) := by decide +kernel
theorem dX8_street_60 : decode cX8_street 60 = .ok (.ireturn, 1) := by decide +kernel
theorem dX8_begin_0 : decode cX8_begin 0 = .ok (.aload_n 0, 1) := by decide +kernel
theorem dX8_begin_1 : decode cX8_begin 1 = .ok (.getfield 35, 3) := by decide +kernel
theorem dX8_begin_4 : decode cX8_begin 4 = .ok (.ifCond .ge 7, 3) := by decide +kernel
theorem dX8_begin_7 : decode cX8_begin 7 = .ok (.iconst 0, 1) := by decide +kernel
theorem dX8_begin_8 : decode cX8_begin 8 = .ok (.goto 10, 3) := by decide +kernel
theorem dX8_begin_11 : decode cX8_begin 11 = .ok (.bipush 10, 2) := by decide +kernel
theorem dX8_begin_13 : decode cX8_begin 13 = .ok (.aload_n 0, 1) := by decide +kernel
theorem dX8_begin_14 : decode cX8_begin 14 = .ok (.getfield 35, 3) := by decide +kernel
theorem dX8_begin_17 : decode cX8_begin 17 = .ok (.imul, 1) := by decide +kernel
theorem dX8_begin_18 : decode cX8_begin 18 = .ok (.ireturn, 1) := by decide +kernel
theorem dX8_behind_0 : decode cX8_behind 0 = .ok (.aload_n 0, 1) := by decide +kernel
theorem dX8_behind_1 : decode cX8_behind 1 = .ok (.getfield 35, 3) := by decide +kernel
theorem dX8_behind_4 : decode cX8_behind 4 = .ok (.ifCond .ge 7, 3) := by decide +kernel
theorem dX8_behind_7 : decode cX8_behind 7 = .ok (.iconst 0, 1) := by decide +kernel
theorem dX8_behind_8 : decode cX8_behind 8 = .ok (.goto 20, 3) := by decide +kernel
theorem dX8_behind_11 : decode cX8_behind 11 = .ok (.bipush 10, 2) := by decide +kernel
theorem dX8_behind_13 : decode cX8_behind 13 = .ok (.aload_n 0, 1) := by decide +kernel
theorem dX8_behind_14 : decode cX8_behind 14 = .ok (.getfield 35, 3) := by decide +kernel
theorem dX8_behind_17 : decode cX8_behind 17 = .ok (.imul, 1) := by decide +kernel
theorem dX8_behind_18 : decode cX8_behind 18 = .ok (.aload_n 0, 1) := by decide +kernel
theorem dX8_behind_19 : decode cX8_behind 19 = .ok (.getfield 50, 3) := by decide +kernel
theorem dX8_behind_22 : decode cX8_behind 22 = .ok (.aload_n 0, 1) := by decide +kernel
theorem dX8_behind_23 : decode cX8_behind 23 = .ok (.getfield 35, 3) := by decide +kernel
theorem dX8_behind_26 : decode cX8_behind 26 = .ok (.iaload, 1) := by decide +kernel
theorem dX8_behind_27 : decode cX8_behind 27 = .ok (.iadd, 1) := by decide +kernel
theorem dX8_behind_28 : decode cX8_behind 28 = .ok (.ireturn, 1) := by decide +kernel
theorem dX8_lastOf_0 : decode cX8_lastOf 0 = .ok (.iload_n 2, 1) := by decide +kernel
theorem dX8_lastOf_1 : decode cX8_lastOf 1 = .ok (.istore_n 3, 1) := by decide +kernel
theorem dX8_lastOf_2 : decode cX8_lastOf 2 = .ok (.aload_n 0, 1) := by decide +kernel
theorem dX8_lastOf_3 : decode cX8_lastOf 3 = .ok (.invokevirtual 292, 3) := by decide +kernel
theorem dX8_lastOf_6 : decode cX8_lastOf 6 = .ok (.istore 4, 2) := by decide +kernel
theorem dX8_lastOf_8 : decode cX8_lastOf 8 = .ok (.iload 4, 2) := by decide +kernel
theorem dX8_lastOf_10 : decode cX8_lastOf 10 = .ok (.aload_n 0, 1) := by decide +kernel
theorem dX8_lastOf_11 : decode cX8_lastOf 11 = .ok (.invokevirtual 295, 3) := by decide +kernel
theorem dX8_lastOf_14 : decode cX8_lastOf 14 = .ok (.if_icmp .ge 32, 3) := by decide +kernel
theorem dX8_lastOf_17 : decode cX8_lastOf 17 = .ok (.aload_n 0, 1) := by decide +kernel
theorem dX8_lastOf_18 : decode cX8_lastOf 18 = .ok (.getfield 53, 3) := by decide +kernel
theorem dX8_lastOf_21 : decode cX8_lastOf 21 = .ok (.iload 4, 2) := by decide +kernel
theorem dX8_lastOf_23 : decode cX8_lastOf 23 = .ok (.iaload, 1) := by decide +kernel
theorem dX8_lastOf_24 : decode cX8_lastOf 24 = .ok (.iload_n 1, 1) := by decide +kernel
theorem dX8_lastOf_25 : decode cX8_lastOf 25 = .ok (.if_icmp .ne 13, 3) := by decide +kernel
theorem dX8_lastOf_28 : decode cX8_lastOf 28 = .ok (.aload_n 0, 1) := by decide +kernel
theorem dX8_lastOf_29 : decode cX8_lastOf 29 = .ok (.getfield 56, 3) := by decide +kernel
theorem dX8_lastOf_32 : decode cX8_lastOf 32 = .ok (.iload 4, 2) := by decide +kernel
theorem dX8_lastOf_34 : decode cX8_lastOf 34 = .ok (.iaload, 1) := by decide +kernel
theorem dX8_lastOf_35 : decode cX8_lastOf 35 = .ok (.goto 4, 3) := by decide +kernel
theorem dX8_lastOf_38 : decode cX8_lastOf 38 = .ok (.iload_n 3, 1) := by decide +kernel
theorem dX8_lastOf_39 : decode cX8_lastOf 39 = .ok (.istore_n 3, 1) := by decide +kernel
theorem dX8_lastOf_40 : decode cX8_lastOf 40 = .ok (.iinc 4 1, 3) := by decide +kernel
theorem dX8_lastOf_43 : decode cX8_lastOf 43 = .ok (.goto (-35), 3) := by decide +kernel
theorem dX8_lastOf_46 : decode cX8_lastOf 46 = .ok (.iload_n 3, 1) := by decide +kernel
theorem dX8_lastOf_47 : decode cX8_lastOf 47 = .ok (.ireturn, 1) := by decide +kernel
theorem dX8_wall_0 : decode cX8_wall 0 = .ok (.aload_n 0, 1) := by decide +kernel
theorem dX8_wall_1 : decode cX8_wall 1 = .ok (.iconst 2, 1) := by decide +kernel
theorem dX8_wall_2 : decode cX8_wall 2 = .ok (.bipush 6, 2) := by decide +kernel
theorem dX8_wall_4 : decode cX8_wall 4 = .ok (.invokevirtual 298, 3) := by decide +kernel
theorem dX8_wall_7 : decode cX8_wall 7 = .ok (.ireturn, 1) := by decide +kernel
theorem dX8_calm_0 : decode cX8_calm 0 = .ok (.aload_n 0, 1) := by decide +kernel
theorem dX8_calm_1 : decode cX8_calm 1 = .ok (.iconst 3, 1) := by decide +kernel
theorem dX8_calm_2 : decode cX8_calm 2 = .ok (.bipush 10, 2) := by decide +kernel
theorem dX8_calm_4 : decode cX8_calm 4 = .ok (.invokevirtual 298, 3) := by decide +kernel
theorem dX8_calm_7 : decode cX8_calm 7 = .ok (.ireturn, 1) := by decide +kernel
theorem dX8_wear_0 : decode cX8_wear 0 = .ok (.aload_n 0, 1) := by decide +kernel
theorem dX8_wear_1 : decode cX8_wear 1 = .ok (.iconst 4, 1) := by decide +kernel
theorem dX8_wear_2 : decode cX8_wear 2 = .ok (.iconst 1, 1) := by decide +kernel
theorem dX8_wear_3 : decode cX8_wear 3 = .ok (.invokevirtual 298, 3) := by decide +kernel
theorem dX8_wear_6 : decode cX8_wear 6 = .ok (.ireturn, 1) := by decide +kernel
theorem dX8_factOf_0 : decode cX8_factOf 0 = .ok (.iload_n 1, 1) := by decide +kernel
theorem dX8_factOf_1 : decode cX8_factOf 1 = .ok (.tableswitch 63 0 4 #[35, 37, 39, 46, 53], 35) := by decide +kernel
theorem dX8_factOf_36 : decode cX8_factOf 36 = .ok (.iload_n 2, 1) := by decide +kernel
theorem dX8_factOf_37 : decode cX8_factOf 37 = .ok (.ireturn, 1) := by decide +kernel
theorem dX8_factOf_38 : decode cX8_factOf 38 = .ok (.iload_n 3, 1) := by decide +kernel
theorem dX8_factOf_39 : decode cX8_factOf 39 = .ok (.ireturn, 1) := by decide +kernel
theorem dX8_factOf_40 : decode cX8_factOf 40 = .ok (.aload_n 0, 1) := by decide +kernel
theorem dX8_factOf_41 : decode cX8_factOf 41 = .ok (.getfield 16, 3) := by decide +kernel
theorem dX8_factOf_44 : decode cX8_factOf 44 = .ok (.iload_n 2, 1) := by decide +kernel
theorem dX8_factOf_45 : decode cX8_factOf 45 = .ok (.iaload, 1) := by decide +kernel
theorem dX8_factOf_46 : decode cX8_factOf 46 = .ok (.ireturn, 1) := by decide +kernel
theorem dX8_factOf_47 : decode cX8_factOf 47 = .ok (.aload_n 0, 1) := by decide +kernel
theorem dX8_factOf_48 : decode cX8_factOf 48 = .ok (.getfield 20, 3) := by decide +kernel
theorem dX8_factOf_51 : decode cX8_factOf 51 = .ok (.iload_n 2, 1) := by decide +kernel
theorem dX8_factOf_52 : decode cX8_factOf 52 = .ok (.iaload, 1) := by decide +kernel
theorem dX8_factOf_53 : decode cX8_factOf 53 = .ok (.ireturn, 1) := by decide +kernel
theorem dX8_factOf_54 : decode cX8_factOf 54 = .ok (.aload_n 0, 1) := by decide +kernel
theorem dX8_factOf_55 : decode cX8_factOf 55 = .ok (.getfield 23, 3) := by decide +kernel
theorem dX8_factOf_58 : decode cX8_factOf 58 = .ok (.iload_n 2, 1) := by decide +kernel
theorem dX8_factOf_59 : decode cX8_factOf 59 = .ok (.iaload, 1) := by decide +kernel
theorem dX8_factOf_60 : decode cX8_factOf 60 = .ok (.bipush 10, 2) := by decide +kernel
theorem dX8_factOf_62 : decode cX8_factOf 62 = .ok (.idiv, 1) := by decide +kernel
theorem dX8_factOf_63 : decode cX8_factOf 63 = .ok (.ireturn, 1) := by decide +kernel
theorem dX8_factOf_64 : decode cX8_factOf 64 = .ok (.aload_n 0, 1) := by decide +kernel
theorem dX8_factOf_65 : decode cX8_factOf 65 = .ok (.getfield 13, 3) := by decide +kernel
theorem dX8_factOf_68 : decode cX8_factOf 68 = .ok (.bipush 10, 2) := by decide +kernel
theorem dX8_factOf_70 : decode cX8_factOf 70 = .ok (.irem, 1) := by decide +kernel
theorem dX8_factOf_71 : decode cX8_factOf 71 = .ok (.ireturn, 1) := by decide +kernel
theorem dX8_holds_0 : decode cX8_holds 0 = .ok (.iconst 0, 1) := by decide +kernel
theorem dX8_holds_1 : decode cX8_holds 1 = .ok (.istore 4, 2) := by decide +kernel
theorem dX8_holds_3 : decode cX8_holds 3 = .ok (.aload_n 0, 1) := by decide +kernel
theorem dX8_holds_4 : decode cX8_holds 4 = .ok (.getfield 59, 3) := by decide +kernel
theorem dX8_holds_7 : decode cX8_holds 7 = .ok (.iload_n 1, 1) := by decide +kernel
theorem dX8_holds_8 : decode cX8_holds 8 = .ok (.iaload, 1) := by decide +kernel
theorem dX8_holds_9 : decode cX8_holds 9 = .ok (.istore 5, 2) := by decide +kernel
theorem dX8_holds_11 : decode cX8_holds 11 = .ok (.iload 5, 2) := by decide +kernel
theorem dX8_holds_13 : decode cX8_holds 13 = .ok (.aload_n 0, 1) := by decide +kernel
theorem dX8_holds_14 : decode cX8_holds 14 = .ok (.getfield 62, 3) := by decide +kernel
theorem dX8_holds_17 : decode cX8_holds 17 = .ok (.iload_n 1, 1) := by decide +kernel
theorem dX8_holds_18 : decode cX8_holds 18 = .ok (.iaload, 1) := by decide +kernel
theorem dX8_holds_19 : decode cX8_holds 19 = .ok (.if_icmp .ge 234, 3) := by decide +kernel
theorem dX8_holds_22 : decode cX8_holds 22 = .ok (.aload_n 0, 1) := by decide +kernel
theorem dX8_holds_23 : decode cX8_holds 23 = .ok (.getfield 65, 3) := by decide +kernel
theorem dX8_holds_26 : decode cX8_holds 26 = .ok (.iload 5, 2) := by decide +kernel
theorem dX8_holds_28 : decode cX8_holds 28 = .ok (.iaload, 1) := by decide +kernel
theorem dX8_holds_29 : decode cX8_holds 29 = .ok (.istore 6, 2) := by decide +kernel
theorem dX8_holds_31 : decode cX8_holds 31 = .ok (.iload 6, 2) := by decide +kernel
theorem dX8_holds_33 : decode cX8_holds 33 = .ok (.bipush (-33), 2) := by decide +kernel
theorem dX8_holds_35 : decode cX8_holds 35 = .ok (.if_icmp .ne 32, 3) := by decide +kernel
theorem dX8_holds_38 : decode cX8_holds 38 = .ok (.aload_n 0, 1) := by decide +kernel
theorem dX8_holds_39 : decode cX8_holds 39 = .ok (.getfield 83, 3) := by decide +kernel
theorem dX8_holds_42 : decode cX8_holds 42 = .ok (.iload 4, 2) := by decide +kernel
theorem dX8_holds_44 : decode cX8_holds 44 = .ok (.iconst 1, 1) := by decide +kernel
theorem dX8_holds_45 : decode cX8_holds 45 = .ok (.isub, 1) := by decide +kernel
theorem dX8_holds_46 : decode cX8_holds 46 = .ok (.aload_n 0, 1) := by decide +kernel
theorem dX8_holds_47 : decode cX8_holds 47 = .ok (.getfield 83, 3) := by decide +kernel
theorem dX8_holds_50 : decode cX8_holds 50 = .ok (.iload 4, 2) := by decide +kernel
theorem dX8_holds_52 : decode cX8_holds 52 = .ok (.iconst 1, 1) := by decide +kernel
theorem dX8_holds_53 : decode cX8_holds 53 = .ok (.isub, 1) := by decide +kernel
theorem dX8_holds_54 : decode cX8_holds 54 = .ok (.baload, 1) := by decide +kernel
theorem dX8_holds_55 : decode cX8_holds 55 = .ok (.ifCond .ne 7, 3) := by decide +kernel
theorem dX8_holds_58 : decode cX8_holds 58 = .ok (.iconst 1, 1) := by decide +kernel
theorem dX8_holds_59 : decode cX8_holds 59 = .ok (.goto 4, 3) := by decide +kernel
theorem dX8_holds_62 : decode cX8_holds 62 = .ok (.iconst 0, 1) := by decide +kernel
theorem dX8_holds_63 : decode cX8_holds 63 = .ok (.bastore, 1) := by decide +kernel
theorem dX8_holds_64 : decode cX8_holds 64 = .ok (.goto 183, 3) := by decide +kernel
theorem dX8_holds_67 : decode cX8_holds 67 = .ok (.iload 6, 2) := by decide +kernel
theorem dX8_holds_69 : decode cX8_holds 69 = .ok (.ifCond .ge 82, 3) := by decide +kernel
theorem dX8_holds_72 : decode cX8_holds 72 = .ok (.iinc 4 (-1), 3) := by decide +kernel
theorem dX8_holds_75 : decode cX8_holds 75 = .ok (.aload_n 0, 1) := by decide +kernel
theorem dX8_holds_76 : decode cX8_holds 76 = .ok (.getfield 83, 3) := by decide +kernel
theorem dX8_holds_79 : decode cX8_holds 79 = .ok (.iload 4, 2) := by decide +kernel
theorem dX8_holds_81 : decode cX8_holds 81 = .ok (.iconst 1, 1) := by decide +kernel
theorem dX8_holds_82 : decode cX8_holds 82 = .ok (.isub, 1) := by decide +kernel
theorem dX8_holds_83 : decode cX8_holds 83 = .ok (.iload 6, 2) := by decide +kernel
theorem dX8_holds_85 : decode cX8_holds 85 = .ok (.bipush (-38), 2) := by decide +kernel
theorem dX8_holds_87 : decode cX8_holds 87 = .ok (.if_icmp .ne 33, 3) := by decide +kernel
theorem dX8_holds_90 : decode cX8_holds 90 = .ok (.aload_n 0, 1) := by decide +kernel
theorem dX8_holds_91 : decode cX8_holds 91 = .ok (.getfield 83, 3) := by decide +kernel
theorem dX8_holds_94 : decode cX8_holds 94 = .ok (.iload 4, 2) := by decide +kernel
theorem dX8_holds_96 : decode cX8_holds 96 = .ok (.iconst 1, 1) := by decide +kernel
theorem dX8_holds_97 : decode cX8_holds 97 = .ok (.isub, 1) := by decide +kernel
theorem dX8_holds_98 : decode cX8_holds 98 = .ok (.baload, 1) := by decide +kernel
theorem dX8_holds_99 : decode cX8_holds 99 = .ok (.ifCond .eq 17, 3) := by decide +kernel
theorem dX8_holds_102 : decode cX8_holds 102 = .ok (.aload_n 0, 1) := by decide +kernel
theorem dX8_holds_103 : decode cX8_holds 103 = .ok (.getfield 83, 3) := by decide +kernel
theorem dX8_holds_106 : decode cX8_holds 106 = .ok (.iload 4, 2) := by decide +kernel
theorem dX8_holds_108 : decode cX8_holds 108 = .ok (.baload, 1) := by decide +kernel
theorem dX8_holds_109 : decode cX8_holds 109 = .ok (.ifCond .eq 7, 3) := by decide +kernel
theorem dX8_holds_112 : decode cX8_holds 112 = .ok (.iconst 1, 1) := by decide +kernel
theorem dX8_holds_113 : decode cX8_holds 113 = .ok (.goto 34, 3) := by decide +kernel
theorem dX8_holds_116 : decode cX8_holds 116 = .ok (.iconst 0, 1) := by decide +kernel
theorem dX8_holds_117 : decode cX8_holds 117 = .ok (.goto 30, 3) := by decide +kernel
theorem dX8_holds_120 : decode cX8_holds 120 = .ok (.aload_n 0, 1) := by decide +kernel
theorem dX8_holds_121 : decode cX8_holds 121 = .ok (.getfield 83, 3) := by decide +kernel
theorem dX8_holds_124 : decode cX8_holds 124 = .ok (.iload 4, 2) := by decide +kernel
theorem dX8_holds_126 : decode cX8_holds 126 = .ok (.iconst 1, 1) := by decide +kernel
theorem dX8_holds_127 : decode cX8_holds 127 = .ok (.isub, 1) := by decide +kernel
theorem dX8_holds_128 : decode cX8_holds 128 = .ok (.baload, 1) := by decide +kernel
theorem dX8_holds_129 : decode cX8_holds 129 = .ok (.ifCond .ne 13, 3) := by decide +kernel
theorem dX8_holds_132 : decode cX8_holds 132 = .ok (.aload_n 0, 1) := by decide +kernel
theorem dX8_holds_133 : decode cX8_holds 133 = .ok (.getfield 83, 3) := by decide +kernel
theorem dX8_holds_136 : decode cX8_holds 136 = .ok (.iload 4, 2) := by decide +kernel
theorem dX8_holds_138 : decode cX8_holds 138 = .ok (.baload, 1) := by decide +kernel
theorem dX8_holds_139 : decode cX8_holds 139 = .ok (.ifCond .eq 7, 3) := by decide +kernel
theorem dX8_holds_142 : decode cX8_holds 142 = .ok (.iconst 1, 1) := by decide +kernel
theorem dX8_holds_143 : decode cX8_holds 143 = .ok (.goto 4, 3) := by decide +kernel
theorem dX8_holds_146 : decode cX8_holds 146 = .ok (.iconst 0, 1) := by decide +kernel
theorem dX8_holds_147 : decode cX8_holds 147 = .ok (.bastore, 1) := by decide +kernel
theorem dX8_holds_148 : decode cX8_holds 148 = .ok (.goto 99, 3) := by decide +kernel
theorem dX8_holds_151 : decode cX8_holds 151 = .ok (.aload_n 0, 1) := by decide +kernel
theorem dX8_holds_152 : decode cX8_holds 152 = .ok (.iload 6, 2) := by decide +kernel
theorem dX8_holds_154 : decode cX8_holds 154 = .ok (.sipush 1000, 3) := by decide +kernel
theorem dX8_holds_157 : decode cX8_holds 157 = .ok (.idiv, 1) := by decide +kernel
theorem dX8_holds_158 : decode cX8_holds 158 = .ok (.iload_n 2, 1) := by decide +kernel
theorem dX8_holds_159 : decode cX8_holds 159 = .ok (.iload_n 3, 1) := by decide +kernel
theorem dX8_holds_160 : decode cX8_holds 160 = .ok (.invokevirtual 301, 3) := by decide +kernel
theorem dX8_holds_163 : decode cX8_holds 163 = .ok (.istore 7, 2) := by decide +kernel
theorem dX8_holds_165 : decode cX8_holds 165 = .ok (.iload 6, 2) := by decide +kernel
theorem dX8_holds_167 : decode cX8_holds 167 = .ok (.bipush 100, 2) := by decide +kernel
theorem dX8_holds_169 : decode cX8_holds 169 = .ok (.idiv, 1) := by decide +kernel
theorem dX8_holds_170 : decode cX8_holds 170 = .ok (.bipush 10, 2) := by decide +kernel
theorem dX8_holds_172 : decode cX8_holds 172 = .ok (.irem, 1) := by decide +kernel
theorem dX8_holds_173 : decode cX8_holds 173 = .ok (.istore 8, 2) := by decide +kernel
theorem dX8_holds_175 : decode cX8_holds 175 = .ok (.aload_n 0, 1) := by decide +kernel
theorem dX8_holds_176 : decode cX8_holds 176 = .ok (.getfield 83, 3) := by decide +kernel
theorem dX8_holds_179 : decode cX8_holds 179 = .ok (.iload 4, 2) := by decide +kernel
theorem dX8_holds_181 : decode cX8_holds 181 = .ok (.iload 8, 2) := by decide +kernel
theorem dX8_holds_183 : decode cX8_holds 183 = .ok (.ifCond .ne 21, 3) := by decide +kernel
theorem dX8_holds_186 : decode cX8_holds 186 = .ok (.iload 7, 2) := by decide +kernel
theorem dX8_holds_188 : decode cX8_holds 188 = .ok (.iload 6, 2) := by decide +kernel
theorem dX8_holds_190 : decode cX8_holds 190 = .ok (.bipush 100, 2) := by decide +kernel
theorem dX8_holds_192 : decode cX8_holds 192 = .ok (.irem, 1) := by decide +kernel
theorem dX8_holds_193 : decode cX8_holds 193 = .ok (.if_icmp .ge 7, 3) := by decide +kernel
theorem dX8_holds_196 : decode cX8_holds 196 = .ok (.iconst 1, 1) := by decide +kernel
theorem dX8_holds_197 : decode cX8_holds 197 = .ok (.goto 46, 3) := by decide +kernel
theorem dX8_holds_200 : decode cX8_holds 200 = .ok (.iconst 0, 1) := by decide +kernel
theorem dX8_holds_201 : decode cX8_holds 201 = .ok (.goto 42, 3) := by decide +kernel
theorem dX8_holds_204 : decode cX8_holds 204 = .ok (.iload 8, 2) := by decide +kernel
theorem dX8_holds_206 : decode cX8_holds 206 = .ok (.iconst 1, 1) := by decide +kernel
theorem dX8_holds_207 : decode cX8_holds 207 = .ok (.if_icmp .ne 21, 3) := by decide +kernel
theorem dX8_holds_210 : decode cX8_holds 210 = .ok (.iload 7, 2) := by decide +kernel
theorem dX8_holds_212 : decode cX8_holds 212 = .ok (.iload 6, 2) := by decide +kernel
theorem dX8_holds_214 : decode cX8_holds 214 = .ok (.bipush 100, 2) := by decide +kernel
theorem dX8_holds_216 : decode cX8_holds 216 = .ok (.irem, 1) := by decide +kernel
theorem dX8_holds_217 : decode cX8_holds 217 = .ok (.if_icmp .ne 7, 3) := by decide +kernel
theorem dX8_holds_220 : decode cX8_holds 220 = .ok (.iconst 1, 1) := by decide +kernel
theorem dX8_holds_221 : decode cX8_holds 221 = .ok (.goto 22, 3) := by decide +kernel
theorem dX8_holds_224 : decode cX8_holds 224 = .ok (.iconst 0, 1) := by decide +kernel
theorem dX8_holds_225 : decode cX8_holds 225 = .ok (.goto 18, 3) := by decide +kernel
theorem dX8_holds_228 : decode cX8_holds 228 = .ok (.iload 7, 2) := by decide +kernel
theorem dX8_holds_230 : decode cX8_holds 230 = .ok (.iload 6, 2) := by decide +kernel
theorem dX8_holds_232 : decode cX8_holds 232 = .ok (.bipush 100, 2) := by decide +kernel
theorem dX8_holds_234 : decode cX8_holds 234 = .ok (.irem, 1) := by decide +kernel
theorem dX8_holds_235 : decode cX8_holds 235 = .ok (.if_icmp .le 7, 3) := by decide +kernel
theorem dX8_holds_238 : decode cX8_holds 238 = .ok (.iconst 1, 1) := by decide +kernel
theorem dX8_holds_239 : decode cX8_holds 239 = .ok (.goto 4, 3) := by decide +kernel
theorem dX8_holds_242 : decode cX8_holds 242 = .ok (.iconst 0, 1) := by decide +kernel
theorem dX8_holds_243 : decode cX8_holds 243 = .ok (.bastore, 1) := by decide +kernel
theorem dX8_holds_244 : decode cX8_holds 244 = .ok (.iinc 4 1, 3) := by decide +kernel
theorem dX8_holds_247 : decode cX8_holds 247 = .ok (.iinc 5 1, 3) := by decide +kernel
theorem dX8_holds_250 : decode cX8_holds 250 = .ok (.goto (-239), 3) := by decide +kernel
theorem dX8_holds_253 : decode cX8_holds 253 = .ok (.aload_n 0, 1) := by decide +kernel
theorem dX8_holds_254 : decode cX8_holds 254 = .ok (.getfield 83, 3) := by decide +kernel
theorem dX8_holds_257 : decode cX8_holds 257 = .ok (.iconst 0, 1) := by decide +kernel
theorem dX8_holds_258 : decode cX8_holds 258 = .ok (.baload, 1) := by decide +kernel
theorem dX8_holds_259 : decode cX8_holds 259 = .ok (.ireturn, 1) := by decide +kernel
theorem dX8_voice_0 : decode cX8_voice 0 = .ok (.aload_n 0, 1) := by decide +kernel
theorem dX8_voice_1 : decode cX8_voice 1 = .ok (.iload_n 1, 1) := by decide +kernel
theorem dX8_voice_2 : decode cX8_voice 2 = .ok (.invokevirtual 232, 3) := by decide +kernel
theorem dX8_voice_5 : decode cX8_voice 5 = .ok (.ifCond .ne 12, 3) := by decide +kernel
theorem dX8_voice_8 : decode cX8_voice 8 = .ok (.aload_n 0, 1) := by decide +kernel
theorem dX8_voice_9 : decode cX8_voice 9 = .ok (.getfield 23, 3) := by decide +kernel
theorem dX8_voice_12 : decode cX8_voice 12 = .ok (.iload_n 1, 1) := by decide +kernel
theorem dX8_voice_13 : decode cX8_voice 13 = .ok (.iaload, 1) := by decide +kernel
theorem dX8_voice_14 : decode cX8_voice 14 = .ok (.ifCond .ne 5, 3) := by decide +kernel
theorem dX8_voice_17 : decode cX8_voice 17 = .ok (.iconst 0, 1) := by decide +kernel
theorem dX8_voice_18 : decode cX8_voice 18 = .ok (.ireturn, 1) := by decide +kernel
theorem dX8_voice_19 : decode cX8_voice 19 = .ok (.aload_n 0, 1) := by decide +kernel
theorem dX8_voice_20 : decode cX8_voice 20 = .ok (.getfield 23, 3) := by decide +kernel
theorem dX8_voice_23 : decode cX8_voice 23 = .ok (.iload_n 1, 1) := by decide +kernel
theorem dX8_voice_24 : decode cX8_voice 24 = .ok (.iaload, 1) := by decide +kernel
theorem dX8_voice_25 : decode cX8_voice 25 = .ok (.istore_n 3, 1) := by decide +kernel
theorem dX8_voice_26 : decode cX8_voice 26 = .ok (.aload_n 0, 1) := by decide +kernel
theorem dX8_voice_27 : decode cX8_voice 27 = .ok (.invokevirtual 292, 3) := by decide +kernel
theorem dX8_voice_30 : decode cX8_voice 30 = .ok (.istore 4, 2) := by decide +kernel
theorem dX8_voice_32 : decode cX8_voice 32 = .ok (.iload 4, 2) := by decide +kernel
theorem dX8_voice_34 : decode cX8_voice 34 = .ok (.aload_n 0, 1) := by decide +kernel
theorem dX8_voice_35 : decode cX8_voice 35 = .ok (.invokevirtual 295, 3) := by decide +kernel
theorem dX8_voice_38 : decode cX8_voice 38 = .ok (.if_icmp .ge 65, 3) := by decide +kernel
theorem dX8_voice_41 : decode cX8_voice 41 = .ok (.aload_n 0, 1) := by decide +kernel
theorem dX8_voice_42 : decode cX8_voice 42 = .ok (.getfield 53, 3) := by decide +kernel
theorem dX8_voice_45 : decode cX8_voice 45 = .ok (.iload 4, 2) := by decide +kernel
theorem dX8_voice_47 : decode cX8_voice 47 = .ok (.iaload, 1) := by decide +kernel
theorem dX8_voice_48 : decode cX8_voice 48 = .ok (.iconst 1, 1) := by decide +kernel
theorem dX8_voice_49 : decode cX8_voice 49 = .ok (.if_icmp .gt 48, 3) := by decide +kernel
theorem dX8_voice_52 : decode cX8_voice 52 = .ok (.aload_n 0, 1) := by decide +kernel
theorem dX8_voice_53 : decode cX8_voice 53 = .ok (.iload 4, 2) := by decide +kernel
theorem dX8_voice_55 : decode cX8_voice 55 = .ok (.iload_n 1, 1) := by decide +kernel
theorem dX8_voice_56 : decode cX8_voice 56 = .ok (.iload_n 2, 1) := by decide +kernel
theorem dX8_voice_57 : decode cX8_voice 57 = .ok (.invokevirtual 305, 3) := by decide +kernel
theorem dX8_voice_60 : decode cX8_voice 60 = .ok (.ifCond .ne 6, 3) := by decide +kernel
theorem dX8_voice_63 : decode cX8_voice 63 = .ok (.goto 34, 3) := by decide +kernel
theorem dX8_voice_66 : decode cX8_voice 66 = .ok (.iload_n 3, 1) := by decide +kernel
theorem dX8_voice_67 : decode cX8_voice 67 = .ok (.aload_n 0, 1) := by decide +kernel
theorem dX8_voice_68 : decode cX8_voice 68 = .ok (.getfield 53, 3) := by decide +kernel
theorem dX8_voice_71 : decode cX8_voice 71 = .ok (.iload 4, 2) := by decide +kernel
theorem dX8_voice_73 : decode cX8_voice 73 = .ok (.iaload, 1) := by decide +kernel
theorem dX8_voice_74 : decode cX8_voice 74 = .ok (.ifCond .ne 13, 3) := by decide +kernel
theorem dX8_voice_77 : decode cX8_voice 77 = .ok (.aload_n 0, 1) := by decide +kernel
theorem dX8_voice_78 : decode cX8_voice 78 = .ok (.getfield 56, 3) := by decide +kernel
theorem dX8_voice_81 : decode cX8_voice 81 = .ok (.iload 4, 2) := by decide +kernel
theorem dX8_voice_83 : decode cX8_voice 83 = .ok (.iaload, 1) := by decide +kernel
theorem dX8_voice_84 : decode cX8_voice 84 = .ok (.goto 11, 3) := by decide +kernel
theorem dX8_voice_87 : decode cX8_voice 87 = .ok (.aload_n 0, 1) := by decide +kernel
theorem dX8_voice_88 : decode cX8_voice 88 = .ok (.getfield 56, 3) := by decide +kernel
theorem dX8_voice_91 : decode cX8_voice 91 = .ok (.iload 4, 2) := by decide +kernel
theorem dX8_voice_93 : decode cX8_voice 93 = .ok (.iaload, 1) := by decide +kernel
theorem dX8_voice_94 : decode cX8_voice 94 = .ok (.ineg, 1) := by decide +kernel
theorem dX8_voice_95 : decode cX8_voice 95 = .ok (.iadd, 1) := by decide +kernel
theorem dX8_voice_96 : decode cX8_voice 96 = .ok (.istore_n 3, 1) := by decide +kernel
theorem dX8_voice_97 : decode cX8_voice 97 = .ok (.iinc 4 1, 3) := by decide +kernel
theorem dX8_voice_100 : decode cX8_voice 100 = .ok (.goto (-68), 3) := by decide +kernel
theorem dX8_voice_103 : decode cX8_voice 103 = .ok (.aload_n 0, 1) := by decide +kernel
theorem dX8_voice_104 : decode cX8_voice 104 = .ok (.iload_n 3, 1) := by decide +kernel
theorem dX8_voice_105 : decode cX8_voice 105 = .ok (.invokevirtual 308, 3) := by decide +kernel
theorem dX8_voice_108 : decode cX8_voice 108 = .ok (.ireturn, 1) := by decide +kernel
theorem dX8_heardBy_0 : decode cX8_heardBy 0 = .ok (.aload_n 0, 1) := by decide +kernel
theorem dX8_heardBy_1 : decode cX8_heardBy 1 = .ok (.aload_n 0, 1) := by decide +kernel
theorem dX8_heardBy_2 : decode cX8_heardBy 2 = .ok (.getfield 26, 3) := by decide +kernel
theorem dX8_heardBy_5 : decode cX8_heardBy 5 = .ok (.iload_n 1, 1) := by decide +kernel
theorem dX8_heardBy_6 : decode cX8_heardBy 6 = .ok (.iaload, 1) := by decide +kernel
theorem dX8_heardBy_7 : decode cX8_heardBy 7 = .ok (.iload_n 3, 1) := by decide +kernel
theorem dX8_heardBy_8 : decode cX8_heardBy 8 = .ok (.invokevirtual 235, 3) := by decide +kernel
theorem dX8_heardBy_11 : decode cX8_heardBy 11 = .ok (.istore 4, 2) := by decide +kernel
theorem dX8_heardBy_13 : decode cX8_heardBy 13 = .ok (.aload_n 0, 1) := by decide +kernel
theorem dX8_heardBy_14 : decode cX8_heardBy 14 = .ok (.iload_n 2, 1) := by decide +kernel
theorem dX8_heardBy_15 : decode cX8_heardBy 15 = .ok (.aload_n 0, 1) := by decide +kernel
theorem dX8_heardBy_16 : decode cX8_heardBy 16 = .ok (.invokevirtual 311, 3) := by decide +kernel
theorem dX8_heardBy_19 : decode cX8_heardBy 19 = .ok (.iload 4, 2) := by decide +kernel
theorem dX8_heardBy_21 : decode cX8_heardBy 21 = .ok (.imul, 1) := by decide +kernel
theorem dX8_heardBy_22 : decode cX8_heardBy 22 = .ok (.isub, 1) := by decide +kernel
theorem dX8_heardBy_23 : decode cX8_heardBy 23 = .ok (.invokevirtual 308, 3) := by decide +kernel
theorem dX8_heardBy_26 : decode cX8_heardBy 26 = .ok (.istore 5, 2) := by decide +kernel
theorem dX8_heardBy_28 : decode cX8_heardBy 28 = .ok (.aload_n 0, 1) := by decide +kernel
theorem dX8_heardBy_29 : decode cX8_heardBy 29 = .ok (.iload_n 2, 1) := by decide +kernel
theorem dX8_heardBy_30 : decode cX8_heardBy 30 = .ok (.aload_n 0, 1) := by decide +kernel
theorem dX8_heardBy_31 : decode cX8_heardBy 31 = .ok (.invokevirtual 311, 3) := by decide +kernel
theorem dX8_heardBy_34 : decode cX8_heardBy 34 = .ok (.iconst 2, 1) := by decide +kernel
theorem dX8_heardBy_35 : decode cX8_heardBy 35 = .ok (.idiv, 1) := by decide +kernel
theorem dX8_heardBy_36 : decode cX8_heardBy 36 = .ok (.iload 4, 2) := by decide +kernel
theorem dX8_heardBy_38 : decode cX8_heardBy 38 = .ok (.imul, 1) := by decide +kernel
theorem dX8_heardBy_39 : decode cX8_heardBy 39 = .ok (.isub, 1) := by decide +kernel
theorem dX8_heardBy_40 : decode cX8_heardBy 40 = .ok (.invokevirtual 308, 3) := by decide +kernel
theorem dX8_heardBy_43 : decode cX8_heardBy 43 = .ok (.istore 6, 2) := by decide +kernel
theorem dX8_heardBy_45 : decode cX8_heardBy 45 = .ok (.aload_n 0, 1) := by decide +kernel
theorem dX8_heardBy_46 : decode cX8_heardBy 46 = .ok (.getfield 13, 3) := by decide +kernel
theorem dX8_heardBy_49 : decode cX8_heardBy 49 = .ok (.iconst 2, 1) := by decide +kernel
theorem dX8_heardBy_50 : decode cX8_heardBy 50 = .ok (.irem, 1) := by decide +kernel
theorem dX8_heardBy_51 : decode cX8_heardBy 51 = .ok (.iconst 1, 1) := by decide +kernel
theorem dX8_heardBy_52 : decode cX8_heardBy 52 = .ok (.if_icmp .ne 8, 3) := by decide +kernel
theorem dX8_heardBy_55 : decode cX8_heardBy 55 = .ok (.iload 5, 2) := by decide +kernel
theorem dX8_heardBy_57 : decode cX8_heardBy 57 = .ok (.goto 7, 3) := by decide +kernel
theorem dX8_heardBy_60 : decode cX8_heardBy 60 = .ok (.iload 5, 2) := by decide +kernel
theorem dX8_heardBy_62 : decode cX8_heardBy 62 = .ok (.iconst 2, 1) := by decide +kernel
theorem dX8_heardBy_63 : decode cX8_heardBy 63 = .ok (.idiv, 1) := by decide +kernel
theorem dX8_heardBy_64 : decode cX8_heardBy 64 = .ok (.istore 7, 2) := by decide +kernel
theorem dX8_heardBy_66 : decode cX8_heardBy 66 = .ok (.aload_n 0, 1) := by decide +kernel
theorem dX8_heardBy_67 : decode cX8_heardBy 67 = .ok (.getfield 16, 3) := by decide +kernel
theorem dX8_heardBy_70 : decode cX8_heardBy 70 = .ok (.iload_n 1, 1) := by decide +kernel
theorem dX8_heardBy_71 : decode cX8_heardBy 71 = .ok (.iaload, 1) := by decide +kernel
theorem dX8_heardBy_72 : decode cX8_heardBy 72 = .ok (.tableswitch 108 2 6 #[36, 39, 42, 54, 79], 36) := by decide +kernel
theorem dX8_heardBy_108 : decode cX8_heardBy 108 = .ok (.iload 7, 2) := by decide +kernel
theorem dX8_heardBy_110 : decode cX8_heardBy 110 = .ok (.ireturn, 1) := by decide +kernel
theorem dX8_heardBy_111 : decode cX8_heardBy 111 = .ok (.iload 6, 2) := by decide +kernel
theorem dX8_heardBy_113 : decode cX8_heardBy 113 = .ok (.ireturn, 1) := by decide +kernel
theorem dX8_heardBy_114 : decode cX8_heardBy 114 = .ok (.iload 4, 2) := by decide +kernel
theorem dX8_heardBy_116 : decode cX8_heardBy 116 = .ok (.ifCond .ne 8, 3) := by decide +kernel
theorem dX8_heardBy_119 : decode cX8_heardBy 119 = .ok (.iload 5, 2) := by decide +kernel
theorem dX8_heardBy_121 : decode cX8_heardBy 121 = .ok (.goto 4, 3) := by decide +kernel
theorem dX8_heardBy_124 : decode cX8_heardBy 124 = .ok (.iconst 0, 1) := by decide +kernel
theorem dX8_heardBy_125 : decode cX8_heardBy 125 = .ok (.ireturn, 1) := by decide +kernel
theorem dX8_heardBy_126 : decode cX8_heardBy 126 = .ok (.iload_n 3, 1) := by decide +kernel
theorem dX8_heardBy_127 : decode cX8_heardBy 127 = .ok (.aload_n 0, 1) := by decide +kernel
theorem dX8_heardBy_128 : decode cX8_heardBy 128 = .ok (.getfield 26, 3) := by decide +kernel
theorem dX8_heardBy_131 : decode cX8_heardBy 131 = .ok (.iload_n 1, 1) := by decide +kernel
theorem dX8_heardBy_132 : decode cX8_heardBy 132 = .ok (.iaload, 1) := by decide +kernel
theorem dX8_heardBy_133 : decode cX8_heardBy 133 = .ok (.if_icmp .ge 15, 3) := by decide +kernel
theorem dX8_heardBy_136 : decode cX8_heardBy 136 = .ok (.iload 7, 2) := by decide +kernel
theorem dX8_heardBy_138 : decode cX8_heardBy 138 = .ok (.aload_n 0, 1) := by decide +kernel
theorem dX8_heardBy_139 : decode cX8_heardBy 139 = .ok (.getfield 20, 3) := by decide +kernel
theorem dX8_heardBy_142 : decode cX8_heardBy 142 = .ok (.iload_n 1, 1) := by decide +kernel
theorem dX8_heardBy_143 : decode cX8_heardBy 143 = .ok (.iaload, 1) := by decide +kernel
theorem dX8_heardBy_144 : decode cX8_heardBy 144 = .ok (.iadd, 1) := by decide +kernel
theorem dX8_heardBy_145 : decode cX8_heardBy 145 = .ok (.goto 5, 3) := by decide +kernel
theorem dX8_heardBy_148 : decode cX8_heardBy 148 = .ok (.iload 7, 2) := by decide +kernel
theorem dX8_heardBy_150 : decode cX8_heardBy 150 = .ok (.ireturn, 1) := by decide +kernel
theorem dX8_heardBy_151 : decode cX8_heardBy 151 = .ok (.iload 4, 2) := by decide +kernel
theorem dX8_heardBy_153 : decode cX8_heardBy 153 = .ok (.ifCond .ne 24, 3) := by decide +kernel
theorem dX8_heardBy_156 : decode cX8_heardBy 156 = .ok (.iload 6, 2) := by decide +kernel
theorem dX8_heardBy_158 : decode cX8_heardBy 158 = .ok (.aload_n 0, 1) := by decide +kernel
theorem dX8_heardBy_159 : decode cX8_heardBy 159 = .ok (.getfield 29, 3) := by decide +kernel
theorem dX8_heardBy_162 : decode cX8_heardBy 162 = .ok (.iconst 4, 1) := by decide +kernel
theorem dX8_heardBy_163 : decode cX8_heardBy 163 = .ok (.iload_n 1, 1) := by decide +kernel
theorem dX8_heardBy_164 : decode cX8_heardBy 164 = .ok (.imul, 1) := by decide +kernel
theorem dX8_heardBy_165 : decode cX8_heardBy 165 = .ok (.aload_n 0, 1) := by decide +kernel
theorem dX8_heardBy_166 : decode cX8_heardBy 166 = .ok (.getfield 13, 3) := by decide +kernel
theorem dX8_heardBy_169 : decode cX8_heardBy 169 = .ok (.iconst 4, 1) := by decide +kernel
theorem dX8_heardBy_170 : decode cX8_heardBy 170 = .ok (.irem, 1) := by decide +kernel
theorem dX8_heardBy_171 : decode cX8_heardBy 171 = .ok (.iadd, 1) := by decide +kernel
theorem dX8_heardBy_172 : decode cX8_heardBy 172 = .ok (.iaload, 1) := by decide +kernel
theorem dX8_heardBy_173 : decode cX8_heardBy 173 = .ok (.iadd, 1) := by decide +kernel
theorem dX8_heardBy_174 : decode cX8_heardBy 174 = .ok (.goto 5, 3) := by decide +kernel
theorem dX8_heardBy_177 : decode cX8_heardBy 177 = .ok (.iload 6, 2) := by decide +kernel
theorem dX8_heardBy_179 : decode cX8_heardBy 179 = .ok (.ireturn, 1) := by decide +kernel
theorem dX8_heardBy_180 : decode cX8_heardBy 180 = .ok (.iload 5, 2) := by decide +kernel
theorem dX8_heardBy_182 : decode cX8_heardBy 182 = .ok (.ireturn, 1) := by decide +kernel
theorem dX8_heard_0 : decode cX8_heard 0 = .ok (.aload_n 0, 1) := by decide +kernel
theorem dX8_heard_1 : decode cX8_heard 1 = .ok (.iload_n 1, 1) := by decide +kernel
theorem dX8_heard_2 : decode cX8_heard 2 = .ok (.invokevirtual 232, 3) := by decide +kernel
theorem dX8_heard_5 : decode cX8_heard 5 = .ok (.ifCond .eq 7, 3) := by decide +kernel
theorem dX8_heard_8 : decode cX8_heard 8 = .ok (.iconst 0, 1) := by decide +kernel
theorem dX8_heard_9 : decode cX8_heard 9 = .ok (.goto 20, 3) := by decide +kernel
theorem dX8_heard_12 : decode cX8_heard 12 = .ok (.aload_n 0, 1) := by decide +kernel
theorem dX8_heard_13 : decode cX8_heard 13 = .ok (.iload_n 1, 1) := by decide +kernel
theorem dX8_heard_14 : decode cX8_heard 14 = .ok (.aload_n 0, 1) := by decide +kernel
theorem dX8_heard_15 : decode cX8_heard 15 = .ok (.iload_n 1, 1) := by decide +kernel
theorem dX8_heard_16 : decode cX8_heard 16 = .ok (.aload_n 0, 1) := by decide +kernel
theorem dX8_heard_17 : decode cX8_heard 17 = .ok (.getfield 26, 3) := by decide +kernel
theorem dX8_heard_20 : decode cX8_heard 20 = .ok (.iload_n 1, 1) := by decide +kernel
theorem dX8_heard_21 : decode cX8_heard 21 = .ok (.iaload, 1) := by decide +kernel
theorem dX8_heard_22 : decode cX8_heard 22 = .ok (.invokevirtual 314, 3) := by decide +kernel
theorem dX8_heard_25 : decode cX8_heard 25 = .ok (.iload_n 2, 1) := by decide +kernel
theorem dX8_heard_26 : decode cX8_heard 26 = .ok (.invokevirtual 317, 3) := by decide +kernel
theorem dX8_heard_29 : decode cX8_heard 29 = .ok (.ireturn, 1) := by decide +kernel
theorem dX8_layNoises_0 : decode cX8_layNoises 0 = .ok (.iconst 0, 1) := by decide +kernel
theorem dX8_layNoises_1 : decode cX8_layNoises 1 = .ok (.istore_n 1, 1) := by decide +kernel
theorem dX8_layNoises_2 : decode cX8_layNoises 2 = .ok (.iload_n 1, 1) := by decide +kernel
theorem dX8_layNoises_3 : decode cX8_layNoises 3 = .ok (.iconst 5, 1) := by decide +kernel
theorem dX8_layNoises_4 : decode cX8_layNoises 4 = .ok (.if_icmp .ge 16, 3) := by decide +kernel
theorem dX8_layNoises_7 : decode cX8_layNoises 7 = .ok (.aload_n 0, 1) := by decide +kernel
theorem dX8_layNoises_8 : decode cX8_layNoises 8 = .ok (.getfield 87, 3) := by decide +kernel
theorem dX8_layNoises_11 : decode cX8_layNoises 11 = .ok (.iload_n 1, 1) := by decide +kernel
theorem dX8_layNoises_12 : decode cX8_layNoises 12 = .ok (.iconst 0, 1) := by decide +kernel
theorem dX8_layNoises_13 : decode cX8_layNoises 13 = .ok (.iastore, 1) := by decide +kernel
theorem dX8_layNoises_14 : decode cX8_layNoises 14 = .ok (.iinc 1 1, 3) := by decide +kernel
theorem dX8_layNoises_17 : decode cX8_layNoises 17 = .ok (.goto (-15), 3) := by decide +kernel
theorem dX8_layNoises_20 : decode cX8_layNoises 20 = .ok (.iconst 0, 1) := by decide +kernel
theorem dX8_layNoises_21 : decode cX8_layNoises 21 = .ok (.istore_n 1, 1) := by decide +kernel
theorem dX8_layNoises_22 : decode cX8_layNoises 22 = .ok (.iload_n 1, 1) := by decide +kernel
theorem dX8_layNoises_23 : decode cX8_layNoises 23 = .ok (.aload_n 0, 1) := by decide +kernel
theorem dX8_layNoises_24 : decode cX8_layNoises 24 = .ok (.getfield 7, 3) := by decide +kernel
theorem dX8_layNoises_27 : decode cX8_layNoises 27 = .ok (.if_icmp .ge 61, 3) := by decide +kernel
theorem dX8_layNoises_30 : decode cX8_layNoises 30 = .ok (.aload_n 0, 1) := by decide +kernel
theorem dX8_layNoises_31 : decode cX8_layNoises 31 = .ok (.iload_n 1, 1) := by decide +kernel
theorem dX8_layNoises_32 : decode cX8_layNoises 32 = .ok (.invokevirtual 232, 3) := by decide +kernel
theorem dX8_layNoises_35 : decode cX8_layNoises 35 = .ok (.ifCond .eq 6, 3) := by decide +kernel
theorem dX8_layNoises_38 : decode cX8_layNoises 38 = .ok (.goto 44, 3) := by decide +kernel
theorem dX8_layNoises_41 : decode cX8_layNoises 41 = .ok (.aload_n 0, 1) := by decide +kernel
theorem dX8_layNoises_42 : decode cX8_layNoises 42 = .ok (.iload_n 1, 1) := by decide +kernel
theorem dX8_layNoises_43 : decode cX8_layNoises 43 = .ok (.aload_n 0, 1) := by decide +kernel
theorem dX8_layNoises_44 : decode cX8_layNoises 44 = .ok (.getfield 26, 3) := by decide +kernel
theorem dX8_layNoises_47 : decode cX8_layNoises 47 = .ok (.iload_n 1, 1) := by decide +kernel
theorem dX8_layNoises_48 : decode cX8_layNoises 48 = .ok (.iaload, 1) := by decide +kernel
theorem dX8_layNoises_49 : decode cX8_layNoises 49 = .ok (.invokevirtual 314, 3) := by decide +kernel
theorem dX8_layNoises_52 : decode cX8_layNoises 52 = .ok (.istore_n 2, 1) := by decide +kernel
theorem dX8_layNoises_53 : decode cX8_layNoises 53 = .ok (.iconst 0, 1) := by decide +kernel
theorem dX8_layNoises_54 : decode cX8_layNoises 54 = .ok (.istore_n 3, 1) := by decide +kernel
theorem dX8_layNoises_55 : decode cX8_layNoises 55 = .ok (.iload_n 3, 1) := by decide +kernel
theorem dX8_layNoises_56 : decode cX8_layNoises 56 = .ok (.iconst 5, 1) := by decide +kernel
theorem dX8_layNoises_57 : decode cX8_layNoises 57 = .ok (.if_icmp .ge 25, 3) := by decide +kernel
theorem dX8_layNoises_60 : decode cX8_layNoises 60 = .ok (.aload_n 0, 1) := by decide +kernel
theorem dX8_layNoises_61 : decode cX8_layNoises 61 = .ok (.getfield 87, 3) := by decide +kernel
theorem dX8_layNoises_64 : decode cX8_layNoises 64 = .ok (.iload_n 3, 1) := by decide +kernel
theorem dX8_layNoises_65 : decode cX8_layNoises 65 = .ok (.dup2, 1) := by decide +kernel
theorem dX8_layNoises_66 : decode cX8_layNoises 66 = .ok (.iaload, 1) := by decide +kernel
theorem dX8_layNoises_67 : decode cX8_layNoises 67 = .ok (.aload_n 0, 1) := by decide +kernel
theorem dX8_layNoises_68 : decode cX8_layNoises 68 = .ok (.iload_n 1, 1) := by decide +kernel
theorem dX8_layNoises_69 : decode cX8_layNoises 69 = .ok (.iload_n 2, 1) := by decide +kernel
theorem dX8_layNoises_70 : decode cX8_layNoises 70 = .ok (.iload_n 3, 1) := by decide +kernel
theorem dX8_layNoises_71 : decode cX8_layNoises 71 = .ok (.invokevirtual 317, 3) := by decide +kernel
theorem dX8_layNoises_74 : decode cX8_layNoises 74 = .ok (.iadd, 1) := by decide +kernel
theorem dX8_layNoises_75 : decode cX8_layNoises 75 = .ok (.iastore, 1) := by decide +kernel
theorem dX8_layNoises_76 : decode cX8_layNoises 76 = .ok (.iinc 3 1, 3) := by decide +kernel
theorem dX8_layNoises_79 : decode cX8_layNoises 79 = .ok (.goto (-24), 3) := by decide +kernel
theorem dX8_layNoises_82 : decode cX8_layNoises 82 = .ok (.iinc 1 1, 3) := by decide +kernel
theorem dX8_layNoises_85 : decode cX8_layNoises 85 = .ok (.goto (-63), 3) := by decide +kernel
theorem dX8_layNoises_88 : decode cX8_layNoises 88 = .ok (.return_, 1) := by decide +kernel
theorem dX8_noise_0 : decode cX8_noise 0 = .ok (.aload_n 0, 1) := by decide +kernel
theorem dX8_noise_1 : decode cX8_noise 1 = .ok (.invokevirtual 320, 3) := by decide +kernel
theorem dX8_noise_4 : decode cX8_noise 4 = .ok (.aload_n 0, 1) := by decide +kernel
theorem dX8_noise_5 : decode cX8_noise 5 = .ok (.getfield 87, 3) := by decide +kernel
theorem dX8_noise_8 : decode cX8_noise 8 = .ok (.iload_n 1, 1) := by decide +kernel
theorem dX8_noise_9 : decode cX8_noise 9 = .ok (.iaload, 1) := by decide +kernel
theorem dX8_noise_10 : decode cX8_noise 10 = .ok (.ireturn, 1) := by decide +kernel
theorem dX8_greatestLaid_0 : decode cX8_greatestLaid 0 = .ok (.iconst 0, 1) := by decide +kernel
theorem dX8_greatestLaid_1 : decode cX8_greatestLaid 1 = .ok (.istore_n 1, 1) := by decide +kernel
theorem dX8_greatestLaid_2 : decode cX8_greatestLaid 2 = .ok (.iconst 0, 1) := by decide +kernel
theorem dX8_greatestLaid_3 : decode cX8_greatestLaid 3 = .ok (.istore_n 2, 1) := by decide +kernel
theorem dX8_greatestLaid_4 : decode cX8_greatestLaid 4 = .ok (.iload_n 2, 1) := by decide +kernel
theorem dX8_greatestLaid_5 : decode cX8_greatestLaid 5 = .ok (.iconst 5, 1) := by decide +kernel
theorem dX8_greatestLaid_6 : decode cX8_greatestLaid 6 = .ok (.if_icmp .ge 30, 3) := by decide +kernel
theorem dX8_greatestLaid_9 : decode cX8_greatestLaid 9 = .ok (.aload_n 0, 1) := by decide +kernel
theorem dX8_greatestLaid_10 : decode cX8_greatestLaid 10 = .ok (.getfield 87, 3) := by decide +kernel
theorem dX8_greatestLaid_13 : decode cX8_greatestLaid 13 = .ok (.iload_n 2, 1) := by decide +kernel
theorem dX8_greatestLaid_14 : decode cX8_greatestLaid 14 = .ok (.iaload, 1) := by decide +kernel
theorem dX8_greatestLaid_15 : decode cX8_greatestLaid 15 = .ok (.iload_n 1, 1) := by decide +kernel
theorem dX8_greatestLaid_16 : decode cX8_greatestLaid 16 = .ok (.if_icmp .le 12, 3) := by decide +kernel
theorem dX8_greatestLaid_19 : decode cX8_greatestLaid 19 = .ok (.aload_n 0, 1) := by decide +kernel
theorem dX8_greatestLaid_20 : decode cX8_greatestLaid 20 = .ok (.getfield 87, 3) := by decide +kernel
theorem dX8_greatestLaid_23 : decode cX8_greatestLaid 23 = .ok (.iload_n 2, 1) := by decide +kernel
theorem dX8_greatestLaid_24 : decode cX8_greatestLaid 24 = .ok (.iaload, 1) := by decide +kernel
theorem dX8_greatestLaid_25 : decode cX8_greatestLaid 25 = .ok (.goto 4, 3) := by decide +kernel
theorem dX8_greatestLaid_28 : decode cX8_greatestLaid 28 = .ok (.iload_n 1, 1) := by decide +kernel
theorem dX8_greatestLaid_29 : decode cX8_greatestLaid 29 = .ok (.istore_n 1, 1) := by decide +kernel
theorem dX8_greatestLaid_30 : decode cX8_greatestLaid 30 = .ok (.iinc 2 1, 3) := by decide +kernel
theorem dX8_greatestLaid_33 : decode cX8_greatestLaid 33 = .ok (.goto (-29), 3) := by decide +kernel
theorem dX8_greatestLaid_36 : decode cX8_greatestLaid 36 = .ok (.iload_n 1, 1) := by decide +kernel
theorem dX8_greatestLaid_37 : decode cX8_greatestLaid 37 = .ok (.ireturn, 1) := by decide +kernel
theorem dX8_greatest_0 : decode cX8_greatest 0 = .ok (.aload_n 0, 1) := by decide +kernel
theorem dX8_greatest_1 : decode cX8_greatest 1 = .ok (.invokevirtual 320, 3) := by decide +kernel
theorem dX8_greatest_4 : decode cX8_greatest 4 = .ok (.aload_n 0, 1) := by decide +kernel
theorem dX8_greatest_5 : decode cX8_greatest 5 = .ok (.invokevirtual 323, 3) := by decide +kernel
theorem dX8_greatest_8 : decode cX8_greatest 8 = .ok (.ireturn, 1) := by decide +kernel
theorem dX8_stillSet_0 : decode cX8_stillSet 0 = .ok (.aload_n 0, 1) := by decide +kernel
theorem dX8_stillSet_1 : decode cX8_stillSet 1 = .ok (.invokevirtual 320, 3) := by decide +kernel
theorem dX8_stillSet_4 : decode cX8_stillSet 4 = .ok (.iconst 0, 1) := by decide +kernel
theorem dX8_stillSet_5 : decode cX8_stillSet 5 = .ok (.istore_n 1, 1) := by decide +kernel
theorem dX8_stillSet_6 : decode cX8_stillSet 6 = .ok (.iconst 0, 1) := by decide +kernel
theorem dX8_stillSet_7 : decode cX8_stillSet 7 = .ok (.istore_n 2, 1) := by decide +kernel
theorem dX8_stillSet_8 : decode cX8_stillSet 8 = .ok (.iload_n 2, 1) := by decide +kernel
theorem dX8_stillSet_9 : decode cX8_stillSet 9 = .ok (.iconst 5, 1) := by decide +kernel
theorem dX8_stillSet_10 : decode cX8_stillSet 10 = .ok (.if_icmp .ge 32, 3) := by decide +kernel
theorem dX8_stillSet_13 : decode cX8_stillSet 13 = .ok (.iload_n 1, 1) := by decide +kernel
theorem dX8_stillSet_14 : decode cX8_stillSet 14 = .ok (.aload_n 0, 1) := by decide +kernel
theorem dX8_stillSet_15 : decode cX8_stillSet 15 = .ok (.getfield 87, 3) := by decide +kernel
theorem dX8_stillSet_18 : decode cX8_stillSet 18 = .ok (.iload_n 2, 1) := by decide +kernel
theorem dX8_stillSet_19 : decode cX8_stillSet 19 = .ok (.iaload, 1) := by decide +kernel
theorem dX8_stillSet_20 : decode cX8_stillSet 20 = .ok (.aload_n 0, 1) := by decide +kernel
theorem dX8_stillSet_21 : decode cX8_stillSet 21 = .ok (.invokevirtual 326, 3) := by decide +kernel
theorem dX8_stillSet_24 : decode cX8_stillSet 24 = .ok (.if_icmp .gt 9, 3) := by decide +kernel
theorem dX8_stillSet_27 : decode cX8_stillSet 27 = .ok (.iconst 1, 1) := by decide +kernel
theorem dX8_stillSet_28 : decode cX8_stillSet 28 = .ok (.iload_n 2, 1) := by decide +kernel
theorem dX8_stillSet_29 : decode cX8_stillSet 29 = .ok (.ishl, 1) := by decide +kernel
theorem dX8_stillSet_30 : decode cX8_stillSet 30 = .ok (.goto 4, 3) := by decide +kernel
theorem dX8_stillSet_33 : decode cX8_stillSet 33 = .ok (.iconst 0, 1) := by decide +kernel
theorem dX8_stillSet_34 : decode cX8_stillSet 34 = .ok (.ior, 1) := by decide +kernel
theorem dX8_stillSet_35 : decode cX8_stillSet 35 = .ok (.istore_n 1, 1) := by decide +kernel
theorem dX8_stillSet_36 : decode cX8_stillSet 36 = .ok (.iinc 2 1, 3) := by decide +kernel
theorem dX8_stillSet_39 : decode cX8_stillSet 39 = .ok (.goto (-31), 3) := by decide +kernel
theorem dX8_stillSet_42 : decode cX8_stillSet 42 = .ok (.iload_n 1, 1) := by decide +kernel
theorem dX8_stillSet_43 : decode cX8_stillSet 43 = .ok (.ireturn, 1) := by decide +kernel
theorem dX8_wears_0 : decode cX8_wears 0 = .ok (.aload_n 0, 1) := by decide +kernel
theorem dX8_wears_1 : decode cX8_wears 1 = .ok (.getfield 16, 3) := by decide +kernel
theorem dX8_wears_4 : decode cX8_wears 4 = .ok (.iload_n 1, 1) := by decide +kernel
theorem dX8_wears_5 : decode cX8_wears 5 = .ok (.iaload, 1) := by decide +kernel
theorem dX8_wears_6 : decode cX8_wears 6 = .ok (.lookupswitch 59 #[(1, 34), (4, 34), (6, 41)], 34) := by decide +kernel
theorem dX8_wears_40 : decode cX8_wears 40 = .ok (.aload_n 0, 1) := by decide +kernel
theorem dX8_wears_41 : decode cX8_wears 41 = .ok (.invokevirtual 329, 3) := by decide +kernel
theorem dX8_wears_44 : decode cX8_wears 44 = .ok (.iconst 2, 1) := by decide +kernel
theorem dX8_wears_45 : decode cX8_wears 45 = .ok (.idiv, 1) := by decide +kernel
theorem dX8_wears_46 : decode cX8_wears 46 = .ok (.ireturn, 1) := by decide +kernel
theorem dX8_wears_47 : decode cX8_wears 47 = .ok (.aload_n 0, 1) := by decide +kernel
theorem dX8_wears_48 : decode cX8_wears 48 = .ok (.getfield 13, 3) := by decide +kernel
theorem dX8_wears_51 : decode cX8_wears 51 = .ok (.iconst 2, 1) := by decide +kernel
theorem dX8_wears_52 : decode cX8_wears 52 = .ok (.irem, 1) := by decide +kernel
theorem dX8_wears_53 : decode cX8_wears 53 = .ok (.ifCond .ne 7, 3) := by decide +kernel
theorem dX8_wears_56 : decode cX8_wears 56 = .ok (.iconst 0, 1) := by decide +kernel
theorem dX8_wears_57 : decode cX8_wears 57 = .ok (.goto 7, 3) := by decide +kernel
theorem dX8_wears_60 : decode cX8_wears 60 = .ok (.aload_n 0, 1) := by decide +kernel
theorem dX8_wears_61 : decode cX8_wears 61 = .ok (.invokevirtual 329, 3) := by decide +kernel
theorem dX8_wears_64 : decode cX8_wears 64 = .ok (.ireturn, 1) := by decide +kernel
theorem dX8_wears_65 : decode cX8_wears 65 = .ok (.aload_n 0, 1) := by decide +kernel
theorem dX8_wears_66 : decode cX8_wears 66 = .ok (.invokevirtual 329, 3) := by decide +kernel
theorem dX8_wears_69 : decode cX8_wears 69 = .ok (.ireturn, 1) := by decide +kernel
theorem dX8_of_0 : decode cX8_of 0 = .ok (.aload_n 0, 1) := by decide +kernel
theorem dX8_of_1 : decode cX8_of 1 = .ok (.iload_n 1, 1) := by decide +kernel
theorem dX8_of_2 : decode cX8_of 2 = .ok (.invokevirtual 229, 3) := by decide +kernel
theorem dX8_of_5 : decode cX8_of 5 = .ok (.ifCond .ne 7, 3) := by decide +kernel
theorem dX8_of_8 : decode cX8_of 8 = .ok (.sipush (-1001), 3) := by decide +kernel
theorem dX8_of_11 : decode cX8_of 11 = .ok (.ireturn, 1) := by decide +kernel
theorem dX8_of_12 : decode cX8_of 12 = .ok (.aload_n 0, 1) := by decide +kernel
theorem dX8_of_13 : decode cX8_of 13 = .ok (.iload_n 2, 1) := by decide +kernel
theorem dX8_of_14 : decode cX8_of 14 = .ok (.bipush 10, 2) := by decide +kernel
theorem dX8_of_16 : decode cX8_of 16 = .ok (.bipush 14, 2) := by decide +kernel
theorem dX8_of_18 : decode cX8_of 18 = .ok (.invokevirtual 218, 3) := by decide +kernel
theorem dX8_of_21 : decode cX8_of 21 = .ok (.ifCond .eq 13, 3) := by decide +kernel
theorem dX8_of_24 : decode cX8_of 24 = .ok (.aload_n 0, 1) := by decide +kernel
theorem dX8_of_25 : decode cX8_of 25 = .ok (.iload_n 1, 1) := by decide +kernel
theorem dX8_of_26 : decode cX8_of 26 = .ok (.iload_n 2, 1) := by decide +kernel
theorem dX8_of_27 : decode cX8_of 27 = .ok (.bipush 10, 2) := by decide +kernel
theorem dX8_of_29 : decode cX8_of 29 = .ok (.isub, 1) := by decide +kernel
theorem dX8_of_30 : decode cX8_of 30 = .ok (.invokevirtual 314, 3) := by decide +kernel
theorem dX8_of_33 : decode cX8_of 33 = .ok (.ireturn, 1) := by decide +kernel
theorem dX8_of_34 : decode cX8_of 34 = .ok (.aload_n 0, 1) := by decide +kernel
theorem dX8_of_35 : decode cX8_of 35 = .ok (.iload_n 2, 1) := by decide +kernel
theorem dX8_of_36 : decode cX8_of 36 = .ok (.bipush 20, 2) := by decide +kernel
theorem dX8_of_38 : decode cX8_of 38 = .ok (.bipush 24, 2) := by decide +kernel
theorem dX8_of_40 : decode cX8_of 40 = .ok (.invokevirtual 218, 3) := by decide +kernel
theorem dX8_of_43 : decode cX8_of 43 = .ok (.ifCond .eq 13, 3) := by decide +kernel
theorem dX8_of_46 : decode cX8_of 46 = .ok (.aload_n 0, 1) := by decide +kernel
theorem dX8_of_47 : decode cX8_of 47 = .ok (.iload_n 1, 1) := by decide +kernel
theorem dX8_of_48 : decode cX8_of 48 = .ok (.iload_n 2, 1) := by decide +kernel
theorem dX8_of_49 : decode cX8_of 49 = .ok (.bipush 20, 2) := by decide +kernel
theorem dX8_of_51 : decode cX8_of 51 = .ok (.isub, 1) := by decide +kernel
theorem dX8_of_52 : decode cX8_of 52 = .ok (.invokevirtual 332, 3) := by decide +kernel
theorem dX8_of_55 : decode cX8_of 55 = .ok (.ireturn, 1) := by decide +kernel
theorem dX8_of_56 : decode cX8_of 56 = .ok (.iload_n 2, 1) := by decide +kernel
theorem dX8_of_57 : decode cX8_of 57 = .ok (.tableswitch 69 0 4 #[35, 42, 49, 56, 63], 35) := by decide +kernel
theorem dX8_of_92 : decode cX8_of 92 = .ok (.aload_n 0, 1) := by decide +kernel
theorem dX8_of_93 : decode cX8_of 93 = .ok (.getfield 16, 3) := by decide +kernel
theorem dX8_of_96 : decode cX8_of 96 = .ok (.iload_n 1, 1) := by decide +kernel
theorem dX8_of_97 : decode cX8_of 97 = .ok (.iaload, 1) := by decide +kernel
theorem dX8_of_98 : decode cX8_of 98 = .ok (.ireturn, 1) := by decide +kernel
theorem dX8_of_99 : decode cX8_of 99 = .ok (.aload_n 0, 1) := by decide +kernel
theorem dX8_of_100 : decode cX8_of 100 = .ok (.getfield 20, 3) := by decide +kernel
theorem dX8_of_103 : decode cX8_of 103 = .ok (.iload_n 1, 1) := by decide +kernel
theorem dX8_of_104 : decode cX8_of 104 = .ok (.iaload, 1) := by decide +kernel
theorem dX8_of_105 : decode cX8_of 105 = .ok (.ireturn, 1) := by decide +kernel
theorem dX8_of_106 : decode cX8_of 106 = .ok (.aload_n 0, 1) := by decide +kernel
theorem dX8_of_107 : decode cX8_of 107 = .ok (.getfield 23, 3) := by decide +kernel
theorem dX8_of_110 : decode cX8_of 110 = .ok (.iload_n 1, 1) := by decide +kernel
theorem dX8_of_111 : decode cX8_of 111 = .ok (.iaload, 1) := by decide +kernel
theorem dX8_of_112 : decode cX8_of 112 = .ok (.ireturn, 1) := by decide +kernel
theorem dX8_of_113 : decode cX8_of 113 = .ok (.aload_n 0, 1) := by decide +kernel
theorem dX8_of_114 : decode cX8_of 114 = .ok (.getfield 26, 3) := by decide +kernel
theorem dX8_of_117 : decode cX8_of 117 = .ok (.iload_n 1, 1) := by decide +kernel
theorem dX8_of_118 : decode cX8_of 118 = .ok (.iaload, 1) := by decide +kernel
theorem dX8_of_119 : decode cX8_of 119 = .ok (.ireturn, 1) := by decide +kernel
theorem dX8_of_120 : decode cX8_of 120 = .ok (.aload_n 0, 1) := by decide +kernel
theorem dX8_of_121 : decode cX8_of 121 = .ok (.iload_n 1, 1) := by decide +kernel
theorem dX8_of_122 : decode cX8_of 122 = .ok (.invokevirtual 335, 3) := by decide +kernel
theorem dX8_of_125 : decode cX8_of 125 = .ok (.ireturn, 1) := by decide +kernel
theorem dX8_of_126 : decode cX8_of 126 = .ok (.sipush (-1001), 3) := by decide +kernel
theorem dX8_of_129 : decode cX8_of 129 = .ok (.ireturn, 1) := by decide +kernel
theorem dX8_told_0 : decode cX8_told 0 = .ok (.aload_n 0, 1) := by decide +kernel
theorem dX8_told_1 : decode cX8_told 1 = .ok (.iload_n 1, 1) := by decide +kernel
theorem dX8_told_2 : decode cX8_told 2 = .ok (.bipush 10, 2) := by decide +kernel
theorem dX8_told_4 : decode cX8_told 4 = .ok (.bipush 14, 2) := by decide +kernel
theorem dX8_told_6 : decode cX8_told 6 = .ok (.invokevirtual 218, 3) := by decide +kernel
theorem dX8_told_9 : decode cX8_told 9 = .ok (.ifCond .eq 12, 3) := by decide +kernel
theorem dX8_told_12 : decode cX8_told 12 = .ok (.aload_n 0, 1) := by decide +kernel
theorem dX8_told_13 : decode cX8_told 13 = .ok (.iload_n 1, 1) := by decide +kernel
theorem dX8_told_14 : decode cX8_told 14 = .ok (.bipush 10, 2) := by decide +kernel
theorem dX8_told_16 : decode cX8_told 16 = .ok (.isub, 1) := by decide +kernel
theorem dX8_told_17 : decode cX8_told 17 = .ok (.invokevirtual 239, 3) := by decide +kernel
theorem dX8_told_20 : decode cX8_told 20 = .ok (.ireturn, 1) := by decide +kernel
theorem dX8_told_21 : decode cX8_told 21 = .ok (.iload_n 1, 1) := by decide +kernel
theorem dX8_told_22 : decode cX8_told 22 = .ok (.tableswitch 68 0 5 #[38, 43, 48, 53, 58, 63], 38) := by decide +kernel
theorem dX8_told_60 : decode cX8_told 60 = .ok (.aload_n 0, 1) := by decide +kernel
theorem dX8_told_61 : decode cX8_told 61 = .ok (.getfield 13, 3) := by decide +kernel
theorem dX8_told_64 : decode cX8_told 64 = .ok (.ireturn, 1) := by decide +kernel
theorem dX8_told_65 : decode cX8_told 65 = .ok (.aload_n 0, 1) := by decide +kernel
theorem dX8_told_66 : decode cX8_told 66 = .ok (.invokevirtual 311, 3) := by decide +kernel
theorem dX8_told_69 : decode cX8_told 69 = .ok (.ireturn, 1) := by decide +kernel
theorem dX8_told_70 : decode cX8_told 70 = .ok (.aload_n 0, 1) := by decide +kernel
theorem dX8_told_71 : decode cX8_told 71 = .ok (.invokevirtual 326, 3) := by decide +kernel
theorem dX8_told_74 : decode cX8_told 74 = .ok (.ireturn, 1) := by decide +kernel
theorem dX8_told_75 : decode cX8_told 75 = .ok (.aload_n 0, 1) := by decide +kernel
theorem dX8_told_76 : decode cX8_told 76 = .ok (.invokevirtual 329, 3) := by decide +kernel
theorem dX8_told_79 : decode cX8_told 79 = .ok (.ireturn, 1) := by decide +kernel
theorem dX8_told_80 : decode cX8_told 80 = .ok (.aload_n 0, 1) := by decide +kernel
theorem dX8_told_81 : decode cX8_told 81 = .ok (.invokevirtual 338, 3) := by decide +kernel
theorem dX8_told_84 : decode cX8_told 84 = .ok (.ireturn, 1) := by decide +kernel
theorem dX8_told_85 : decode cX8_told 85 = .ok (.aload_n 0, 1) := by decide +kernel
theorem dX8_told_86 : decode cX8_told 86 = .ok (.invokevirtual 341, 3) := by decide +kernel
theorem dX8_told_89 : decode cX8_told 89 = .ok (.ireturn, 1) := by decide +kernel
theorem dX8_told_90 : decode cX8_told 90 = .ok (.iconst (-1), 1) := by decide +kernel
theorem dX8_told_91 : decode cX8_told 91 = .ok (.ireturn, 1) := by decide +kernel
theorem dX8_goYear_0 : decode cX8_goYear 0 = .ok (.iconst 0, 1) := by decide +kernel
theorem dX8_goYear_1 : decode cX8_goYear 1 = .ok (.istore_n 1, 1) := by decide +kernel
theorem dX8_goYear_2 : decode cX8_goYear 2 = .ok (.iload_n 1, 1) := by decide +kernel
theorem dX8_goYear_3 : decode cX8_goYear 3 = .ok (.aload_n 0, 1) := by decide +kernel
theorem dX8_goYear_4 : decode cX8_goYear 4 = .ok (.getfield 7, 3) := by decide +kernel
theorem dX8_goYear_7 : decode cX8_goYear 7 = .ok (.if_icmp .ge 48, 3) := by decide +kernel
theorem dX8_goYear_10 : decode cX8_goYear 10 = .ok (.aload_n 0, 1) := by decide +kernel
theorem dX8_goYear_11 : decode cX8_goYear 11 = .ok (.getfield 23, 3) := by decide +kernel
theorem dX8_goYear_14 : decode cX8_goYear 14 = .ok (.iload_n 1, 1) := by decide +kernel
theorem dX8_goYear_15 : decode cX8_goYear 15 = .ok (.aload_n 0, 1) := by decide +kernel
theorem dX8_goYear_16 : decode cX8_goYear 16 = .ok (.iload_n 1, 1) := by decide +kernel
theorem dX8_goYear_17 : decode cX8_goYear 17 = .ok (.invokevirtual 232, 3) := by decide +kernel
theorem dX8_goYear_20 : decode cX8_goYear 20 = .ok (.ifCond .eq 12, 3) := by decide +kernel
theorem dX8_goYear_23 : decode cX8_goYear 23 = .ok (.aload_n 0, 1) := by decide +kernel
theorem dX8_goYear_24 : decode cX8_goYear 24 = .ok (.getfield 23, 3) := by decide +kernel
theorem dX8_goYear_27 : decode cX8_goYear 27 = .ok (.iload_n 1, 1) := by decide +kernel
theorem dX8_goYear_28 : decode cX8_goYear 28 = .ok (.iaload, 1) := by decide +kernel
theorem dX8_goYear_29 : decode cX8_goYear 29 = .ok (.goto 19, 3) := by decide +kernel
theorem dX8_goYear_32 : decode cX8_goYear 32 = .ok (.aload_n 0, 1) := by decide +kernel
theorem dX8_goYear_33 : decode cX8_goYear 33 = .ok (.aload_n 0, 1) := by decide +kernel
theorem dX8_goYear_34 : decode cX8_goYear 34 = .ok (.getfield 23, 3) := by decide +kernel
theorem dX8_goYear_37 : decode cX8_goYear 37 = .ok (.iload_n 1, 1) := by decide +kernel
theorem dX8_goYear_38 : decode cX8_goYear 38 = .ok (.iaload, 1) := by decide +kernel
theorem dX8_goYear_39 : decode cX8_goYear 39 = .ok (.aload_n 0, 1) := by decide +kernel
theorem dX8_goYear_40 : decode cX8_goYear 40 = .ok (.iload_n 1, 1) := by decide +kernel
theorem dX8_goYear_41 : decode cX8_goYear 41 = .ok (.invokevirtual 335, 3) := by decide +kernel
theorem dX8_goYear_44 : decode cX8_goYear 44 = .ok (.isub, 1) := by decide +kernel
theorem dX8_goYear_45 : decode cX8_goYear 45 = .ok (.invokevirtual 308, 3) := by decide +kernel
theorem dX8_goYear_48 : decode cX8_goYear 48 = .ok (.iastore, 1) := by decide +kernel
theorem dX8_goYear_49 : decode cX8_goYear 49 = .ok (.iinc 1 1, 3) := by decide +kernel
theorem dX8_goYear_52 : decode cX8_goYear 52 = .ok (.goto (-50), 3) := by decide +kernel
theorem dX8_goYear_55 : decode cX8_goYear 55 = .ok (.aload_n 0, 1) := by decide +kernel
theorem dX8_goYear_56 : decode cX8_goYear 56 = .ok (.dup, 1) := by decide +kernel
theorem dX8_goYear_57 : decode cX8_goYear 57 = .ok (.getfield 13, 3) := by decide +kernel
theorem dX8_goYear_60 : decode cX8_goYear 60 = .ok (.iconst 1, 1) := by decide +kernel
theorem dX8_goYear_61 : decode cX8_goYear 61 = .ok (.iadd, 1) := by decide +kernel
theorem dX8_goYear_62 : decode cX8_goYear 62 = .ok (.putfield 13, 3) := by decide +kernel
theorem dX8_goYear_65 : decode cX8_goYear 65 = .ok (.return_, 1) := by decide +kernel
theorem dX8_goYears_0 : decode cX8_goYears 0 = .ok (.iconst 0, 1) := by decide +kernel
theorem dX8_goYears_1 : decode cX8_goYears 1 = .ok (.istore_n 2, 1) := by decide +kernel
theorem dX8_goYears_2 : decode cX8_goYears 2 = .ok (.iload_n 2, 1) := by decide +kernel
theorem dX8_goYears_3 : decode cX8_goYears 3 = .ok (.iload_n 1, 1) := by decide +kernel
theorem dX8_goYears_4 : decode cX8_goYears 4 = .ok (.if_icmp .ge 13, 3) := by decide +kernel
theorem dX8_goYears_7 : decode cX8_goYears 7 = .ok (.aload_n 0, 1) := by decide +kernel
theorem dX8_goYears_8 : decode cX8_goYears 8 = .ok (.invokevirtual 344, 3) := by decide +kernel
theorem dX8_goYears_11 : decode cX8_goYears 11 = .ok (.iinc 2 1, 3) := by decide +kernel
theorem dX8_goYears_14 : decode cX8_goYears 14 = .ok (.goto (-12), 3) := by decide +kernel
theorem dX8_goYears_17 : decode cX8_goYears 17 = .ok (.return_, 1) := by decide +kernel
theorem dX8_years_0 : decode cX8_years 0 = .ok (.aload_n 0, 1) := by decide +kernel
theorem dX8_years_1 : decode cX8_years 1 = .ok (.iload_n 1, 1) := by decide +kernel
theorem dX8_years_2 : decode cX8_years 2 = .ok (.invokevirtual 347, 3) := by decide +kernel
theorem dX8_years_5 : decode cX8_years 5 = .ok (.ifCond .ne 6, 3) := by decide +kernel
theorem dX8_years_8 : decode cX8_years 8 = .ok (.bipush (-2), 2) := by decide +kernel
theorem dX8_years_10 : decode cX8_years 10 = .ok (.ireturn, 1) := by decide +kernel
theorem dX8_years_11 : decode cX8_years 11 = .ok (.aload_n 0, 1) := by decide +kernel
theorem dX8_years_12 : decode cX8_years 12 = .ok (.getfield 13, 3) := by decide +kernel
theorem dX8_years_15 : decode cX8_years 15 = .ok (.iload_n 1, 1) := by decide +kernel
theorem dX8_years_16 : decode cX8_years 16 = .ok (.iadd, 1) := by decide +kernel
theorem dX8_years_17 : decode cX8_years 17 = .ok (.sipush 9999, 3) := by decide +kernel
theorem dX8_years_20 : decode cX8_years 20 = .ok (.if_icmp .le 6, 3) := by decide +kernel
theorem dX8_years_23 : decode cX8_years 23 = .ok (.bipush (-3), 2) := by decide +kernel
theorem dX8_years_25 : decode cX8_years 25 = .ok (.ireturn, 1) := by decide +kernel
theorem dX8_years_26 : decode cX8_years 26 = .ok (.aload_n 0, 1) := by decide +kernel
theorem dX8_years_27 : decode cX8_years 27 = .ok (.iload_n 1, 1) := by decide +kernel
theorem dX8_years_28 : decode cX8_years 28 = .ok (.invokevirtual 350, 3) := by decide +kernel
theorem dX8_years_31 : decode cX8_years 31 = .ok (.aload_n 0, 1) := by decide +kernel
theorem dX8_years_32 : decode cX8_years 32 = .ok (.getfield 13, 3) := by decide +kernel
theorem dX8_years_35 : decode cX8_years 35 = .ok (.ireturn, 1) := by decide +kernel
theorem dX8_save_0 : decode cX8_save 0 = .ok (.aload_n 0, 1) := by decide +kernel
theorem dX8_save_1 : decode cX8_save 1 = .ok (.aload_n 0, 1) := by decide +kernel
theorem dX8_save_2 : decode cX8_save 2 = .ok (.getfield 13, 3) := by decide +kernel
theorem dX8_save_5 : decode cX8_save 5 = .ok (.putfield 90, 3) := by decide +kernel
theorem dX8_save_8 : decode cX8_save 8 = .ok (.iconst 0, 1) := by decide +kernel
theorem dX8_save_9 : decode cX8_save 9 = .ok (.istore_n 1, 1) := by decide +kernel
theorem dX8_save_10 : decode cX8_save 10 = .ok (.iload_n 1, 1) := by decide +kernel
theorem dX8_save_11 : decode cX8_save 11 = .ok (.bipush 6, 2) := by decide +kernel
theorem dX8_save_13 : decode cX8_save 13 = .ok (.if_icmp .ge 33, 3) := by decide +kernel
theorem dX8_save_16 : decode cX8_save 16 = .ok (.aload_n 0, 1) := by decide +kernel
theorem dX8_save_17 : decode cX8_save 17 = .ok (.getfield 93, 3) := by decide +kernel
theorem dX8_save_20 : decode cX8_save 20 = .ok (.iload_n 1, 1) := by decide +kernel
theorem dX8_save_21 : decode cX8_save 21 = .ok (.aload_n 0, 1) := by decide +kernel
theorem dX8_save_22 : decode cX8_save 22 = .ok (.getfield 23, 3) := by decide +kernel
theorem dX8_save_25 : decode cX8_save 25 = .ok (.iload_n 1, 1) := by decide +kernel
theorem dX8_save_26 : decode cX8_save 26 = .ok (.iaload, 1) := by decide +kernel
theorem dX8_save_27 : decode cX8_save 27 = .ok (.iastore, 1) := by decide +kernel
theorem dX8_save_28 : decode cX8_save 28 = .ok (.aload_n 0, 1) := by decide +kernel
theorem dX8_save_29 : decode cX8_save 29 = .ok (.getfield 96, 3) := by decide +kernel
theorem dX8_save_32 : decode cX8_save 32 = .ok (.iload_n 1, 1) := by decide +kernel
theorem dX8_save_33 : decode cX8_save 33 = .ok (.aload_n 0, 1) := by decide +kernel
theorem dX8_save_34 : decode cX8_save 34 = .ok (.getfield 26, 3) := by decide +kernel
theorem dX8_save_37 : decode cX8_save 37 = .ok (.iload_n 1, 1) := by decide +kernel
theorem dX8_save_38 : decode cX8_save 38 = .ok (.iaload, 1) := by decide +kernel
theorem dX8_save_39 : decode cX8_save 39 = .ok (.iastore, 1) := by decide +kernel
theorem dX8_save_40 : decode cX8_save 40 = .ok (.iinc 1 1, 3) := by decide +kernel
theorem dX8_save_43 : decode cX8_save 43 = .ok (.goto (-33), 3) := by decide +kernel
theorem dX8_save_46 : decode cX8_save 46 = .ok (.return_, 1) := by decide +kernel
theorem dX8_putBack_0 : decode cX8_putBack 0 = .ok (.aload_n 0, 1) := by decide +kernel
theorem dX8_putBack_1 : decode cX8_putBack 1 = .ok (.aload_n 0, 1) := by decide +kernel
theorem dX8_putBack_2 : decode cX8_putBack 2 = .ok (.getfield 90, 3) := by decide +kernel
theorem dX8_putBack_5 : decode cX8_putBack 5 = .ok (.putfield 13, 3) := by decide +kernel
theorem dX8_putBack_8 : decode cX8_putBack 8 = .ok (.iconst 0, 1) := by decide +kernel
theorem dX8_putBack_9 : decode cX8_putBack 9 = .ok (.istore_n 1, 1) := by decide +kernel
theorem dX8_putBack_10 : decode cX8_putBack 10 = .ok (.iload_n 1, 1) := by decide +kernel
theorem dX8_putBack_11 : decode cX8_putBack 11 = .ok (.bipush 6, 2) := by decide +kernel
theorem dX8_putBack_13 : decode cX8_putBack 13 = .ok (.if_icmp .ge 33, 3) := by decide +kernel
theorem dX8_putBack_16 : decode cX8_putBack 16 = .ok (.aload_n 0, 1) := by decide +kernel
theorem dX8_putBack_17 : decode cX8_putBack 17 = .ok (.getfield 23, 3) := by decide +kernel
theorem dX8_putBack_20 : decode cX8_putBack 20 = .ok (.iload_n 1, 1) := by decide +kernel
theorem dX8_putBack_21 : decode cX8_putBack 21 = .ok (.aload_n 0, 1) := by decide +kernel
theorem dX8_putBack_22 : decode cX8_putBack 22 = .ok (.getfield 93, 3) := by decide +kernel
theorem dX8_putBack_25 : decode cX8_putBack 25 = .ok (.iload_n 1, 1) := by decide +kernel
theorem dX8_putBack_26 : decode cX8_putBack 26 = .ok (.iaload, 1) := by decide +kernel
theorem dX8_putBack_27 : decode cX8_putBack 27 = .ok (.iastore, 1) := by decide +kernel
theorem dX8_putBack_28 : decode cX8_putBack 28 = .ok (.aload_n 0, 1) := by decide +kernel
theorem dX8_putBack_29 : decode cX8_putBack 29 = .ok (.getfield 26, 3) := by decide +kernel
theorem dX8_putBack_32 : decode cX8_putBack 32 = .ok (.iload_n 1, 1) := by decide +kernel
theorem dX8_putBack_33 : decode cX8_putBack 33 = .ok (.aload_n 0, 1) := by decide +kernel
theorem dX8_putBack_34 : decode cX8_putBack 34 = .ok (.getfield 96, 3) := by decide +kernel
theorem dX8_putBack_37 : decode cX8_putBack 37 = .ok (.iload_n 1, 1) := by decide +kernel
theorem dX8_putBack_38 : decode cX8_putBack 38 = .ok (.iaload, 1) := by decide +kernel
theorem dX8_putBack_39 : decode cX8_putBack 39 = .ok (.iastore, 1) := by decide +kernel
theorem dX8_putBack_40 : decode cX8_putBack 40 = .ok (.iinc 1 1, 3) := by decide +kernel
theorem dX8_putBack_43 : decode cX8_putBack 43 = .ok (.goto (-33), 3) := by decide +kernel
theorem dX8_putBack_46 : decode cX8_putBack 46 = .ok (.return_, 1) := by decide +kernel
theorem dX8_on_0 : decode cX8_on 0 = .ok (.iload_n 2, 1) := by decide +kernel
theorem dX8_on_1 : decode cX8_on 1 = .ok (.ifCond .eq 34, 3) := by decide +kernel
theorem dX8_on_4 : decode cX8_on 4 = .ok (.aload_n 0, 1) := by decide +kernel
theorem dX8_on_5 : decode cX8_on 5 = .ok (.iload_n 2, 1) := by decide +kernel
theorem dX8_on_6 : decode cX8_on 6 = .ok (.bipush 10, 2) := by decide +kernel
theorem dX8_on_8 : decode cX8_on 8 = .ok (.bipush 14, 2) := by decide +kernel
theorem dX8_on_10 : decode cX8_on 10 = .ok (.invokevirtual 218, 3) := by decide +kernel
theorem dX8_on_13 : decode cX8_on 13 = .ok (.ifCond .ne 22, 3) := by decide +kernel
theorem dX8_on_16 : decode cX8_on 16 = .ok (.aload_n 0, 1) := by decide +kernel
theorem dX8_on_17 : decode cX8_on 17 = .ok (.iload_n 2, 1) := by decide +kernel
theorem dX8_on_18 : decode cX8_on 18 = .ok (.bipush 20, 2) := by decide +kernel
theorem dX8_on_20 : decode cX8_on 20 = .ok (.bipush 19, 2) := by decide +kernel
theorem dX8_on_22 : decode cX8_on 22 = .ok (.aload_n 0, 1) := by decide +kernel
theorem dX8_on_23 : decode cX8_on 23 = .ok (.getfield 7, 3) := by decide +kernel
theorem dX8_on_26 : decode cX8_on 26 = .ok (.iadd, 1) := by decide +kernel
theorem dX8_on_27 : decode cX8_on 27 = .ok (.invokevirtual 218, 3) := by decide +kernel
theorem dX8_on_30 : decode cX8_on 30 = .ok (.ifCond .ne 5, 3) := by decide +kernel
theorem dX8_on_33 : decode cX8_on 33 = .ok (.iconst (-1), 1) := by decide +kernel
theorem dX8_on_34 : decode cX8_on 34 = .ok (.ireturn, 1) := by decide +kernel
theorem dX8_on_35 : decode cX8_on 35 = .ok (.aload_n 0, 1) := by decide +kernel
theorem dX8_on_36 : decode cX8_on 36 = .ok (.iload_n 1, 1) := by decide +kernel
theorem dX8_on_37 : decode cX8_on 37 = .ok (.invokevirtual 347, 3) := by decide +kernel
theorem dX8_on_40 : decode cX8_on 40 = .ok (.ifCond .ne 6, 3) := by decide +kernel
theorem dX8_on_43 : decode cX8_on 43 = .ok (.bipush (-2), 2) := by decide +kernel
theorem dX8_on_45 : decode cX8_on 45 = .ok (.ireturn, 1) := by decide +kernel
theorem dX8_on_46 : decode cX8_on 46 = .ok (.aload_n 0, 1) := by decide +kernel
theorem dX8_on_47 : decode cX8_on 47 = .ok (.invokevirtual 353, 3) := by decide +kernel
theorem dX8_on_50 : decode cX8_on 50 = .ok (.aload_n 0, 1) := by decide +kernel
theorem dX8_on_51 : decode cX8_on 51 = .ok (.iload_n 1, 1) := by decide +kernel
theorem dX8_on_52 : decode cX8_on 52 = .ok (.invokevirtual 350, 3) := by decide +kernel
theorem dX8_on_55 : decode cX8_on 55 = .ok (.iload_n 2, 1) := by decide +kernel
theorem dX8_on_56 : decode cX8_on 56 = .ok (.ifCond .ne 10, 3) := by decide +kernel
theorem dX8_on_59 : decode cX8_on 59 = .ok (.aload_n 0, 1) := by decide +kernel
theorem dX8_on_60 : decode cX8_on 60 = .ok (.invokevirtual 338, 3) := by decide +kernel
theorem dX8_on_63 : decode cX8_on 63 = .ok (.goto 29, 3) := by decide +kernel
theorem dX8_on_66 : decode cX8_on 66 = .ok (.iload_n 2, 1) := by decide +kernel
theorem dX8_on_67 : decode cX8_on 67 = .ok (.bipush 20, 2) := by decide +kernel
theorem dX8_on_69 : decode cX8_on 69 = .ok (.if_icmp .ge 14, 3) := by decide +kernel
theorem dX8_on_72 : decode cX8_on 72 = .ok (.aload_n 0, 1) := by decide +kernel
theorem dX8_on_73 : decode cX8_on 73 = .ok (.iload_n 2, 1) := by decide +kernel
theorem dX8_on_74 : decode cX8_on 74 = .ok (.bipush 10, 2) := by decide +kernel
theorem dX8_on_76 : decode cX8_on 76 = .ok (.isub, 1) := by decide +kernel
theorem dX8_on_77 : decode cX8_on 77 = .ok (.invokevirtual 239, 3) := by decide +kernel
theorem dX8_on_80 : decode cX8_on 80 = .ok (.goto 12, 3) := by decide +kernel
theorem dX8_on_83 : decode cX8_on 83 = .ok (.aload_n 0, 1) := by decide +kernel
theorem dX8_on_84 : decode cX8_on 84 = .ok (.getfield 23, 3) := by decide +kernel
theorem dX8_on_87 : decode cX8_on 87 = .ok (.iload_n 2, 1) := by decide +kernel
theorem dX8_on_88 : decode cX8_on 88 = .ok (.bipush 20, 2) := by decide +kernel
theorem dX8_on_90 : decode cX8_on 90 = .ok (.isub, 1) := by decide +kernel
theorem dX8_on_91 : decode cX8_on 91 = .ok (.iaload, 1) := by decide +kernel
theorem dX8_on_92 : decode cX8_on 92 = .ok (.istore_n 3, 1) := by decide +kernel
theorem dX8_on_93 : decode cX8_on 93 = .ok (.aload_n 0, 1) := by decide +kernel
theorem dX8_on_94 : decode cX8_on 94 = .ok (.invokevirtual 356, 3) := by decide +kernel
theorem dX8_on_97 : decode cX8_on 97 = .ok (.iload_n 3, 1) := by decide +kernel
theorem dX8_on_98 : decode cX8_on 98 = .ok (.ireturn, 1) := by decide +kernel
theorem dX8_when_0 : decode cX8_when 0 = .ok (.aload_n 0, 1) := by decide +kernel
theorem dX8_when_1 : decode cX8_when 1 = .ok (.iload_n 1, 1) := by decide +kernel
theorem dX8_when_2 : decode cX8_when 2 = .ok (.iconst 0, 1) := by decide +kernel
theorem dX8_when_3 : decode cX8_when 3 = .ok (.iconst 1, 1) := by decide +kernel
theorem dX8_when_4 : decode cX8_when 4 = .ok (.invokevirtual 218, 3) := by decide +kernel
theorem dX8_when_7 : decode cX8_when 7 = .ok (.ifCond .eq 26, 3) := by decide +kernel
theorem dX8_when_10 : decode cX8_when 10 = .ok (.iload_n 1, 1) := by decide +kernel
theorem dX8_when_11 : decode cX8_when 11 = .ok (.ifCond .ne 14, 3) := by decide +kernel
theorem dX8_when_14 : decode cX8_when 14 = .ok (.aload_n 0, 1) := by decide +kernel
theorem dX8_when_15 : decode cX8_when 15 = .ok (.iload_n 2, 1) := by decide +kernel
theorem dX8_when_16 : decode cX8_when 16 = .ok (.invokevirtual 222, 3) := by decide +kernel
theorem dX8_when_19 : decode cX8_when 19 = .ok (.ifCond .ne 16, 3) := by decide +kernel
theorem dX8_when_22 : decode cX8_when 22 = .ok (.goto 11, 3) := by decide +kernel
theorem dX8_when_25 : decode cX8_when 25 = .ok (.aload_n 0, 1) := by decide +kernel
theorem dX8_when_26 : decode cX8_when 26 = .ok (.iload_n 2, 1) := by decide +kernel
theorem dX8_when_27 : decode cX8_when 27 = .ok (.invokevirtual 229, 3) := by decide +kernel
theorem dX8_when_30 : decode cX8_when 30 = .ok (.ifCond .ne 5, 3) := by decide +kernel
theorem dX8_when_33 : decode cX8_when 33 = .ok (.iconst (-1), 1) := by decide +kernel
theorem dX8_when_34 : decode cX8_when 34 = .ok (.ireturn, 1) := by decide +kernel
theorem dX8_when_35 : decode cX8_when 35 = .ok (.iload_n 1, 1) := by decide +kernel
theorem dX8_when_36 : decode cX8_when 36 = .ok (.iconst 1, 1) := by decide +kernel
theorem dX8_when_37 : decode cX8_when 37 = .ok (.if_icmp .ne 14, 3) := by decide +kernel
theorem dX8_when_40 : decode cX8_when 40 = .ok (.aload_n 0, 1) := by decide +kernel
theorem dX8_when_41 : decode cX8_when 41 = .ok (.iload_n 2, 1) := by decide +kernel
theorem dX8_when_42 : decode cX8_when 42 = .ok (.invokevirtual 232, 3) := by decide +kernel
theorem dX8_when_45 : decode cX8_when 45 = .ok (.ifCond .eq 6, 3) := by decide +kernel
theorem dX8_when_48 : decode cX8_when 48 = .ok (.bipush (-5), 2) := by decide +kernel
theorem dX8_when_50 : decode cX8_when 50 = .ok (.ireturn, 1) := by decide +kernel
theorem dX8_when_51 : decode cX8_when 51 = .ok (.aload_n 0, 1) := by decide +kernel
theorem dX8_when_52 : decode cX8_when 52 = .ok (.invokevirtual 353, 3) := by decide +kernel
theorem dX8_when_55 : decode cX8_when 55 = .ok (.bipush (-5), 2) := by decide +kernel
theorem dX8_when_57 : decode cX8_when 57 = .ok (.istore_n 3, 1) := by decide +kernel
theorem dX8_when_58 : decode cX8_when 58 = .ok (.iconst 0, 1) := by decide +kernel
theorem dX8_when_59 : decode cX8_when 59 = .ok (.istore 4, 2) := by decide +kernel
theorem dX8_when_61 : decode cX8_when 61 = .ok (.iload 4, 2) := by decide +kernel
theorem dX8_when_63 : decode cX8_when 63 = .ok (.bipush 61, 2) := by decide +kernel
theorem dX8_when_65 : decode cX8_when 65 = .ok (.if_icmp .ge 70, 3) := by decide +kernel
theorem dX8_when_68 : decode cX8_when 68 = .ok (.iload_n 3, 1) := by decide +kernel
theorem dX8_when_69 : decode cX8_when 69 = .ok (.ifCond .ge 66, 3) := by decide +kernel
theorem dX8_when_72 : decode cX8_when 72 = .ok (.iload_n 1, 1) := by decide +kernel
theorem dX8_when_73 : decode cX8_when 73 = .ok (.ifCond .ne 23, 3) := by decide +kernel
theorem dX8_when_76 : decode cX8_when 76 = .ok (.aload_n 0, 1) := by decide +kernel
theorem dX8_when_77 : decode cX8_when 77 = .ok (.iload_n 2, 1) := by decide +kernel
theorem dX8_when_78 : decode cX8_when 78 = .ok (.invokevirtual 239, 3) := by decide +kernel
theorem dX8_when_81 : decode cX8_when 81 = .ok (.aload_n 0, 1) := by decide +kernel
theorem dX8_when_82 : decode cX8_when 82 = .ok (.invokevirtual 326, 3) := by decide +kernel
theorem dX8_when_85 : decode cX8_when 85 = .ok (.if_icmp .gt 7, 3) := by decide +kernel
theorem dX8_when_88 : decode cX8_when 88 = .ok (.iconst 1, 1) := by decide +kernel
theorem dX8_when_89 : decode cX8_when 89 = .ok (.goto 21, 3) := by decide +kernel
theorem dX8_when_92 : decode cX8_when 92 = .ok (.iconst 0, 1) := by decide +kernel
theorem dX8_when_93 : decode cX8_when 93 = .ok (.goto 17, 3) := by decide +kernel
theorem dX8_when_96 : decode cX8_when 96 = .ok (.aload_n 0, 1) := by decide +kernel
theorem dX8_when_97 : decode cX8_when 97 = .ok (.getfield 23, 3) := by decide +kernel
theorem dX8_when_100 : decode cX8_when 100 = .ok (.iload_n 2, 1) := by decide +kernel
theorem dX8_when_101 : decode cX8_when 101 = .ok (.iaload, 1) := by decide +kernel
theorem dX8_when_102 : decode cX8_when 102 = .ok (.ifCond .ne 7, 3) := by decide +kernel
theorem dX8_when_105 : decode cX8_when 105 = .ok (.iconst 1, 1) := by decide +kernel
theorem dX8_when_106 : decode cX8_when 106 = .ok (.goto 4, 3) := by decide +kernel
theorem dX8_when_109 : decode cX8_when 109 = .ok (.iconst 0, 1) := by decide +kernel
theorem dX8_when_110 : decode cX8_when 110 = .ok (.istore 5, 2) := by decide +kernel
theorem dX8_when_112 : decode cX8_when 112 = .ok (.iload 5, 2) := by decide +kernel
theorem dX8_when_114 : decode cX8_when 114 = .ok (.ifCond .eq 8, 3) := by decide +kernel
theorem dX8_when_117 : decode cX8_when 117 = .ok (.iload 4, 2) := by decide +kernel
theorem dX8_when_119 : decode cX8_when 119 = .ok (.goto 5, 3) := by decide +kernel
theorem dX8_when_122 : decode cX8_when 122 = .ok (.bipush (-5), 2) := by decide +kernel
theorem dX8_when_124 : decode cX8_when 124 = .ok (.istore_n 3, 1) := by decide +kernel
theorem dX8_when_125 : decode cX8_when 125 = .ok (.aload_n 0, 1) := by decide +kernel
theorem dX8_when_126 : decode cX8_when 126 = .ok (.invokevirtual 344, 3) := by decide +kernel
theorem dX8_when_129 : decode cX8_when 129 = .ok (.iinc 4 1, 3) := by decide +kernel
theorem dX8_when_132 : decode cX8_when 132 = .ok (.goto (-71), 3) := by decide +kernel
theorem dX8_when_135 : decode cX8_when 135 = .ok (.aload_n 0, 1) := by decide +kernel
theorem dX8_when_136 : decode cX8_when 136 = .ok (.invokevirtual 356, 3) := by decide +kernel
theorem dX8_when_139 : decode cX8_when 139 = .ok (.iload_n 3, 1) := by decide +kernel
theorem dX8_when_140 : decode cX8_when 140 = .ok (.ireturn, 1) := by decide +kernel
theorem dX8_home_0 : decode cX8_home 0 = .ok (.aload_n 0, 1) := by decide +kernel
theorem dX8_home_1 : decode cX8_home 1 = .ok (.iload_n 1, 1) := by decide +kernel
theorem dX8_home_2 : decode cX8_home 2 = .ok (.invokevirtual 229, 3) := by decide +kernel
theorem dX8_home_5 : decode cX8_home 5 = .ok (.ifCond .ne 5, 3) := by decide +kernel
theorem dX8_home_8 : decode cX8_home 8 = .ok (.iconst (-1), 1) := by decide +kernel
theorem dX8_home_9 : decode cX8_home 9 = .ok (.ireturn, 1) := by decide +kernel
theorem dX8_home_10 : decode cX8_home 10 = .ok (.aload_n 0, 1) := by decide +kernel
theorem dX8_home_11 : decode cX8_home 11 = .ok (.getfield 26, 3) := by decide +kernel
theorem dX8_home_14 : decode cX8_home 14 = .ok (.iload_n 1, 1) := by decide +kernel
theorem dX8_home_15 : decode cX8_home 15 = .ok (.iaload, 1) := by decide +kernel
theorem dX8_home_16 : decode cX8_home 16 = .ok (.istore_n 2, 1) := by decide +kernel
theorem dX8_home_17 : decode cX8_home 17 = .ok (.iconst 0, 1) := by decide +kernel
theorem dX8_home_18 : decode cX8_home 18 = .ok (.istore_n 3, 1) := by decide +kernel
theorem dX8_home_19 : decode cX8_home 19 = .ok (.ldc_w 359, 3) := by decide +kernel
theorem dX8_home_22 : decode cX8_home 22 = .ok (.istore 4, 2) := by decide +kernel
theorem dX8_home_24 : decode cX8_home 24 = .ok (.iconst 0, 1) := by decide +kernel
theorem dX8_home_25 : decode cX8_home 25 = .ok (.istore 5, 2) := by decide +kernel
theorem dX8_home_27 : decode cX8_home 27 = .ok (.iload 5, 2) := by decide +kernel
theorem dX8_home_29 : decode cX8_home 29 = .ok (.iconst 5, 1) := by decide +kernel
theorem dX8_home_30 : decode cX8_home 30 = .ok (.if_icmp .ge 40, 3) := by decide +kernel
theorem dX8_home_33 : decode cX8_home 33 = .ok (.aload_n 0, 1) := by decide +kernel
theorem dX8_home_34 : decode cX8_home 34 = .ok (.getfield 26, 3) := by decide +kernel
theorem dX8_home_37 : decode cX8_home 37 = .ok (.iload_n 1, 1) := by decide +kernel
theorem dX8_home_38 : decode cX8_home 38 = .ok (.iload 5, 2) := by decide +kernel
theorem dX8_home_40 : decode cX8_home 40 = .ok (.iastore, 1) := by decide +kernel
theorem dX8_home_41 : decode cX8_home 41 = .ok (.aload_n 0, 1) := by decide +kernel
theorem dX8_home_42 : decode cX8_home 42 = .ok (.invokevirtual 338, 3) := by decide +kernel
theorem dX8_home_45 : decode cX8_home 45 = .ok (.istore 6, 2) := by decide +kernel
theorem dX8_home_47 : decode cX8_home 47 = .ok (.iload 6, 2) := by decide +kernel
theorem dX8_home_49 : decode cX8_home 49 = .ok (.iload 4, 2) := by decide +kernel
theorem dX8_home_51 : decode cX8_home 51 = .ok (.if_icmp .lt 6, 3) := by decide +kernel
theorem dX8_home_54 : decode cX8_home 54 = .ok (.goto 10, 3) := by decide +kernel
theorem dX8_home_57 : decode cX8_home 57 = .ok (.iload 5, 2) := by decide +kernel
theorem dX8_home_59 : decode cX8_home 59 = .ok (.istore_n 3, 1) := by decide +kernel
theorem dX8_home_60 : decode cX8_home 60 = .ok (.iload 6, 2) := by decide +kernel
theorem dX8_home_62 : decode cX8_home 62 = .ok (.istore 4, 2) := by decide +kernel
theorem dX8_home_64 : decode cX8_home 64 = .ok (.iinc 5 1, 3) := by decide +kernel
theorem dX8_home_67 : decode cX8_home 67 = .ok (.goto (-40), 3) := by decide +kernel
theorem dX8_home_70 : decode cX8_home 70 = .ok (.aload_n 0, 1) := by decide +kernel
theorem dX8_home_71 : decode cX8_home 71 = .ok (.getfield 26, 3) := by decide +kernel
theorem dX8_home_74 : decode cX8_home 74 = .ok (.iload_n 1, 1) := by decide +kernel
theorem dX8_home_75 : decode cX8_home 75 = .ok (.iload_n 2, 1) := by decide +kernel
theorem dX8_home_76 : decode cX8_home 76 = .ok (.iastore, 1) := by decide +kernel
theorem dX8_home_77 : decode cX8_home 77 = .ok (.iload_n 3, 1) := by decide +kernel
theorem dX8_home_78 : decode cX8_home 78 = .ok (.ireturn, 1) := by decide +kernel
theorem dX8_layAll_0 : decode cX8_layAll 0 = .ok (.iconst 0, 1) := by decide +kernel
theorem dX8_layAll_1 : decode cX8_layAll 1 = .ok (.istore_n 1, 1) := by decide +kernel
theorem dX8_layAll_2 : decode cX8_layAll 2 = .ok (.iload_n 1, 1) := by decide +kernel
theorem dX8_layAll_3 : decode cX8_layAll 3 = .ok (.aload_n 0, 1) := by decide +kernel
theorem dX8_layAll_4 : decode cX8_layAll 4 = .ok (.getfield 7, 3) := by decide +kernel
theorem dX8_layAll_7 : decode cX8_layAll 7 = .ok (.if_icmp .ge 102, 3) := by decide +kernel
theorem dX8_layAll_10 : decode cX8_layAll 10 = .ok (.aload_n 0, 1) := by decide +kernel
theorem dX8_layAll_11 : decode cX8_layAll 11 = .ok (.iload_n 1, 1) := by decide +kernel
theorem dX8_layAll_12 : decode cX8_layAll 12 = .ok (.invokevirtual 232, 3) := by decide +kernel
theorem dX8_layAll_15 : decode cX8_layAll 15 = .ok (.ifCond .eq 6, 3) := by decide +kernel
theorem dX8_layAll_18 : decode cX8_layAll 18 = .ok (.goto 85, 3) := by decide +kernel
theorem dX8_layAll_21 : decode cX8_layAll 21 = .ok (.aload_n 0, 1) := by decide +kernel
theorem dX8_layAll_22 : decode cX8_layAll 22 = .ok (.getfield 26, 3) := by decide +kernel
theorem dX8_layAll_25 : decode cX8_layAll 25 = .ok (.iload_n 1, 1) := by decide +kernel
theorem dX8_layAll_26 : decode cX8_layAll 26 = .ok (.iaload, 1) := by decide +kernel
theorem dX8_layAll_27 : decode cX8_layAll 27 = .ok (.istore_n 2, 1) := by decide +kernel
theorem dX8_layAll_28 : decode cX8_layAll 28 = .ok (.iconst 0, 1) := by decide +kernel
theorem dX8_layAll_29 : decode cX8_layAll 29 = .ok (.istore_n 3, 1) := by decide +kernel
theorem dX8_layAll_30 : decode cX8_layAll 30 = .ok (.iload_n 3, 1) := by decide +kernel
theorem dX8_layAll_31 : decode cX8_layAll 31 = .ok (.iconst 5, 1) := by decide +kernel
theorem dX8_layAll_32 : decode cX8_layAll 32 = .ok (.if_icmp .ge 64, 3) := by decide +kernel
theorem dX8_layAll_35 : decode cX8_layAll 35 = .ok (.aload_n 0, 1) := by decide +kernel
theorem dX8_layAll_36 : decode cX8_layAll 36 = .ok (.getfield 26, 3) := by decide +kernel
theorem dX8_layAll_39 : decode cX8_layAll 39 = .ok (.iload_n 1, 1) := by decide +kernel
theorem dX8_layAll_40 : decode cX8_layAll 40 = .ok (.iload_n 3, 1) := by decide +kernel
theorem dX8_layAll_41 : decode cX8_layAll 41 = .ok (.iastore, 1) := by decide +kernel
theorem dX8_layAll_42 : decode cX8_layAll 42 = .ok (.aload_n 0, 1) := by decide +kernel
theorem dX8_layAll_43 : decode cX8_layAll 43 = .ok (.iload_n 1, 1) := by decide +kernel
theorem dX8_layAll_44 : decode cX8_layAll 44 = .ok (.iload_n 3, 1) := by decide +kernel
theorem dX8_layAll_45 : decode cX8_layAll 45 = .ok (.invokevirtual 314, 3) := by decide +kernel
theorem dX8_layAll_48 : decode cX8_layAll 48 = .ok (.istore 4, 2) := by decide +kernel
theorem dX8_layAll_50 : decode cX8_layAll 50 = .ok (.iconst 0, 1) := by decide +kernel
theorem dX8_layAll_51 : decode cX8_layAll 51 = .ok (.istore 5, 2) := by decide +kernel
theorem dX8_layAll_53 : decode cX8_layAll 53 = .ok (.iload 5, 2) := by decide +kernel
theorem dX8_layAll_55 : decode cX8_layAll 55 = .ok (.iconst 5, 1) := by decide +kernel
theorem dX8_layAll_56 : decode cX8_layAll 56 = .ok (.if_icmp .ge 34, 3) := by decide +kernel
theorem dX8_layAll_59 : decode cX8_layAll 59 = .ok (.aload_n 0, 1) := by decide +kernel
theorem dX8_layAll_60 : decode cX8_layAll 60 = .ok (.getfield 99, 3) := by decide +kernel
theorem dX8_layAll_63 : decode cX8_layAll 63 = .ok (.bipush 25, 2) := by decide +kernel
theorem dX8_layAll_65 : decode cX8_layAll 65 = .ok (.iload_n 1, 1) := by decide +kernel
theorem dX8_layAll_66 : decode cX8_layAll 66 = .ok (.imul, 1) := by decide +kernel
theorem dX8_layAll_67 : decode cX8_layAll 67 = .ok (.iconst 5, 1) := by decide +kernel
theorem dX8_layAll_68 : decode cX8_layAll 68 = .ok (.iload_n 3, 1) := by decide +kernel
theorem dX8_layAll_69 : decode cX8_layAll 69 = .ok (.imul, 1) := by decide +kernel
theorem dX8_layAll_70 : decode cX8_layAll 70 = .ok (.iadd, 1) := by decide +kernel
theorem dX8_layAll_71 : decode cX8_layAll 71 = .ok (.iload 5, 2) := by decide +kernel
theorem dX8_layAll_73 : decode cX8_layAll 73 = .ok (.iadd, 1) := by decide +kernel
theorem dX8_layAll_74 : decode cX8_layAll 74 = .ok (.aload_n 0, 1) := by decide +kernel
theorem dX8_layAll_75 : decode cX8_layAll 75 = .ok (.iload_n 1, 1) := by decide +kernel
theorem dX8_layAll_76 : decode cX8_layAll 76 = .ok (.iload 4, 2) := by decide +kernel
theorem dX8_layAll_78 : decode cX8_layAll 78 = .ok (.iload 5, 2) := by decide +kernel
theorem dX8_layAll_80 : decode cX8_layAll 80 = .ok (.invokevirtual 317, 3) := by decide +kernel
theorem dX8_layAll_83 : decode cX8_layAll 83 = .ok (.iastore, 1) := by decide +kernel
theorem dX8_layAll_84 : decode cX8_layAll 84 = .ok (.iinc 5 1, 3) := by decide +kernel
theorem dX8_layAll_87 : decode cX8_layAll 87 = .ok (.goto (-34), 3) := by decide +kernel
theorem dX8_layAll_90 : decode cX8_layAll 90 = .ok (.iinc 3 1, 3) := by decide +kernel
theorem dX8_layAll_93 : decode cX8_layAll 93 = .ok (.goto (-63), 3) := by decide +kernel
theorem dX8_layAll_96 : decode cX8_layAll 96 = .ok (.aload_n 0, 1) := by decide +kernel
theorem dX8_layAll_97 : decode cX8_layAll 97 = .ok (.getfield 26, 3) := by decide +kernel
theorem dX8_layAll_100 : decode cX8_layAll 100 = .ok (.iload_n 1, 1) := by decide +kernel
theorem dX8_layAll_101 : decode cX8_layAll 101 = .ok (.iload_n 2, 1) := by decide +kernel
theorem dX8_layAll_102 : decode cX8_layAll 102 = .ok (.iastore, 1) := by decide +kernel
theorem dX8_layAll_103 : decode cX8_layAll 103 = .ok (.iinc 1 1, 3) := by decide +kernel
theorem dX8_layAll_106 : decode cX8_layAll 106 = .ok (.goto (-104), 3) := by decide +kernel
theorem dX8_layAll_109 : decode cX8_layAll 109 = .ok (.return_, 1) := by decide +kernel
theorem dX8_layPlaces_0 : decode cX8_layPlaces 0 = .ok (.iload_n 1, 1) := by decide +kernel
theorem dX8_layPlaces_1 : decode cX8_layPlaces 1 = .ok (.istore_n 2, 1) := by decide +kernel
theorem dX8_layPlaces_2 : decode cX8_layPlaces 2 = .ok (.aload_n 0, 1) := by decide +kernel
theorem dX8_layPlaces_3 : decode cX8_layPlaces 3 = .ok (.getfield 7, 3) := by decide +kernel
theorem dX8_layPlaces_6 : decode cX8_layPlaces 6 = .ok (.iconst 1, 1) := by decide +kernel
theorem dX8_layPlaces_7 : decode cX8_layPlaces 7 = .ok (.isub, 1) := by decide +kernel
theorem dX8_layPlaces_8 : decode cX8_layPlaces 8 = .ok (.istore_n 3, 1) := by decide +kernel
theorem dX8_layPlaces_9 : decode cX8_layPlaces 9 = .ok (.iload_n 3, 1) := by decide +kernel
theorem dX8_layPlaces_10 : decode cX8_layPlaces 10 = .ok (.ifCond .lt 33, 3) := by decide +kernel
theorem dX8_layPlaces_13 : decode cX8_layPlaces 13 = .ok (.aload_n 0, 1) := by decide +kernel
theorem dX8_layPlaces_14 : decode cX8_layPlaces 14 = .ok (.iload_n 3, 1) := by decide +kernel
theorem dX8_layPlaces_15 : decode cX8_layPlaces 15 = .ok (.invokevirtual 232, 3) := by decide +kernel
theorem dX8_layPlaces_18 : decode cX8_layPlaces 18 = .ok (.ifCond .eq 6, 3) := by decide +kernel
theorem dX8_layPlaces_21 : decode cX8_layPlaces 21 = .ok (.goto 16, 3) := by decide +kernel
theorem dX8_layPlaces_24 : decode cX8_layPlaces 24 = .ok (.aload_n 0, 1) := by decide +kernel
theorem dX8_layPlaces_25 : decode cX8_layPlaces 25 = .ok (.getfield 26, 3) := by decide +kernel
theorem dX8_layPlaces_28 : decode cX8_layPlaces 28 = .ok (.iload_n 3, 1) := by decide +kernel
theorem dX8_layPlaces_29 : decode cX8_layPlaces 29 = .ok (.iload_n 2, 1) := by decide +kernel
theorem dX8_layPlaces_30 : decode cX8_layPlaces 30 = .ok (.iconst 5, 1) := by decide +kernel
theorem dX8_layPlaces_31 : decode cX8_layPlaces 31 = .ok (.irem, 1) := by decide +kernel
theorem dX8_layPlaces_32 : decode cX8_layPlaces 32 = .ok (.iastore, 1) := by decide +kernel
theorem dX8_layPlaces_33 : decode cX8_layPlaces 33 = .ok (.iload_n 2, 1) := by decide +kernel
theorem dX8_layPlaces_34 : decode cX8_layPlaces 34 = .ok (.iconst 5, 1) := by decide +kernel
theorem dX8_layPlaces_35 : decode cX8_layPlaces 35 = .ok (.idiv, 1) := by decide +kernel
theorem dX8_layPlaces_36 : decode cX8_layPlaces 36 = .ok (.istore_n 2, 1) := by decide +kernel
theorem dX8_layPlaces_37 : decode cX8_layPlaces 37 = .ok (.iinc 3 (-1), 3) := by decide +kernel
theorem dX8_layPlaces_40 : decode cX8_layPlaces 40 = .ok (.goto (-31), 3) := by decide +kernel
theorem dX8_layPlaces_43 : decode cX8_layPlaces 43 = .ok (.iconst 0, 1) := by decide +kernel
theorem dX8_layPlaces_44 : decode cX8_layPlaces 44 = .ok (.istore_n 3, 1) := by decide +kernel
theorem dX8_layPlaces_45 : decode cX8_layPlaces 45 = .ok (.iload_n 3, 1) := by decide +kernel
theorem dX8_layPlaces_46 : decode cX8_layPlaces 46 = .ok (.iconst 5, 1) := by decide +kernel
theorem dX8_layPlaces_47 : decode cX8_layPlaces 47 = .ok (.if_icmp .ge 78, 3) := by decide +kernel
theorem dX8_layPlaces_50 : decode cX8_layPlaces 50 = .ok (.aload_n 0, 1) := by decide +kernel
theorem dX8_layPlaces_51 : decode cX8_layPlaces 51 = .ok (.getfield 87, 3) := by decide +kernel
theorem dX8_layPlaces_54 : decode cX8_layPlaces 54 = .ok (.iload_n 3, 1) := by decide +kernel
theorem dX8_layPlaces_55 : decode cX8_layPlaces 55 = .ok (.iconst 0, 1) := by decide +kernel
theorem dX8_layPlaces_56 : decode cX8_layPlaces 56 = .ok (.iastore, 1) := by decide +kernel
theorem dX8_layPlaces_57 : decode cX8_layPlaces 57 = .ok (.iconst 0, 1) := by decide +kernel
theorem dX8_layPlaces_58 : decode cX8_layPlaces 58 = .ok (.istore 4, 2) := by decide +kernel
theorem dX8_layPlaces_60 : decode cX8_layPlaces 60 = .ok (.iload 4, 2) := by decide +kernel
theorem dX8_layPlaces_62 : decode cX8_layPlaces 62 = .ok (.aload_n 0, 1) := by decide +kernel
theorem dX8_layPlaces_63 : decode cX8_layPlaces 63 = .ok (.getfield 7, 3) := by decide +kernel
theorem dX8_layPlaces_66 : decode cX8_layPlaces 66 = .ok (.if_icmp .ge 53, 3) := by decide +kernel
theorem dX8_layPlaces_69 : decode cX8_layPlaces 69 = .ok (.aload_n 0, 1) := by decide +kernel
theorem dX8_layPlaces_70 : decode cX8_layPlaces 70 = .ok (.getfield 87, 3) := by decide +kernel
theorem dX8_layPlaces_73 : decode cX8_layPlaces 73 = .ok (.iload_n 3, 1) := by decide +kernel
theorem dX8_layPlaces_74 : decode cX8_layPlaces 74 = .ok (.dup2, 1) := by decide +kernel
theorem dX8_layPlaces_75 : decode cX8_layPlaces 75 = .ok (.iaload, 1) := by decide +kernel
theorem dX8_layPlaces_76 : decode cX8_layPlaces 76 = .ok (.aload_n 0, 1) := by decide +kernel
theorem dX8_layPlaces_77 : decode cX8_layPlaces 77 = .ok (.iload 4, 2) := by decide +kernel
theorem dX8_layPlaces_79 : decode cX8_layPlaces 79 = .ok (.invokevirtual 232, 3) := by decide +kernel
theorem dX8_layPlaces_82 : decode cX8_layPlaces 82 = .ok (.ifCond .eq 7, 3) := by decide +kernel
theorem dX8_layPlaces_85 : decode cX8_layPlaces 85 = .ok (.iconst 0, 1) := by decide +kernel
theorem dX8_layPlaces_86 : decode cX8_layPlaces 86 = .ok (.goto 25, 3) := by decide +kernel
theorem dX8_layPlaces_89 : decode cX8_layPlaces 89 = .ok (.aload_n 0, 1) := by decide +kernel
theorem dX8_layPlaces_90 : decode cX8_layPlaces 90 = .ok (.getfield 99, 3) := by decide +kernel
theorem dX8_layPlaces_93 : decode cX8_layPlaces 93 = .ok (.bipush 25, 2) := by decide +kernel
theorem dX8_layPlaces_95 : decode cX8_layPlaces 95 = .ok (.iload 4, 2) := by decide +kernel
theorem dX8_layPlaces_97 : decode cX8_layPlaces 97 = .ok (.imul, 1) := by decide +kernel
theorem dX8_layPlaces_98 : decode cX8_layPlaces 98 = .ok (.iconst 5, 1) := by decide +kernel
theorem dX8_layPlaces_99 : decode cX8_layPlaces 99 = .ok (.aload_n 0, 1) := by decide +kernel
theorem dX8_layPlaces_100 : decode cX8_layPlaces 100 = .ok (.getfield 26, 3) := by decide +kernel
theorem dX8_layPlaces_103 : decode cX8_layPlaces 103 = .ok (.iload 4, 2) := by decide +kernel
theorem dX8_layPlaces_105 : decode cX8_layPlaces 105 = .ok (.iaload, 1) := by decide +kernel
theorem dX8_layPlaces_106 : decode cX8_layPlaces 106 = .ok (.imul, 1) := by decide +kernel
theorem dX8_layPlaces_107 : decode cX8_layPlaces 107 = .ok (.iadd, 1) := by decide +kernel
theorem dX8_layPlaces_108 : decode cX8_layPlaces 108 = .ok (.iload_n 3, 1) := by decide +kernel
theorem dX8_layPlaces_109 : decode cX8_layPlaces 109 = .ok (.iadd, 1) := by decide +kernel
theorem dX8_layPlaces_110 : decode cX8_layPlaces 110 = .ok (.iaload, 1) := by decide +kernel
theorem dX8_layPlaces_111 : decode cX8_layPlaces 111 = .ok (.iadd, 1) := by decide +kernel
theorem dX8_layPlaces_112 : decode cX8_layPlaces 112 = .ok (.iastore, 1) := by decide +kernel
theorem dX8_layPlaces_113 : decode cX8_layPlaces 113 = .ok (.iinc 4 1, 3) := by decide +kernel
theorem dX8_layPlaces_116 : decode cX8_layPlaces 116 = .ok (.goto (-56), 3) := by decide +kernel
theorem dX8_layPlaces_119 : decode cX8_layPlaces 119 = .ok (.iinc 3 1, 3) := by decide +kernel
theorem dX8_layPlaces_122 : decode cX8_layPlaces 122 = .ok (.goto (-77), 3) := by decide +kernel
theorem dX8_layPlaces_125 : decode cX8_layPlaces 125 = .ok (.return_, 1) := by decide +kernel
theorem dX8_sumLaid_0 : decode cX8_sumLaid 0 = .ok (.aload_n 0, 1) := by decide +kernel
theorem dX8_sumLaid_1 : decode cX8_sumLaid 1 = .ok (.getfield 87, 3) := by decide +kernel
theorem dX8_sumLaid_4 : decode cX8_sumLaid 4 = .ok (.iconst 0, 1) := by decide +kernel
theorem dX8_sumLaid_5 : decode cX8_sumLaid 5 = .ok (.iaload, 1) := by decide +kernel
theorem dX8_sumLaid_6 : decode cX8_sumLaid 6 = .ok (.aload_n 0, 1) := by decide +kernel
theorem dX8_sumLaid_7 : decode cX8_sumLaid 7 = .ok (.getfield 87, 3) := by decide +kernel
theorem dX8_sumLaid_10 : decode cX8_sumLaid 10 = .ok (.iconst 1, 1) := by decide +kernel
theorem dX8_sumLaid_11 : decode cX8_sumLaid 11 = .ok (.iaload, 1) := by decide +kernel
theorem dX8_sumLaid_12 : decode cX8_sumLaid 12 = .ok (.iadd, 1) := by decide +kernel
theorem dX8_sumLaid_13 : decode cX8_sumLaid 13 = .ok (.aload_n 0, 1) := by decide +kernel
theorem dX8_sumLaid_14 : decode cX8_sumLaid 14 = .ok (.getfield 87, 3) := by decide +kernel
theorem dX8_sumLaid_17 : decode cX8_sumLaid 17 = .ok (.iconst 2, 1) := by decide +kernel
theorem dX8_sumLaid_18 : decode cX8_sumLaid 18 = .ok (.iaload, 1) := by decide +kernel
theorem dX8_sumLaid_19 : decode cX8_sumLaid 19 = .ok (.iadd, 1) := by decide +kernel
theorem dX8_sumLaid_20 : decode cX8_sumLaid 20 = .ok (.aload_n 0, 1) := by decide +kernel
theorem dX8_sumLaid_21 : decode cX8_sumLaid 21 = .ok (.getfield 87, 3) := by decide +kernel
theorem dX8_sumLaid_24 : decode cX8_sumLaid 24 = .ok (.iconst 3, 1) := by decide +kernel
theorem dX8_sumLaid_25 : decode cX8_sumLaid 25 = .ok (.iaload, 1) := by decide +kernel
theorem dX8_sumLaid_26 : decode cX8_sumLaid 26 = .ok (.iadd, 1) := by decide +kernel
theorem dX8_sumLaid_27 : decode cX8_sumLaid 27 = .ok (.aload_n 0, 1) := by decide +kernel
theorem dX8_sumLaid_28 : decode cX8_sumLaid 28 = .ok (.getfield 87, 3) := by decide +kernel
theorem dX8_sumLaid_31 : decode cX8_sumLaid 31 = .ok (.iconst 4, 1) := by decide +kernel
theorem dX8_sumLaid_32 : decode cX8_sumLaid 32 = .ok (.iaload, 1) := by decide +kernel
theorem dX8_sumLaid_33 : decode cX8_sumLaid 33 = .ok (.iadd, 1) := by decide +kernel
theorem dX8_sumLaid_34 : decode cX8_sumLaid 34 = .ok (.ireturn, 1) := by decide +kernel
theorem dX8_layShared_0 : decode cX8_layShared 0 = .ok (.aload_n 0, 1) := by decide +kernel
theorem dX8_layShared_1 : decode cX8_layShared 1 = .ok (.invokevirtual 360, 3) := by decide +kernel
theorem dX8_layShared_4 : decode cX8_layShared 4 = .ok (.aload_n 0, 1) := by decide +kernel
theorem dX8_layShared_5 : decode cX8_layShared 5 = .ok (.invokevirtual 353, 3) := by decide +kernel
theorem dX8_layShared_8 : decode cX8_layShared 8 = .ok (.iconst 1, 1) := by decide +kernel
theorem dX8_layShared_9 : decode cX8_layShared 9 = .ok (.istore_n 1, 1) := by decide +kernel
theorem dX8_layShared_10 : decode cX8_layShared 10 = .ok (.iconst 0, 1) := by decide +kernel
theorem dX8_layShared_11 : decode cX8_layShared 11 = .ok (.istore_n 2, 1) := by decide +kernel
theorem dX8_layShared_12 : decode cX8_layShared 12 = .ok (.iload_n 2, 1) := by decide +kernel
theorem dX8_layShared_13 : decode cX8_layShared 13 = .ok (.aload_n 0, 1) := by decide +kernel
theorem dX8_layShared_14 : decode cX8_layShared 14 = .ok (.getfield 7, 3) := by decide +kernel
theorem dX8_layShared_17 : decode cX8_layShared 17 = .ok (.if_icmp .ge 25, 3) := by decide +kernel
theorem dX8_layShared_20 : decode cX8_layShared 20 = .ok (.iload_n 1, 1) := by decide +kernel
theorem dX8_layShared_21 : decode cX8_layShared 21 = .ok (.aload_n 0, 1) := by decide +kernel
theorem dX8_layShared_22 : decode cX8_layShared 22 = .ok (.iload_n 2, 1) := by decide +kernel
theorem dX8_layShared_23 : decode cX8_layShared 23 = .ok (.invokevirtual 232, 3) := by decide +kernel
theorem dX8_layShared_26 : decode cX8_layShared 26 = .ok (.ifCond .eq 7, 3) := by decide +kernel
theorem dX8_layShared_29 : decode cX8_layShared 29 = .ok (.iconst 1, 1) := by decide +kernel
theorem dX8_layShared_30 : decode cX8_layShared 30 = .ok (.goto 4, 3) := by decide +kernel
theorem dX8_layShared_33 : decode cX8_layShared 33 = .ok (.iconst 5, 1) := by decide +kernel
theorem dX8_layShared_34 : decode cX8_layShared 34 = .ok (.imul, 1) := by decide +kernel
theorem dX8_layShared_35 : decode cX8_layShared 35 = .ok (.istore_n 1, 1) := by decide +kernel
theorem dX8_layShared_36 : decode cX8_layShared 36 = .ok (.iinc 2 1, 3) := by decide +kernel
theorem dX8_layShared_39 : decode cX8_layShared 39 = .ok (.goto (-27), 3) := by decide +kernel
theorem dX8_layShared_42 : decode cX8_layShared 42 = .ok (.aload_n 0, 1) := by decide +kernel
theorem dX8_layShared_43 : decode cX8_layShared 43 = .ok (.ldc_w 359, 3) := by decide +kernel
theorem dX8_layShared_46 : decode cX8_layShared 46 = .ok (.putfield 105, 3) := by decide +kernel
theorem dX8_layShared_49 : decode cX8_layShared 49 = .ok (.aload_n 0, 1) := by decide +kernel
theorem dX8_layShared_50 : decode cX8_layShared 50 = .ok (.iconst 0, 1) := by decide +kernel
theorem dX8_layShared_51 : decode cX8_layShared 51 = .ok (.putfield 108, 3) := by decide +kernel
theorem dX8_layShared_54 : decode cX8_layShared 54 = .ok (.iconst 0, 1) := by decide +kernel
theorem dX8_layShared_55 : decode cX8_layShared 55 = .ok (.istore_n 2, 1) := by decide +kernel
theorem dX8_layShared_56 : decode cX8_layShared 56 = .ok (.iload_n 2, 1) := by decide +kernel
theorem dX8_layShared_57 : decode cX8_layShared 57 = .ok (.iload_n 1, 1) := by decide +kernel
theorem dX8_layShared_58 : decode cX8_layShared 58 = .ok (.if_icmp .ge 94, 3) := by decide +kernel
theorem dX8_layShared_61 : decode cX8_layShared 61 = .ok (.aload_n 0, 1) := by decide +kernel
theorem dX8_layShared_62 : decode cX8_layShared 62 = .ok (.iload_n 2, 1) := by decide +kernel
theorem dX8_layShared_63 : decode cX8_layShared 63 = .ok (.invokevirtual 363, 3) := by decide +kernel
theorem dX8_layShared_66 : decode cX8_layShared 66 = .ok (.aload_n 0, 1) := by decide +kernel
theorem dX8_layShared_67 : decode cX8_layShared 67 = .ok (.invokevirtual 323, 3) := by decide +kernel
theorem dX8_layShared_70 : decode cX8_layShared 70 = .ok (.istore_n 3, 1) := by decide +kernel
theorem dX8_layShared_71 : decode cX8_layShared 71 = .ok (.aload_n 0, 1) := by decide +kernel
theorem dX8_layShared_72 : decode cX8_layShared 72 = .ok (.invokevirtual 366, 3) := by decide +kernel
theorem dX8_layShared_75 : decode cX8_layShared 75 = .ok (.istore 4, 2) := by decide +kernel
theorem dX8_layShared_77 : decode cX8_layShared 77 = .ok (.iload_n 3, 1) := by decide +kernel
theorem dX8_layShared_78 : decode cX8_layShared 78 = .ok (.aload_n 0, 1) := by decide +kernel
theorem dX8_layShared_79 : decode cX8_layShared 79 = .ok (.getfield 105, 3) := by decide +kernel
theorem dX8_layShared_82 : decode cX8_layShared 82 = .ok (.if_icmp .gt 64, 3) := by decide +kernel
theorem dX8_layShared_85 : decode cX8_layShared 85 = .ok (.iload_n 3, 1) := by decide +kernel
theorem dX8_layShared_86 : decode cX8_layShared 86 = .ok (.aload_n 0, 1) := by decide +kernel
theorem dX8_layShared_87 : decode cX8_layShared 87 = .ok (.getfield 105, 3) := by decide +kernel
theorem dX8_layShared_90 : decode cX8_layShared 90 = .ok (.if_icmp .ne 15, 3) := by decide +kernel
theorem dX8_layShared_93 : decode cX8_layShared 93 = .ok (.iload 4, 2) := by decide +kernel
theorem dX8_layShared_95 : decode cX8_layShared 95 = .ok (.aload_n 0, 1) := by decide +kernel
theorem dX8_layShared_96 : decode cX8_layShared 96 = .ok (.getfield 108, 3) := by decide +kernel
theorem dX8_layShared_99 : decode cX8_layShared 99 = .ok (.if_icmp .lt 6, 3) := by decide +kernel
theorem dX8_layShared_102 : decode cX8_layShared 102 = .ok (.goto 44, 3) := by decide +kernel
theorem dX8_layShared_105 : decode cX8_layShared 105 = .ok (.aload_n 0, 1) := by decide +kernel
theorem dX8_layShared_106 : decode cX8_layShared 106 = .ok (.iload_n 3, 1) := by decide +kernel
theorem dX8_layShared_107 : decode cX8_layShared 107 = .ok (.putfield 105, 3) := by decide +kernel
theorem dX8_layShared_110 : decode cX8_layShared 110 = .ok (.aload_n 0, 1) := by decide +kernel
theorem dX8_layShared_111 : decode cX8_layShared 111 = .ok (.iload 4, 2) := by decide +kernel
theorem dX8_layShared_113 : decode cX8_layShared 113 = .ok (.putfield 108, 3) := by decide +kernel
theorem dX8_layShared_116 : decode cX8_layShared 116 = .ok (.iconst 0, 1) := by decide +kernel
theorem dX8_layShared_117 : decode cX8_layShared 117 = .ok (.istore 5, 2) := by decide +kernel
theorem dX8_layShared_119 : decode cX8_layShared 119 = .ok (.iload 5, 2) := by decide +kernel
theorem dX8_layShared_121 : decode cX8_layShared 121 = .ok (.bipush 6, 2) := by decide +kernel
theorem dX8_layShared_123 : decode cX8_layShared 123 = .ok (.if_icmp .ge 23, 3) := by decide +kernel
theorem dX8_layShared_126 : decode cX8_layShared 126 = .ok (.aload_n 0, 1) := by decide +kernel
theorem dX8_layShared_127 : decode cX8_layShared 127 = .ok (.getfield 102, 3) := by decide +kernel
theorem dX8_layShared_130 : decode cX8_layShared 130 = .ok (.iload 5, 2) := by decide +kernel
theorem dX8_layShared_132 : decode cX8_layShared 132 = .ok (.aload_n 0, 1) := by decide +kernel
theorem dX8_layShared_133 : decode cX8_layShared 133 = .ok (.getfield 26, 3) := by decide +kernel
theorem dX8_layShared_136 : decode cX8_layShared 136 = .ok (.iload 5, 2) := by decide +kernel
theorem dX8_layShared_138 : decode cX8_layShared 138 = .ok (.iaload, 1) := by decide +kernel
theorem dX8_layShared_139 : decode cX8_layShared 139 = .ok (.iastore, 1) := by decide +kernel
theorem dX8_layShared_140 : decode cX8_layShared 140 = .ok (.iinc 5 1, 3) := by decide +kernel
theorem dX8_layShared_143 : decode cX8_layShared 143 = .ok (.goto (-24), 3) := by decide +kernel
theorem dX8_layShared_146 : decode cX8_layShared 146 = .ok (.iinc 2 1, 3) := by decide +kernel
theorem dX8_layShared_149 : decode cX8_layShared 149 = .ok (.goto (-93), 3) := by decide +kernel
theorem dX8_layShared_152 : decode cX8_layShared 152 = .ok (.aload_n 0, 1) := by decide +kernel
theorem dX8_layShared_153 : decode cX8_layShared 153 = .ok (.invokevirtual 356, 3) := by decide +kernel
theorem dX8_layShared_156 : decode cX8_layShared 156 = .ok (.return_, 1) := by decide +kernel
theorem dX8_shared_0 : decode cX8_shared 0 = .ok (.aload_n 0, 1) := by decide +kernel
theorem dX8_shared_1 : decode cX8_shared 1 = .ok (.iload_n 1, 1) := by decide +kernel
theorem dX8_shared_2 : decode cX8_shared 2 = .ok (.iconst 0, 1) := by decide +kernel
theorem dX8_shared_3 : decode cX8_shared 3 = .ok (.iconst 1, 1) := by decide +kernel
theorem dX8_shared_4 : decode cX8_shared 4 = .ok (.invokevirtual 218, 3) := by decide +kernel
theorem dX8_shared_7 : decode cX8_shared 7 = .ok (.ifCond .ne 22, 3) := by decide +kernel
theorem dX8_shared_10 : decode cX8_shared 10 = .ok (.aload_n 0, 1) := by decide +kernel
theorem dX8_shared_11 : decode cX8_shared 11 = .ok (.iload_n 1, 1) := by decide +kernel
theorem dX8_shared_12 : decode cX8_shared 12 = .ok (.bipush 10, 2) := by decide +kernel
theorem dX8_shared_14 : decode cX8_shared 14 = .ok (.bipush 9, 2) := by decide +kernel
theorem dX8_shared_16 : decode cX8_shared 16 = .ok (.aload_n 0, 1) := by decide +kernel
theorem dX8_shared_17 : decode cX8_shared 17 = .ok (.getfield 7, 3) := by decide +kernel
theorem dX8_shared_20 : decode cX8_shared 20 = .ok (.iadd, 1) := by decide +kernel
theorem dX8_shared_21 : decode cX8_shared 21 = .ok (.invokevirtual 218, 3) := by decide +kernel
theorem dX8_shared_24 : decode cX8_shared 24 = .ok (.ifCond .ne 5, 3) := by decide +kernel
theorem dX8_shared_27 : decode cX8_shared 27 = .ok (.iconst (-1), 1) := by decide +kernel
theorem dX8_shared_28 : decode cX8_shared 28 = .ok (.ireturn, 1) := by decide +kernel
theorem dX8_shared_29 : decode cX8_shared 29 = .ok (.aload_n 0, 1) := by decide +kernel
theorem dX8_shared_30 : decode cX8_shared 30 = .ok (.invokevirtual 369, 3) := by decide +kernel
theorem dX8_shared_33 : decode cX8_shared 33 = .ok (.iload_n 1, 1) := by decide +kernel
theorem dX8_shared_34 : decode cX8_shared 34 = .ok (.ifCond .ne 10, 3) := by decide +kernel
theorem dX8_shared_37 : decode cX8_shared 37 = .ok (.aload_n 0, 1) := by decide +kernel
theorem dX8_shared_38 : decode cX8_shared 38 = .ok (.getfield 105, 3) := by decide +kernel
theorem dX8_shared_41 : decode cX8_shared 41 = .ok (.goto 24, 3) := by decide +kernel
theorem dX8_shared_44 : decode cX8_shared 44 = .ok (.iload_n 1, 1) := by decide +kernel
theorem dX8_shared_45 : decode cX8_shared 45 = .ok (.iconst 1, 1) := by decide +kernel
theorem dX8_shared_46 : decode cX8_shared 46 = .ok (.if_icmp .ne 10, 3) := by decide +kernel
theorem dX8_shared_49 : decode cX8_shared 49 = .ok (.aload_n 0, 1) := by decide +kernel
theorem dX8_shared_50 : decode cX8_shared 50 = .ok (.getfield 108, 3) := by decide +kernel
theorem dX8_shared_53 : decode cX8_shared 53 = .ok (.goto 12, 3) := by decide +kernel
theorem dX8_shared_56 : decode cX8_shared 56 = .ok (.aload_n 0, 1) := by decide +kernel
theorem dX8_shared_57 : decode cX8_shared 57 = .ok (.getfield 102, 3) := by decide +kernel
theorem dX8_shared_60 : decode cX8_shared 60 = .ok (.iload_n 1, 1) := by decide +kernel
theorem dX8_shared_61 : decode cX8_shared 61 = .ok (.bipush 10, 2) := by decide +kernel
theorem dX8_shared_63 : decode cX8_shared 63 = .ok (.isub, 1) := by decide +kernel
theorem dX8_shared_64 : decode cX8_shared 64 = .ok (.iaload, 1) := by decide +kernel
theorem dX8_shared_65 : decode cX8_shared 65 = .ok (.ireturn, 1) := by decide +kernel
theorem dX8_swaps_0 : decode cX8_swaps 0 = .ok (.aload_n 0, 1) := by decide +kernel
theorem dX8_swaps_1 : decode cX8_swaps 1 = .ok (.getfield 26, 3) := by decide +kernel
theorem dX8_swaps_4 : decode cX8_swaps 4 = .ok (.iload_n 1, 1) := by decide +kernel
theorem dX8_swaps_5 : decode cX8_swaps 5 = .ok (.iaload, 1) := by decide +kernel
theorem dX8_swaps_6 : decode cX8_swaps 6 = .ok (.istore_n 3, 1) := by decide +kernel
theorem dX8_swaps_7 : decode cX8_swaps 7 = .ok (.aload_n 0, 1) := by decide +kernel
theorem dX8_swaps_8 : decode cX8_swaps 8 = .ok (.getfield 26, 3) := by decide +kernel
theorem dX8_swaps_11 : decode cX8_swaps 11 = .ok (.iload_n 1, 1) := by decide +kernel
theorem dX8_swaps_12 : decode cX8_swaps 12 = .ok (.aload_n 0, 1) := by decide +kernel
theorem dX8_swaps_13 : decode cX8_swaps 13 = .ok (.getfield 26, 3) := by decide +kernel
theorem dX8_swaps_16 : decode cX8_swaps 16 = .ok (.iload_n 2, 1) := by decide +kernel
theorem dX8_swaps_17 : decode cX8_swaps 17 = .ok (.iaload, 1) := by decide +kernel
theorem dX8_swaps_18 : decode cX8_swaps 18 = .ok (.iastore, 1) := by decide +kernel
theorem dX8_swaps_19 : decode cX8_swaps 19 = .ok (.aload_n 0, 1) := by decide +kernel
theorem dX8_swaps_20 : decode cX8_swaps 20 = .ok (.getfield 26, 3) := by decide +kernel
theorem dX8_swaps_23 : decode cX8_swaps 23 = .ok (.iload_n 2, 1) := by decide +kernel
theorem dX8_swaps_24 : decode cX8_swaps 24 = .ok (.iload_n 3, 1) := by decide +kernel
theorem dX8_swaps_25 : decode cX8_swaps 25 = .ok (.iastore, 1) := by decide +kernel
theorem dX8_swaps_26 : decode cX8_swaps 26 = .ok (.return_, 1) := by decide +kernel
theorem dX8_changeOf_0 : decode cX8_changeOf 0 = .ok (.bipush (-5), 2) := by decide +kernel
theorem dX8_changeOf_2 : decode cX8_changeOf 2 = .ok (.istore_n 1, 1) := by decide +kernel
theorem dX8_changeOf_3 : decode cX8_changeOf 3 = .ok (.aload_n 0, 1) := by decide +kernel
theorem dX8_changeOf_4 : decode cX8_changeOf 4 = .ok (.invokevirtual 338, 3) := by decide +kernel
theorem dX8_changeOf_7 : decode cX8_changeOf 7 = .ok (.istore_n 2, 1) := by decide +kernel
theorem dX8_changeOf_8 : decode cX8_changeOf 8 = .ok (.iconst 0, 1) := by decide +kernel
theorem dX8_changeOf_9 : decode cX8_changeOf 9 = .ok (.istore_n 3, 1) := by decide +kernel
theorem dX8_changeOf_10 : decode cX8_changeOf 10 = .ok (.iload_n 3, 1) := by decide +kernel
theorem dX8_changeOf_11 : decode cX8_changeOf 11 = .ok (.aload_n 0, 1) := by decide +kernel
theorem dX8_changeOf_12 : decode cX8_changeOf 12 = .ok (.getfield 7, 3) := by decide +kernel
theorem dX8_changeOf_15 : decode cX8_changeOf 15 = .ok (.if_icmp .ge 89, 3) := by decide +kernel
theorem dX8_changeOf_18 : decode cX8_changeOf 18 = .ok (.iload_n 3, 1) := by decide +kernel
theorem dX8_changeOf_19 : decode cX8_changeOf 19 = .ok (.iconst 1, 1) := by decide +kernel
theorem dX8_changeOf_20 : decode cX8_changeOf 20 = .ok (.iadd, 1) := by decide +kernel
theorem dX8_changeOf_21 : decode cX8_changeOf 21 = .ok (.istore 4, 2) := by decide +kernel
theorem dX8_changeOf_23 : decode cX8_changeOf 23 = .ok (.iload 4, 2) := by decide +kernel
theorem dX8_changeOf_25 : decode cX8_changeOf 25 = .ok (.aload_n 0, 1) := by decide +kernel
theorem dX8_changeOf_26 : decode cX8_changeOf 26 = .ok (.getfield 7, 3) := by decide +kernel
theorem dX8_changeOf_29 : decode cX8_changeOf 29 = .ok (.if_icmp .ge 69, 3) := by decide +kernel
theorem dX8_changeOf_32 : decode cX8_changeOf 32 = .ok (.aload_n 0, 1) := by decide +kernel
theorem dX8_changeOf_33 : decode cX8_changeOf 33 = .ok (.iload_n 3, 1) := by decide +kernel
theorem dX8_changeOf_34 : decode cX8_changeOf 34 = .ok (.invokevirtual 232, 3) := by decide +kernel
theorem dX8_changeOf_37 : decode cX8_changeOf 37 = .ok (.ifCond .ne 55, 3) := by decide +kernel
theorem dX8_changeOf_40 : decode cX8_changeOf 40 = .ok (.aload_n 0, 1) := by decide +kernel
theorem dX8_changeOf_41 : decode cX8_changeOf 41 = .ok (.iload 4, 2) := by decide +kernel
theorem dX8_changeOf_43 : decode cX8_changeOf 43 = .ok (.invokevirtual 232, 3) := by decide +kernel
theorem dX8_changeOf_46 : decode cX8_changeOf 46 = .ok (.ifCond .eq 6, 3) := by decide +kernel
theorem dX8_changeOf_49 : decode cX8_changeOf 49 = .ok (.goto 43, 3) := by decide +kernel
theorem dX8_changeOf_52 : decode cX8_changeOf 52 = .ok (.aload_n 0, 1) := by decide +kernel
theorem dX8_changeOf_53 : decode cX8_changeOf 53 = .ok (.iload_n 3, 1) := by decide +kernel
theorem dX8_changeOf_54 : decode cX8_changeOf 54 = .ok (.iload 4, 2) := by decide +kernel
theorem dX8_changeOf_56 : decode cX8_changeOf 56 = .ok (.invokevirtual 372, 3) := by decide +kernel
theorem dX8_changeOf_59 : decode cX8_changeOf 59 = .ok (.aload_n 0, 1) := by decide +kernel
theorem dX8_changeOf_60 : decode cX8_changeOf 60 = .ok (.invokevirtual 338, 3) := by decide +kernel
theorem dX8_changeOf_63 : decode cX8_changeOf 63 = .ok (.istore 5, 2) := by decide +kernel
theorem dX8_changeOf_65 : decode cX8_changeOf 65 = .ok (.aload_n 0, 1) := by decide +kernel
theorem dX8_changeOf_66 : decode cX8_changeOf 66 = .ok (.iload_n 3, 1) := by decide +kernel
theorem dX8_changeOf_67 : decode cX8_changeOf 67 = .ok (.iload 4, 2) := by decide +kernel
theorem dX8_changeOf_69 : decode cX8_changeOf 69 = .ok (.invokevirtual 372, 3) := by decide +kernel
theorem dX8_changeOf_72 : decode cX8_changeOf 72 = .ok (.iload 5, 2) := by decide +kernel
theorem dX8_changeOf_74 : decode cX8_changeOf 74 = .ok (.iload_n 2, 1) := by decide +kernel
theorem dX8_changeOf_75 : decode cX8_changeOf 75 = .ok (.if_icmp .lt 6, 3) := by decide +kernel
theorem dX8_changeOf_78 : decode cX8_changeOf 78 = .ok (.goto 14, 3) := by decide +kernel
theorem dX8_changeOf_81 : decode cX8_changeOf 81 = .ok (.bipush 10, 2) := by decide +kernel
theorem dX8_changeOf_83 : decode cX8_changeOf 83 = .ok (.iload_n 3, 1) := by decide +kernel
theorem dX8_changeOf_84 : decode cX8_changeOf 84 = .ok (.imul, 1) := by decide +kernel
theorem dX8_changeOf_85 : decode cX8_changeOf 85 = .ok (.iload 4, 2) := by decide +kernel
theorem dX8_changeOf_87 : decode cX8_changeOf 87 = .ok (.iadd, 1) := by decide +kernel
theorem dX8_changeOf_88 : decode cX8_changeOf 88 = .ok (.istore_n 1, 1) := by decide +kernel
theorem dX8_changeOf_89 : decode cX8_changeOf 89 = .ok (.iload 5, 2) := by decide +kernel
theorem dX8_changeOf_91 : decode cX8_changeOf 91 = .ok (.istore_n 2, 1) := by decide +kernel
theorem dX8_changeOf_92 : decode cX8_changeOf 92 = .ok (.iinc 4 1, 3) := by decide +kernel
theorem dX8_changeOf_95 : decode cX8_changeOf 95 = .ok (.goto (-72), 3) := by decide +kernel
theorem dX8_changeOf_98 : decode cX8_changeOf 98 = .ok (.iinc 3 1, 3) := by decide +kernel
theorem dX8_changeOf_101 : decode cX8_changeOf 101 = .ok (.goto (-91), 3) := by decide +kernel
theorem dX8_changeOf_104 : decode cX8_changeOf 104 = .ok (.iload_n 1, 1) := by decide +kernel
theorem dX8_changeOf_105 : decode cX8_changeOf 105 = .ok (.ireturn, 1) := by decide +kernel
theorem dX8_greatestWithout_0 : decode cX8_greatestWithout 0 = .ok (.aload_n 0, 1) := by decide +kernel
theorem dX8_greatestWithout_1 : decode cX8_greatestWithout 1 = .ok (.getfield 26, 3) := by decide +kernel
theorem dX8_greatestWithout_4 : decode cX8_greatestWithout 4 = .ok (.iload_n 1, 1) := by decide +kernel
theorem dX8_greatestWithout_5 : decode cX8_greatestWithout 5 = .ok (.iaload, 1) := by decide +kernel
theorem dX8_greatestWithout_6 : decode cX8_greatestWithout 6 = .ok (.istore_n 2, 1) := by decide +kernel
theorem dX8_greatestWithout_7 : decode cX8_greatestWithout 7 = .ok (.aload_n 0, 1) := by decide +kernel
theorem dX8_greatestWithout_8 : decode cX8_greatestWithout 8 = .ok (.getfield 26, 3) := by decide +kernel
theorem dX8_greatestWithout_11 : decode cX8_greatestWithout 11 = .ok (.iload_n 1, 1) := by decide +kernel
theorem dX8_greatestWithout_12 : decode cX8_greatestWithout 12 = .ok (.bipush (-5), 2) := by decide +kernel
theorem dX8_greatestWithout_14 : decode cX8_greatestWithout 14 = .ok (.iastore, 1) := by decide +kernel
theorem dX8_greatestWithout_15 : decode cX8_greatestWithout 15 = .ok (.aload_n 0, 1) := by decide +kernel
theorem dX8_greatestWithout_16 : decode cX8_greatestWithout 16 = .ok (.invokevirtual 338, 3) := by decide +kernel
theorem dX8_greatestWithout_19 : decode cX8_greatestWithout 19 = .ok (.istore_n 3, 1) := by decide +kernel
theorem dX8_greatestWithout_20 : decode cX8_greatestWithout 20 = .ok (.aload_n 0, 1) := by decide +kernel
theorem dX8_greatestWithout_21 : decode cX8_greatestWithout 21 = .ok (.getfield 26, 3) := by decide +kernel
theorem dX8_greatestWithout_24 : decode cX8_greatestWithout 24 = .ok (.iload_n 1, 1) := by decide +kernel
theorem dX8_greatestWithout_25 : decode cX8_greatestWithout 25 = .ok (.iload_n 2, 1) := by decide +kernel
theorem dX8_greatestWithout_26 : decode cX8_greatestWithout 26 = .ok (.iastore, 1) := by decide +kernel
theorem dX8_greatestWithout_27 : decode cX8_greatestWithout 27 = .ok (.iload_n 3, 1) := by decide +kernel
theorem dX8_greatestWithout_28 : decode cX8_greatestWithout 28 = .ok (.ireturn, 1) := by decide +kernel
theorem dX8_worstOf_0 : decode cX8_worstOf 0 = .ok (.bipush (-5), 2) := by decide +kernel
theorem dX8_worstOf_2 : decode cX8_worstOf 2 = .ok (.istore_n 1, 1) := by decide +kernel
theorem dX8_worstOf_3 : decode cX8_worstOf 3 = .ok (.iconst 0, 1) := by decide +kernel
theorem dX8_worstOf_4 : decode cX8_worstOf 4 = .ok (.istore_n 2, 1) := by decide +kernel
theorem dX8_worstOf_5 : decode cX8_worstOf 5 = .ok (.iconst 0, 1) := by decide +kernel
theorem dX8_worstOf_6 : decode cX8_worstOf 6 = .ok (.istore_n 3, 1) := by decide +kernel
theorem dX8_worstOf_7 : decode cX8_worstOf 7 = .ok (.iload_n 3, 1) := by decide +kernel
theorem dX8_worstOf_8 : decode cX8_worstOf 8 = .ok (.aload_n 0, 1) := by decide +kernel
theorem dX8_worstOf_9 : decode cX8_worstOf 9 = .ok (.getfield 7, 3) := by decide +kernel
theorem dX8_worstOf_12 : decode cX8_worstOf 12 = .ok (.if_icmp .ge 34, 3) := by decide +kernel
theorem dX8_worstOf_15 : decode cX8_worstOf 15 = .ok (.aload_n 0, 1) := by decide +kernel
theorem dX8_worstOf_16 : decode cX8_worstOf 16 = .ok (.iload_n 3, 1) := by decide +kernel
theorem dX8_worstOf_17 : decode cX8_worstOf 17 = .ok (.invokevirtual 376, 3) := by decide +kernel
theorem dX8_worstOf_20 : decode cX8_worstOf 20 = .ok (.istore 4, 2) := by decide +kernel
theorem dX8_worstOf_22 : decode cX8_worstOf 22 = .ok (.iload_n 1, 1) := by decide +kernel
theorem dX8_worstOf_23 : decode cX8_worstOf 23 = .ok (.ifCond .lt 12, 3) := by decide +kernel
theorem dX8_worstOf_26 : decode cX8_worstOf 26 = .ok (.iload 4, 2) := by decide +kernel
theorem dX8_worstOf_28 : decode cX8_worstOf 28 = .ok (.iload_n 2, 1) := by decide +kernel
theorem dX8_worstOf_29 : decode cX8_worstOf 29 = .ok (.if_icmp .lt 6, 3) := by decide +kernel
theorem dX8_worstOf_32 : decode cX8_worstOf 32 = .ok (.goto 8, 3) := by decide +kernel
theorem dX8_worstOf_35 : decode cX8_worstOf 35 = .ok (.iload_n 3, 1) := by decide +kernel
theorem dX8_worstOf_36 : decode cX8_worstOf 36 = .ok (.istore_n 1, 1) := by decide +kernel
theorem dX8_worstOf_37 : decode cX8_worstOf 37 = .ok (.iload 4, 2) := by decide +kernel
theorem dX8_worstOf_39 : decode cX8_worstOf 39 = .ok (.istore_n 2, 1) := by decide +kernel
theorem dX8_worstOf_40 : decode cX8_worstOf 40 = .ok (.iinc 3 1, 3) := by decide +kernel
theorem dX8_worstOf_43 : decode cX8_worstOf 43 = .ok (.goto (-36), 3) := by decide +kernel
theorem dX8_worstOf_46 : decode cX8_worstOf 46 = .ok (.iload_n 1, 1) := by decide +kernel
theorem dX8_worstOf_47 : decode cX8_worstOf 47 = .ok (.ireturn, 1) := by decide +kernel
theorem dX8_best_0 : decode cX8_best 0 = .ok (.iload_n 1, 1) := by decide +kernel
theorem dX8_best_1 : decode cX8_best 1 = .ok (.ifCond .ne 10, 3) := by decide +kernel
theorem dX8_best_4 : decode cX8_best 4 = .ok (.aload_n 0, 1) := by decide +kernel
theorem dX8_best_5 : decode cX8_best 5 = .ok (.invokevirtual 379, 3) := by decide +kernel
theorem dX8_best_8 : decode cX8_best 8 = .ok (.goto 16, 3) := by decide +kernel
theorem dX8_best_11 : decode cX8_best 11 = .ok (.iload_n 1, 1) := by decide +kernel
theorem dX8_best_12 : decode cX8_best 12 = .ok (.iconst 1, 1) := by decide +kernel
theorem dX8_best_13 : decode cX8_best 13 = .ok (.if_icmp .ne 10, 3) := by decide +kernel
theorem dX8_best_16 : decode cX8_best 16 = .ok (.aload_n 0, 1) := by decide +kernel
theorem dX8_best_17 : decode cX8_best 17 = .ok (.invokevirtual 382, 3) := by decide +kernel
theorem dX8_best_20 : decode cX8_best 20 = .ok (.goto 4, 3) := by decide +kernel
theorem dX8_best_23 : decode cX8_best 23 = .ok (.iconst (-1), 1) := by decide +kernel
theorem dX8_best_24 : decode cX8_best 24 = .ok (.ireturn, 1) := by decide +kernel
theorem dX8_stepOf_0 : decode cX8_stepOf 0 = .ok (.iconst 1, 1) := by decide +kernel
theorem dX8_stepOf_1 : decode cX8_stepOf 1 = .ok (.istore 4, 2) := by decide +kernel
theorem dX8_stepOf_3 : decode cX8_stepOf 3 = .ok (.iload_n 3, 1) := by decide +kernel
theorem dX8_stepOf_4 : decode cX8_stepOf 4 = .ok (.iconst 1, 1) := by decide +kernel
theorem dX8_stepOf_5 : decode cX8_stepOf 5 = .ok (.iadd, 1) := by decide +kernel
theorem dX8_stepOf_6 : decode cX8_stepOf 6 = .ok (.istore 5, 2) := by decide +kernel
theorem dX8_stepOf_8 : decode cX8_stepOf 8 = .ok (.iload 5, 2) := by decide +kernel
theorem dX8_stepOf_10 : decode cX8_stepOf 10 = .ok (.iload_n 2, 1) := by decide +kernel
theorem dX8_stepOf_11 : decode cX8_stepOf 11 = .ok (.if_icmp .ge 16, 3) := by decide +kernel
theorem dX8_stepOf_14 : decode cX8_stepOf 14 = .ok (.iload 4, 2) := by decide +kernel
theorem dX8_stepOf_16 : decode cX8_stepOf 16 = .ok (.bipush 30, 2) := by decide +kernel
theorem dX8_stepOf_18 : decode cX8_stepOf 18 = .ok (.imul, 1) := by decide +kernel
theorem dX8_stepOf_19 : decode cX8_stepOf 19 = .ok (.istore 4, 2) := by decide +kernel
theorem dX8_stepOf_21 : decode cX8_stepOf 21 = .ok (.iinc 5 1, 3) := by decide +kernel
theorem dX8_stepOf_24 : decode cX8_stepOf 24 = .ok (.goto (-16), 3) := by decide +kernel
theorem dX8_stepOf_27 : decode cX8_stepOf 27 = .ok (.iload_n 1, 1) := by decide +kernel
theorem dX8_stepOf_28 : decode cX8_stepOf 28 = .ok (.iload 4, 2) := by decide +kernel
theorem dX8_stepOf_30 : decode cX8_stepOf 30 = .ok (.idiv, 1) := by decide +kernel
theorem dX8_stepOf_31 : decode cX8_stepOf 31 = .ok (.bipush 30, 2) := by decide +kernel
theorem dX8_stepOf_33 : decode cX8_stepOf 33 = .ok (.irem, 1) := by decide +kernel
theorem dX8_stepOf_34 : decode cX8_stepOf 34 = .ok (.ireturn, 1) := by decide +kernel
theorem dX8_isStillBy_0 : decode cX8_isStillBy 0 = .ok (.aload_n 0, 1) := by decide +kernel
theorem dX8_isStillBy_1 : decode cX8_isStillBy 1 = .ok (.invokevirtual 353, 3) := by decide +kernel
theorem dX8_isStillBy_4 : decode cX8_isStillBy 4 = .ok (.iconst 1, 1) := by decide +kernel
theorem dX8_isStillBy_5 : decode cX8_isStillBy 5 = .ok (.istore_n 3, 1) := by decide +kernel
theorem dX8_isStillBy_6 : decode cX8_isStillBy 6 = .ok (.iconst 0, 1) := by decide +kernel
theorem dX8_isStillBy_7 : decode cX8_isStillBy 7 = .ok (.istore 4, 2) := by decide +kernel
theorem dX8_isStillBy_9 : decode cX8_isStillBy 9 = .ok (.iload 4, 2) := by decide +kernel
theorem dX8_isStillBy_11 : decode cX8_isStillBy 11 = .ok (.iload_n 2, 1) := by decide +kernel
theorem dX8_isStillBy_12 : decode cX8_isStillBy 12 = .ok (.if_icmp .ge 91, 3) := by decide +kernel
theorem dX8_isStillBy_15 : decode cX8_isStillBy 15 = .ok (.iload_n 3, 1) := by decide +kernel
theorem dX8_isStillBy_16 : decode cX8_isStillBy 16 = .ok (.ifCond .eq 87, 3) := by decide +kernel
theorem dX8_isStillBy_19 : decode cX8_isStillBy 19 = .ok (.aload_n 0, 1) := by decide +kernel
theorem dX8_isStillBy_20 : decode cX8_isStillBy 20 = .ok (.iload_n 1, 1) := by decide +kernel
theorem dX8_isStillBy_21 : decode cX8_isStillBy 21 = .ok (.iload_n 2, 1) := by decide +kernel
theorem dX8_isStillBy_22 : decode cX8_isStillBy 22 = .ok (.iload 4, 2) := by decide +kernel
theorem dX8_isStillBy_24 : decode cX8_isStillBy 24 = .ok (.invokevirtual 385, 3) := by decide +kernel
theorem dX8_isStillBy_27 : decode cX8_isStillBy 27 = .ok (.iconst 5, 1) := by decide +kernel
theorem dX8_isStillBy_28 : decode cX8_isStillBy 28 = .ok (.idiv, 1) := by decide +kernel
theorem dX8_isStillBy_29 : decode cX8_isStillBy 29 = .ok (.istore 5, 2) := by decide +kernel
theorem dX8_isStillBy_31 : decode cX8_isStillBy 31 = .ok (.aload_n 0, 1) := by decide +kernel
theorem dX8_isStillBy_32 : decode cX8_isStillBy 32 = .ok (.iload_n 1, 1) := by decide +kernel
theorem dX8_isStillBy_33 : decode cX8_isStillBy 33 = .ok (.iload_n 2, 1) := by decide +kernel
theorem dX8_isStillBy_34 : decode cX8_isStillBy 34 = .ok (.iload 4, 2) := by decide +kernel
theorem dX8_isStillBy_36 : decode cX8_isStillBy 36 = .ok (.invokevirtual 385, 3) := by decide +kernel
theorem dX8_isStillBy_39 : decode cX8_isStillBy 39 = .ok (.iconst 5, 1) := by decide +kernel
theorem dX8_isStillBy_40 : decode cX8_isStillBy 40 = .ok (.irem, 1) := by decide +kernel
theorem dX8_isStillBy_41 : decode cX8_isStillBy 41 = .ok (.istore 6, 2) := by decide +kernel
theorem dX8_isStillBy_43 : decode cX8_isStillBy 43 = .ok (.aload_n 0, 1) := by decide +kernel
theorem dX8_isStillBy_44 : decode cX8_isStillBy 44 = .ok (.iload 5, 2) := by decide +kernel
theorem dX8_isStillBy_46 : decode cX8_isStillBy 46 = .ok (.invokevirtual 229, 3) := by decide +kernel
theorem dX8_isStillBy_49 : decode cX8_isStillBy 49 = .ok (.ifCond .eq 33, 3) := by decide +kernel
theorem dX8_isStillBy_52 : decode cX8_isStillBy 52 = .ok (.aload_n 0, 1) := by decide +kernel
theorem dX8_isStillBy_53 : decode cX8_isStillBy 53 = .ok (.iload 5, 2) := by decide +kernel
theorem dX8_isStillBy_55 : decode cX8_isStillBy 55 = .ok (.invokevirtual 232, 3) := by decide +kernel
theorem dX8_isStillBy_58 : decode cX8_isStillBy 58 = .ok (.ifCond .ne 24, 3) := by decide +kernel
theorem dX8_isStillBy_61 : decode cX8_isStillBy 61 = .ok (.aload_n 0, 1) := by decide +kernel
theorem dX8_isStillBy_62 : decode cX8_isStillBy 62 = .ok (.aload_n 0, 1) := by decide +kernel
theorem dX8_isStillBy_63 : decode cX8_isStillBy 63 = .ok (.getfield 26, 3) := by decide +kernel
theorem dX8_isStillBy_66 : decode cX8_isStillBy 66 = .ok (.iload 5, 2) := by decide +kernel
theorem dX8_isStillBy_68 : decode cX8_isStillBy 68 = .ok (.iaload, 1) := by decide +kernel
theorem dX8_isStillBy_69 : decode cX8_isStillBy 69 = .ok (.iload 6, 2) := by decide +kernel
theorem dX8_isStillBy_71 : decode cX8_isStillBy 71 = .ok (.invokevirtual 235, 3) := by decide +kernel
theorem dX8_isStillBy_74 : decode cX8_isStillBy 74 = .ok (.iconst 1, 1) := by decide +kernel
theorem dX8_isStillBy_75 : decode cX8_isStillBy 75 = .ok (.if_icmp .ne 7, 3) := by decide +kernel
theorem dX8_isStillBy_78 : decode cX8_isStillBy 78 = .ok (.iconst 1, 1) := by decide +kernel
theorem dX8_isStillBy_79 : decode cX8_isStillBy 79 = .ok (.goto 4, 3) := by decide +kernel
theorem dX8_isStillBy_82 : decode cX8_isStillBy 82 = .ok (.iconst 0, 1) := by decide +kernel
theorem dX8_isStillBy_83 : decode cX8_isStillBy 83 = .ok (.istore_n 3, 1) := by decide +kernel
theorem dX8_isStillBy_84 : decode cX8_isStillBy 84 = .ok (.iload_n 3, 1) := by decide +kernel
theorem dX8_isStillBy_85 : decode cX8_isStillBy 85 = .ok (.ifCond .eq 12, 3) := by decide +kernel
theorem dX8_isStillBy_88 : decode cX8_isStillBy 88 = .ok (.aload_n 0, 1) := by decide +kernel
theorem dX8_isStillBy_89 : decode cX8_isStillBy 89 = .ok (.getfield 26, 3) := by decide +kernel
theorem dX8_isStillBy_92 : decode cX8_isStillBy 92 = .ok (.iload 5, 2) := by decide +kernel
theorem dX8_isStillBy_94 : decode cX8_isStillBy 94 = .ok (.iload 6, 2) := by decide +kernel
theorem dX8_isStillBy_96 : decode cX8_isStillBy 96 = .ok (.iastore, 1) := by decide +kernel
theorem dX8_isStillBy_97 : decode cX8_isStillBy 97 = .ok (.iinc 4 1, 3) := by decide +kernel
theorem dX8_isStillBy_100 : decode cX8_isStillBy 100 = .ok (.goto (-91), 3) := by decide +kernel
theorem dX8_isStillBy_103 : decode cX8_isStillBy 103 = .ok (.iload_n 3, 1) := by decide +kernel
theorem dX8_isStillBy_104 : decode cX8_isStillBy 104 = .ok (.ifCond .eq 16, 3) := by decide +kernel
theorem dX8_isStillBy_107 : decode cX8_isStillBy 107 = .ok (.aload_n 0, 1) := by decide +kernel
theorem dX8_isStillBy_108 : decode cX8_isStillBy 108 = .ok (.invokevirtual 341, 3) := by decide +kernel
theorem dX8_isStillBy_111 : decode cX8_isStillBy 111 = .ok (.bipush 31, 2) := by decide +kernel
theorem dX8_isStillBy_113 : decode cX8_isStillBy 113 = .ok (.if_icmp .ne 7, 3) := by decide +kernel
theorem dX8_isStillBy_116 : decode cX8_isStillBy 116 = .ok (.iconst 1, 1) := by decide +kernel
theorem dX8_isStillBy_117 : decode cX8_isStillBy 117 = .ok (.goto 4, 3) := by decide +kernel
theorem dX8_isStillBy_120 : decode cX8_isStillBy 120 = .ok (.iconst 0, 1) := by decide +kernel
theorem dX8_isStillBy_121 : decode cX8_isStillBy 121 = .ok (.istore_n 3, 1) := by decide +kernel
theorem dX8_isStillBy_122 : decode cX8_isStillBy 122 = .ok (.aload_n 0, 1) := by decide +kernel
theorem dX8_isStillBy_123 : decode cX8_isStillBy 123 = .ok (.invokevirtual 356, 3) := by decide +kernel
theorem dX8_isStillBy_126 : decode cX8_isStillBy 126 = .ok (.iload_n 3, 1) := by decide +kernel
theorem dX8_isStillBy_127 : decode cX8_isStillBy 127 = .ok (.ireturn, 1) := by decide +kernel
theorem dX8_fewest_0 : decode cX8_fewest 0 = .ok (.aload_n 0, 1) := by decide +kernel
theorem dX8_fewest_1 : decode cX8_fewest 1 = .ok (.iload_n 1, 1) := by decide +kernel
theorem dX8_fewest_2 : decode cX8_fewest 2 = .ok (.iconst (-1), 1) := by decide +kernel
theorem dX8_fewest_3 : decode cX8_fewest 3 = .ok (.iconst 2, 1) := by decide +kernel
theorem dX8_fewest_4 : decode cX8_fewest 4 = .ok (.invokevirtual 218, 3) := by decide +kernel
theorem dX8_fewest_7 : decode cX8_fewest 7 = .ok (.ifCond .ne 5, 3) := by decide +kernel
theorem dX8_fewest_10 : decode cX8_fewest 10 = .ok (.iconst (-1), 1) := by decide +kernel
theorem dX8_fewest_11 : decode cX8_fewest 11 = .ok (.ireturn, 1) := by decide +kernel
theorem dX8_fewest_12 : decode cX8_fewest 12 = .ok (.iconst 1, 1) := by decide +kernel
theorem dX8_fewest_13 : decode cX8_fewest 13 = .ok (.istore_n 2, 1) := by decide +kernel
theorem dX8_fewest_14 : decode cX8_fewest 14 = .ok (.iconst 0, 1) := by decide +kernel
theorem dX8_fewest_15 : decode cX8_fewest 15 = .ok (.istore_n 3, 1) := by decide +kernel
theorem dX8_fewest_16 : decode cX8_fewest 16 = .ok (.iload_n 3, 1) := by decide +kernel
theorem dX8_fewest_17 : decode cX8_fewest 17 = .ok (.iconst 4, 1) := by decide +kernel
theorem dX8_fewest_18 : decode cX8_fewest 18 = .ok (.if_icmp .ge 83, 3) := by decide +kernel
theorem dX8_fewest_21 : decode cX8_fewest 21 = .ok (.iconst 0, 1) := by decide +kernel
theorem dX8_fewest_22 : decode cX8_fewest 22 = .ok (.istore 4, 2) := by decide +kernel
theorem dX8_fewest_24 : decode cX8_fewest 24 = .ok (.iload 4, 2) := by decide +kernel
theorem dX8_fewest_26 : decode cX8_fewest 26 = .ok (.iload_n 2, 1) := by decide +kernel
theorem dX8_fewest_27 : decode cX8_fewest 27 = .ok (.if_icmp .ge 63, 3) := by decide +kernel
theorem dX8_fewest_30 : decode cX8_fewest 30 = .ok (.aload_n 0, 1) := by decide +kernel
theorem dX8_fewest_31 : decode cX8_fewest 31 = .ok (.iload 4, 2) := by decide +kernel
theorem dX8_fewest_33 : decode cX8_fewest 33 = .ok (.iload_n 3, 1) := by decide +kernel
theorem dX8_fewest_34 : decode cX8_fewest 34 = .ok (.invokevirtual 388, 3) := by decide +kernel
theorem dX8_fewest_37 : decode cX8_fewest 37 = .ok (.ifCond .ne 6, 3) := by decide +kernel
theorem dX8_fewest_40 : decode cX8_fewest 40 = .ok (.goto 44, 3) := by decide +kernel
theorem dX8_fewest_43 : decode cX8_fewest 43 = .ok (.iload_n 1, 1) := by decide +kernel
theorem dX8_fewest_44 : decode cX8_fewest 44 = .ok (.ifCond .ge 5, 3) := by decide +kernel
theorem dX8_fewest_47 : decode cX8_fewest 47 = .ok (.iload_n 3, 1) := by decide +kernel
theorem dX8_fewest_48 : decode cX8_fewest 48 = .ok (.ireturn, 1) := by decide +kernel
theorem dX8_fewest_49 : decode cX8_fewest 49 = .ok (.iload_n 1, 1) := by decide +kernel
theorem dX8_fewest_50 : decode cX8_fewest 50 = .ok (.iload_n 3, 1) := by decide +kernel
theorem dX8_fewest_51 : decode cX8_fewest 51 = .ok (.if_icmp .ge 30, 3) := by decide +kernel
theorem dX8_fewest_54 : decode cX8_fewest 54 = .ok (.bipush 10, 2) := by decide +kernel
theorem dX8_fewest_56 : decode cX8_fewest 56 = .ok (.aload_n 0, 1) := by decide +kernel
theorem dX8_fewest_57 : decode cX8_fewest 57 = .ok (.iload 4, 2) := by decide +kernel
theorem dX8_fewest_59 : decode cX8_fewest 59 = .ok (.iload_n 3, 1) := by decide +kernel
theorem dX8_fewest_60 : decode cX8_fewest 60 = .ok (.iload_n 1, 1) := by decide +kernel
theorem dX8_fewest_61 : decode cX8_fewest 61 = .ok (.invokevirtual 385, 3) := by decide +kernel
theorem dX8_fewest_64 : decode cX8_fewest 64 = .ok (.iconst 5, 1) := by decide +kernel
theorem dX8_fewest_65 : decode cX8_fewest 65 = .ok (.idiv, 1) := by decide +kernel
theorem dX8_fewest_66 : decode cX8_fewest 66 = .ok (.imul, 1) := by decide +kernel
theorem dX8_fewest_67 : decode cX8_fewest 67 = .ok (.aload_n 0, 1) := by decide +kernel
theorem dX8_fewest_68 : decode cX8_fewest 68 = .ok (.iload 4, 2) := by decide +kernel
theorem dX8_fewest_70 : decode cX8_fewest 70 = .ok (.iload_n 3, 1) := by decide +kernel
theorem dX8_fewest_71 : decode cX8_fewest 71 = .ok (.iload_n 1, 1) := by decide +kernel
theorem dX8_fewest_72 : decode cX8_fewest 72 = .ok (.invokevirtual 385, 3) := by decide +kernel
theorem dX8_fewest_75 : decode cX8_fewest 75 = .ok (.iconst 5, 1) := by decide +kernel
theorem dX8_fewest_76 : decode cX8_fewest 76 = .ok (.irem, 1) := by decide +kernel
theorem dX8_fewest_77 : decode cX8_fewest 77 = .ok (.iadd, 1) := by decide +kernel
theorem dX8_fewest_78 : decode cX8_fewest 78 = .ok (.goto 5, 3) := by decide +kernel
theorem dX8_fewest_81 : decode cX8_fewest 81 = .ok (.bipush (-5), 2) := by decide +kernel
theorem dX8_fewest_83 : decode cX8_fewest 83 = .ok (.ireturn, 1) := by decide +kernel
theorem dX8_fewest_84 : decode cX8_fewest 84 = .ok (.iinc 4 1, 3) := by decide +kernel
theorem dX8_fewest_87 : decode cX8_fewest 87 = .ok (.goto (-63), 3) := by decide +kernel
theorem dX8_fewest_90 : decode cX8_fewest 90 = .ok (.iload_n 2, 1) := by decide +kernel
theorem dX8_fewest_91 : decode cX8_fewest 91 = .ok (.bipush 30, 2) := by decide +kernel
theorem dX8_fewest_93 : decode cX8_fewest 93 = .ok (.imul, 1) := by decide +kernel
theorem dX8_fewest_94 : decode cX8_fewest 94 = .ok (.istore_n 2, 1) := by decide +kernel
theorem dX8_fewest_95 : decode cX8_fewest 95 = .ok (.iinc 3 1, 3) := by decide +kernel
theorem dX8_fewest_98 : decode cX8_fewest 98 = .ok (.goto (-82), 3) := by decide +kernel
theorem dX8_fewest_101 : decode cX8_fewest 101 = .ok (.bipush (-5), 2) := by decide +kernel
theorem dX8_fewest_103 : decode cX8_fewest 103 = .ok (.ireturn, 1) := by decide +kernel
theorem dX8_see_0 : decode cX8_see 0 = .ok (.iload_n 1, 1) := by decide +kernel
theorem dX8_see_1 : decode cX8_see 1 = .ok (.iconst (-1), 1) := by decide +kernel
theorem dX8_see_2 : decode cX8_see 2 = .ok (.if_icmp .ne 10, 3) := by decide +kernel
theorem dX8_see_5 : decode cX8_see 5 = .ok (.aload_n 0, 1) := by decide +kernel
theorem dX8_see_6 : decode cX8_see 6 = .ok (.iconst 0, 1) := by decide +kernel
theorem dX8_see_7 : decode cX8_see 7 = .ok (.putfield 111, 3) := by decide +kernel
theorem dX8_see_10 : decode cX8_see 10 = .ok (.iconst 0, 1) := by decide +kernel
theorem dX8_see_11 : decode cX8_see 11 = .ok (.ireturn, 1) := by decide +kernel
theorem dX8_see_12 : decode cX8_see 12 = .ok (.aload_n 0, 1) := by decide +kernel
theorem dX8_see_13 : decode cX8_see 13 = .ok (.iload_n 1, 1) := by decide +kernel
theorem dX8_see_14 : decode cX8_see 14 = .ok (.invokevirtual 222, 3) := by decide +kernel
theorem dX8_see_17 : decode cX8_see 17 = .ok (.ifCond .ne 5, 3) := by decide +kernel
theorem dX8_see_20 : decode cX8_see 20 = .ok (.iconst (-1), 1) := by decide +kernel
theorem dX8_see_21 : decode cX8_see 21 = .ok (.ireturn, 1) := by decide +kernel
theorem dX8_see_22 : decode cX8_see 22 = .ok (.aload_n 0, 1) := by decide +kernel
theorem dX8_see_23 : decode cX8_see 23 = .ok (.iload_n 2, 1) := by decide +kernel
theorem dX8_see_24 : decode cX8_see 24 = .ok (.iconst 0, 1) := by decide +kernel
theorem dX8_see_25 : decode cX8_see 25 = .ok (.sipush 999, 3) := by decide +kernel
theorem dX8_see_28 : decode cX8_see 28 = .ok (.invokevirtual 218, 3) := by decide +kernel
theorem dX8_see_31 : decode cX8_see 31 = .ok (.ifCond .eq 14, 3) := by decide +kernel
theorem dX8_see_34 : decode cX8_see 34 = .ok (.aload_n 0, 1) := by decide +kernel
theorem dX8_see_35 : decode cX8_see 35 = .ok (.iload_n 3, 1) := by decide +kernel
theorem dX8_see_36 : decode cX8_see 36 = .ok (.iconst 0, 1) := by decide +kernel
theorem dX8_see_37 : decode cX8_see 37 = .ok (.bipush 20, 2) := by decide +kernel
theorem dX8_see_39 : decode cX8_see 39 = .ok (.invokevirtual 218, 3) := by decide +kernel
theorem dX8_see_42 : decode cX8_see 42 = .ok (.ifCond .ne 6, 3) := by decide +kernel
theorem dX8_see_45 : decode cX8_see 45 = .ok (.bipush (-2), 2) := by decide +kernel
theorem dX8_see_47 : decode cX8_see 47 = .ok (.ireturn, 1) := by decide +kernel
theorem dX8_see_48 : decode cX8_see 48 = .ok (.aload_n 0, 1) := by decide +kernel
theorem dX8_see_49 : decode cX8_see 49 = .ok (.getfield 111, 3) := by decide +kernel
theorem dX8_see_52 : decode cX8_see 52 = .ok (.iconst 5, 1) := by decide +kernel
theorem dX8_see_53 : decode cX8_see 53 = .ok (.if_icmp .ne 6, 3) := by decide +kernel
theorem dX8_see_56 : decode cX8_see 56 = .ok (.bipush (-4), 2) := by decide +kernel
theorem dX8_see_58 : decode cX8_see 58 = .ok (.ireturn, 1) := by decide +kernel
theorem dX8_see_59 : decode cX8_see 59 = .ok (.aload_n 0, 1) := by decide +kernel
theorem dX8_see_60 : decode cX8_see 60 = .ok (.getfield 114, 3) := by decide +kernel
theorem dX8_see_63 : decode cX8_see 63 = .ok (.aload_n 0, 1) := by decide +kernel
theorem dX8_see_64 : decode cX8_see 64 = .ok (.getfield 111, 3) := by decide +kernel
theorem dX8_see_67 : decode cX8_see 67 = .ok (.iload_n 1, 1) := by decide +kernel
theorem dX8_see_68 : decode cX8_see 68 = .ok (.iastore, 1) := by decide +kernel
theorem dX8_see_69 : decode cX8_see 69 = .ok (.aload_n 0, 1) := by decide +kernel
theorem dX8_see_70 : decode cX8_see 70 = .ok (.getfield 117, 3) := by decide +kernel
theorem dX8_see_73 : decode cX8_see 73 = .ok (.aload_n 0, 1) := by decide +kernel
theorem dX8_see_74 : decode cX8_see 74 = .ok (.getfield 111, 3) := by decide +kernel
theorem dX8_see_77 : decode cX8_see 77 = .ok (.iload_n 2, 1) := by decide +kernel
theorem dX8_see_78 : decode cX8_see 78 = .ok (.iastore, 1) := by decide +kernel
theorem dX8_see_79 : decode cX8_see 79 = .ok (.aload_n 0, 1) := by decide +kernel
theorem dX8_see_80 : decode cX8_see 80 = .ok (.getfield 120, 3) := by decide +kernel
theorem dX8_see_83 : decode cX8_see 83 = .ok (.aload_n 0, 1) := by decide +kernel
theorem dX8_see_84 : decode cX8_see 84 = .ok (.getfield 111, 3) := by decide +kernel
theorem dX8_see_87 : decode cX8_see 87 = .ok (.iload_n 3, 1) := by decide +kernel
theorem dX8_see_88 : decode cX8_see 88 = .ok (.iastore, 1) := by decide +kernel
theorem dX8_see_89 : decode cX8_see 89 = .ok (.aload_n 0, 1) := by decide +kernel
theorem dX8_see_90 : decode cX8_see 90 = .ok (.dup, 1) := by decide +kernel
theorem dX8_see_91 : decode cX8_see 91 = .ok (.getfield 111, 3) := by decide +kernel
theorem dX8_see_94 : decode cX8_see 94 = .ok (.iconst 1, 1) := by decide +kernel
theorem dX8_see_95 : decode cX8_see 95 = .ok (.iadd, 1) := by decide +kernel
theorem dX8_see_96 : decode cX8_see 96 = .ok (.putfield 111, 3) := by decide +kernel
theorem dX8_see_99 : decode cX8_see 99 = .ok (.aload_n 0, 1) := by decide +kernel
theorem dX8_see_100 : decode cX8_see 100 = .ok (.getfield 111, 3) := by decide +kernel
theorem dX8_see_103 : decode cX8_see 103 = .ok (.ireturn, 1) := by decide +kernel
theorem dX8_isSeen_0 : decode cX8_isSeen 0 = .ok (.iconst 1, 1) := by decide +kernel
theorem dX8_isSeen_1 : decode cX8_isSeen 1 = .ok (.istore_n 1, 1) := by decide +kernel
theorem dX8_isSeen_2 : decode cX8_isSeen 2 = .ok (.iconst 0, 1) := by decide +kernel
theorem dX8_isSeen_3 : decode cX8_isSeen 3 = .ok (.istore_n 2, 1) := by decide +kernel
theorem dX8_isSeen_4 : decode cX8_isSeen 4 = .ok (.iload_n 2, 1) := by decide +kernel
theorem dX8_isSeen_5 : decode cX8_isSeen 5 = .ok (.aload_n 0, 1) := by decide +kernel
theorem dX8_isSeen_6 : decode cX8_isSeen 6 = .ok (.getfield 111, 3) := by decide +kernel
theorem dX8_isSeen_9 : decode cX8_isSeen 9 = .ok (.if_icmp .ge 56, 3) := by decide +kernel
theorem dX8_isSeen_12 : decode cX8_isSeen 12 = .ok (.iload_n 1, 1) := by decide +kernel
theorem dX8_isSeen_13 : decode cX8_isSeen 13 = .ok (.ifCond .eq 52, 3) := by decide +kernel
theorem dX8_isSeen_16 : decode cX8_isSeen 16 = .ok (.aload_n 0, 1) := by decide +kernel
theorem dX8_isSeen_17 : decode cX8_isSeen 17 = .ok (.invokevirtual 353, 3) := by decide +kernel
theorem dX8_isSeen_20 : decode cX8_isSeen 20 = .ok (.aload_n 0, 1) := by decide +kernel
theorem dX8_isSeen_21 : decode cX8_isSeen 21 = .ok (.aload_n 0, 1) := by decide +kernel
theorem dX8_isSeen_22 : decode cX8_isSeen 22 = .ok (.getfield 120, 3) := by decide +kernel
theorem dX8_isSeen_25 : decode cX8_isSeen 25 = .ok (.iload_n 2, 1) := by decide +kernel
theorem dX8_isSeen_26 : decode cX8_isSeen 26 = .ok (.iaload, 1) := by decide +kernel
theorem dX8_isSeen_27 : decode cX8_isSeen 27 = .ok (.invokevirtual 350, 3) := by decide +kernel
theorem dX8_isSeen_30 : decode cX8_isSeen 30 = .ok (.aload_n 0, 1) := by decide +kernel
theorem dX8_isSeen_31 : decode cX8_isSeen 31 = .ok (.aload_n 0, 1) := by decide +kernel
theorem dX8_isSeen_32 : decode cX8_isSeen 32 = .ok (.getfield 114, 3) := by decide +kernel
theorem dX8_isSeen_35 : decode cX8_isSeen 35 = .ok (.iload_n 2, 1) := by decide +kernel
theorem dX8_isSeen_36 : decode cX8_isSeen 36 = .ok (.iaload, 1) := by decide +kernel
theorem dX8_isSeen_37 : decode cX8_isSeen 37 = .ok (.invokevirtual 239, 3) := by decide +kernel
theorem dX8_isSeen_40 : decode cX8_isSeen 40 = .ok (.aload_n 0, 1) := by decide +kernel
theorem dX8_isSeen_41 : decode cX8_isSeen 41 = .ok (.getfield 117, 3) := by decide +kernel
theorem dX8_isSeen_44 : decode cX8_isSeen 44 = .ok (.iload_n 2, 1) := by decide +kernel
theorem dX8_isSeen_45 : decode cX8_isSeen 45 = .ok (.iaload, 1) := by decide +kernel
theorem dX8_isSeen_46 : decode cX8_isSeen 46 = .ok (.if_icmp .ne 7, 3) := by decide +kernel
theorem dX8_isSeen_49 : decode cX8_isSeen 49 = .ok (.iconst 1, 1) := by decide +kernel
theorem dX8_isSeen_50 : decode cX8_isSeen 50 = .ok (.goto 4, 3) := by decide +kernel
theorem dX8_isSeen_53 : decode cX8_isSeen 53 = .ok (.iconst 0, 1) := by decide +kernel
theorem dX8_isSeen_54 : decode cX8_isSeen 54 = .ok (.istore_n 1, 1) := by decide +kernel
theorem dX8_isSeen_55 : decode cX8_isSeen 55 = .ok (.aload_n 0, 1) := by decide +kernel
theorem dX8_isSeen_56 : decode cX8_isSeen 56 = .ok (.invokevirtual 356, 3) := by decide +kernel
theorem dX8_isSeen_59 : decode cX8_isSeen 59 = .ok (.iinc 2 1, 3) := by decide +kernel
theorem dX8_isSeen_62 : decode cX8_isSeen 62 = .ok (.goto (-58), 3) := by decide +kernel
theorem dX8_isSeen_65 : decode cX8_isSeen 65 = .ok (.iload_n 1, 1) := by decide +kernel
theorem dX8_isSeen_66 : decode cX8_isSeen 66 = .ok (.ireturn, 1) := by decide +kernel
theorem dX8_louds_0 : decode cX8_louds 0 = .ok (.aload_n 0, 1) := by decide +kernel
theorem dX8_louds_1 : decode cX8_louds 1 = .ok (.iload_n 1, 1) := by decide +kernel
theorem dX8_louds_2 : decode cX8_louds 2 = .ok (.invokevirtual 229, 3) := by decide +kernel
theorem dX8_louds_5 : decode cX8_louds 5 = .ok (.ifCond .eq 13, 3) := by decide +kernel
theorem dX8_louds_8 : decode cX8_louds 8 = .ok (.aload_n 0, 1) := by decide +kernel
theorem dX8_louds_9 : decode cX8_louds 9 = .ok (.iload_n 2, 1) := by decide +kernel
theorem dX8_louds_10 : decode cX8_louds 10 = .ok (.iconst 0, 1) := by decide +kernel
theorem dX8_louds_11 : decode cX8_louds 11 = .ok (.iconst 1, 1) := by decide +kernel
theorem dX8_louds_12 : decode cX8_louds 12 = .ok (.invokevirtual 218, 3) := by decide +kernel
theorem dX8_louds_15 : decode cX8_louds 15 = .ok (.ifCond .ne 5, 3) := by decide +kernel
theorem dX8_louds_18 : decode cX8_louds 18 = .ok (.iconst (-1), 1) := by decide +kernel
theorem dX8_louds_19 : decode cX8_louds 19 = .ok (.ireturn, 1) := by decide +kernel
theorem dX8_louds_20 : decode cX8_louds 20 = .ok (.aload_n 0, 1) := by decide +kernel
theorem dX8_louds_21 : decode cX8_louds 21 = .ok (.getfield 23, 3) := by decide +kernel
theorem dX8_louds_24 : decode cX8_louds 24 = .ok (.iload_n 1, 1) := by decide +kernel
theorem dX8_louds_25 : decode cX8_louds 25 = .ok (.iaload, 1) := by decide +kernel
theorem dX8_louds_26 : decode cX8_louds 26 = .ok (.istore_n 3, 1) := by decide +kernel
theorem dX8_louds_27 : decode cX8_louds 27 = .ok (.iconst 0, 1) := by decide +kernel
theorem dX8_louds_28 : decode cX8_louds 28 = .ok (.istore 4, 2) := by decide +kernel
theorem dX8_louds_30 : decode cX8_louds 30 = .ok (.bipush (-5), 2) := by decide +kernel
theorem dX8_louds_32 : decode cX8_louds 32 = .ok (.istore 5, 2) := by decide +kernel
theorem dX8_louds_34 : decode cX8_louds 34 = .ok (.bipush 40, 2) := by decide +kernel
theorem dX8_louds_36 : decode cX8_louds 36 = .ok (.istore 6, 2) := by decide +kernel
theorem dX8_louds_38 : decode cX8_louds 38 = .ok (.iload 6, 2) := by decide +kernel
theorem dX8_louds_40 : decode cX8_louds 40 = .ok (.ifCond .lt 34, 3) := by decide +kernel
theorem dX8_louds_43 : decode cX8_louds 43 = .ok (.aload_n 0, 1) := by decide +kernel
theorem dX8_louds_44 : decode cX8_louds 44 = .ok (.getfield 23, 3) := by decide +kernel
theorem dX8_louds_47 : decode cX8_louds 47 = .ok (.iload_n 1, 1) := by decide +kernel
theorem dX8_louds_48 : decode cX8_louds 48 = .ok (.iload 6, 2) := by decide +kernel
theorem dX8_louds_50 : decode cX8_louds 50 = .ok (.iastore, 1) := by decide +kernel
theorem dX8_louds_51 : decode cX8_louds 51 = .ok (.aload_n 0, 1) := by decide +kernel
theorem dX8_louds_52 : decode cX8_louds 52 = .ok (.invokevirtual 391, 3) := by decide +kernel
theorem dX8_louds_55 : decode cX8_louds 55 = .ok (.ifCond .ne 6, 3) := by decide +kernel
theorem dX8_louds_58 : decode cX8_louds 58 = .ok (.goto 10, 3) := by decide +kernel
theorem dX8_louds_61 : decode cX8_louds 61 = .ok (.iinc 4 1, 3) := by decide +kernel
theorem dX8_louds_64 : decode cX8_louds 64 = .ok (.iload 6, 2) := by decide +kernel
theorem dX8_louds_66 : decode cX8_louds 66 = .ok (.istore 5, 2) := by decide +kernel
theorem dX8_louds_68 : decode cX8_louds 68 = .ok (.iinc 6 (-1), 3) := by decide +kernel
theorem dX8_louds_71 : decode cX8_louds 71 = .ok (.goto (-33), 3) := by decide +kernel
theorem dX8_louds_74 : decode cX8_louds 74 = .ok (.aload_n 0, 1) := by decide +kernel
theorem dX8_louds_75 : decode cX8_louds 75 = .ok (.getfield 23, 3) := by decide +kernel
theorem dX8_louds_78 : decode cX8_louds 78 = .ok (.iload_n 1, 1) := by decide +kernel
theorem dX8_louds_79 : decode cX8_louds 79 = .ok (.iload_n 3, 1) := by decide +kernel
theorem dX8_louds_80 : decode cX8_louds 80 = .ok (.iastore, 1) := by decide +kernel
theorem dX8_louds_81 : decode cX8_louds 81 = .ok (.iload_n 2, 1) := by decide +kernel
theorem dX8_louds_82 : decode cX8_louds 82 = .ok (.ifCond .ne 8, 3) := by decide +kernel
theorem dX8_louds_85 : decode cX8_louds 85 = .ok (.iload 4, 2) := by decide +kernel
theorem dX8_louds_87 : decode cX8_louds 87 = .ok (.goto 5, 3) := by decide +kernel
theorem dX8_louds_90 : decode cX8_louds 90 = .ok (.iload 5, 2) := by decide +kernel
theorem dX8_louds_92 : decode cX8_louds 92 = .ok (.ireturn, 1) := by decide +kernel
theorem dX8_can_0 : decode cX8_can 0 = .ok (.aload_n 0, 1) := by decide +kernel
theorem dX8_can_1 : decode cX8_can 1 = .ok (.iload_n 1, 1) := by decide +kernel
theorem dX8_can_2 : decode cX8_can 2 = .ok (.invokevirtual 229, 3) := by decide +kernel
theorem dX8_can_5 : decode cX8_can 5 = .ok (.ifCond .eq 13, 3) := by decide +kernel
theorem dX8_can_8 : decode cX8_can 8 = .ok (.aload_n 0, 1) := by decide +kernel
theorem dX8_can_9 : decode cX8_can 9 = .ok (.iload_n 2, 1) := by decide +kernel
theorem dX8_can_10 : decode cX8_can 10 = .ok (.iconst 0, 1) := by decide +kernel
theorem dX8_can_11 : decode cX8_can 11 = .ok (.iconst 1, 1) := by decide +kernel
theorem dX8_can_12 : decode cX8_can 12 = .ok (.invokevirtual 218, 3) := by decide +kernel
theorem dX8_can_15 : decode cX8_can 15 = .ok (.ifCond .ne 5, 3) := by decide +kernel
theorem dX8_can_18 : decode cX8_can 18 = .ok (.iconst (-1), 1) := by decide +kernel
theorem dX8_can_19 : decode cX8_can 19 = .ok (.ireturn, 1) := by decide +kernel
theorem dX8_can_20 : decode cX8_can 20 = .ok (.aload_n 0, 1) := by decide +kernel
theorem dX8_can_21 : decode cX8_can 21 = .ok (.getfield 20, 3) := by decide +kernel
theorem dX8_can_24 : decode cX8_can 24 = .ok (.iload_n 1, 1) := by decide +kernel
theorem dX8_can_25 : decode cX8_can 25 = .ok (.iaload, 1) := by decide +kernel
theorem dX8_can_26 : decode cX8_can 26 = .ok (.istore_n 3, 1) := by decide +kernel
theorem dX8_can_27 : decode cX8_can 27 = .ok (.iconst 0, 1) := by decide +kernel
theorem dX8_can_28 : decode cX8_can 28 = .ok (.istore 4, 2) := by decide +kernel
theorem dX8_can_30 : decode cX8_can 30 = .ok (.bipush (-5), 2) := by decide +kernel
theorem dX8_can_32 : decode cX8_can 32 = .ok (.istore 5, 2) := by decide +kernel
theorem dX8_can_34 : decode cX8_can 34 = .ok (.bipush 9, 2) := by decide +kernel
theorem dX8_can_36 : decode cX8_can 36 = .ok (.istore 6, 2) := by decide +kernel
theorem dX8_can_38 : decode cX8_can 38 = .ok (.iload 6, 2) := by decide +kernel
theorem dX8_can_40 : decode cX8_can 40 = .ok (.ifCond .lt 34, 3) := by decide +kernel
theorem dX8_can_43 : decode cX8_can 43 = .ok (.aload_n 0, 1) := by decide +kernel
theorem dX8_can_44 : decode cX8_can 44 = .ok (.getfield 20, 3) := by decide +kernel
theorem dX8_can_47 : decode cX8_can 47 = .ok (.iload_n 1, 1) := by decide +kernel
theorem dX8_can_48 : decode cX8_can 48 = .ok (.iload 6, 2) := by decide +kernel
theorem dX8_can_50 : decode cX8_can 50 = .ok (.iastore, 1) := by decide +kernel
theorem dX8_can_51 : decode cX8_can 51 = .ok (.aload_n 0, 1) := by decide +kernel
theorem dX8_can_52 : decode cX8_can 52 = .ok (.invokevirtual 391, 3) := by decide +kernel
theorem dX8_can_55 : decode cX8_can 55 = .ok (.ifCond .ne 6, 3) := by decide +kernel
theorem dX8_can_58 : decode cX8_can 58 = .ok (.goto 10, 3) := by decide +kernel
theorem dX8_can_61 : decode cX8_can 61 = .ok (.iinc 4 1, 3) := by decide +kernel
theorem dX8_can_64 : decode cX8_can 64 = .ok (.iload 6, 2) := by decide +kernel
theorem dX8_can_66 : decode cX8_can 66 = .ok (.istore 5, 2) := by decide +kernel
theorem dX8_can_68 : decode cX8_can 68 = .ok (.iinc 6 (-1), 3) := by decide +kernel
theorem dX8_can_71 : decode cX8_can 71 = .ok (.goto (-33), 3) := by decide +kernel
theorem dX8_can_74 : decode cX8_can 74 = .ok (.aload_n 0, 1) := by decide +kernel
theorem dX8_can_75 : decode cX8_can 75 = .ok (.getfield 20, 3) := by decide +kernel
theorem dX8_can_78 : decode cX8_can 78 = .ok (.iload_n 1, 1) := by decide +kernel
theorem dX8_can_79 : decode cX8_can 79 = .ok (.iload_n 3, 1) := by decide +kernel
theorem dX8_can_80 : decode cX8_can 80 = .ok (.iastore, 1) := by decide +kernel
theorem dX8_can_81 : decode cX8_can 81 = .ok (.iload_n 2, 1) := by decide +kernel
theorem dX8_can_82 : decode cX8_can 82 = .ok (.ifCond .ne 8, 3) := by decide +kernel
theorem dX8_can_85 : decode cX8_can 85 = .ok (.iload 4, 2) := by decide +kernel
theorem dX8_can_87 : decode cX8_can 87 = .ok (.goto 5, 3) := by decide +kernel
theorem dX8_can_90 : decode cX8_can 90 = .ok (.iload 5, 2) := by decide +kernel
theorem dX8_can_92 : decode cX8_can 92 = .ok (.ireturn, 1) := by decide +kernel
theorem dX8_where_0 : decode cX8_where 0 = .ok (.aload_n 0, 1) := by decide +kernel
theorem dX8_where_1 : decode cX8_where 1 = .ok (.iload_n 1, 1) := by decide +kernel
theorem dX8_where_2 : decode cX8_where 2 = .ok (.invokevirtual 229, 3) := by decide +kernel
theorem dX8_where_5 : decode cX8_where 5 = .ok (.ifCond .ne 5, 3) := by decide +kernel
theorem dX8_where_8 : decode cX8_where 8 = .ok (.iconst (-1), 1) := by decide +kernel
theorem dX8_where_9 : decode cX8_where 9 = .ok (.ireturn, 1) := by decide +kernel
theorem dX8_where_10 : decode cX8_where 10 = .ok (.aload_n 0, 1) := by decide +kernel
theorem dX8_where_11 : decode cX8_where 11 = .ok (.getfield 26, 3) := by decide +kernel
theorem dX8_where_14 : decode cX8_where 14 = .ok (.iload_n 1, 1) := by decide +kernel
theorem dX8_where_15 : decode cX8_where 15 = .ok (.iaload, 1) := by decide +kernel
theorem dX8_where_16 : decode cX8_where 16 = .ok (.istore_n 2, 1) := by decide +kernel
theorem dX8_where_17 : decode cX8_where 17 = .ok (.iconst 0, 1) := by decide +kernel
theorem dX8_where_18 : decode cX8_where 18 = .ok (.istore_n 3, 1) := by decide +kernel
theorem dX8_where_19 : decode cX8_where 19 = .ok (.iconst 0, 1) := by decide +kernel
theorem dX8_where_20 : decode cX8_where 20 = .ok (.istore 4, 2) := by decide +kernel
theorem dX8_where_22 : decode cX8_where 22 = .ok (.iload 4, 2) := by decide +kernel
theorem dX8_where_24 : decode cX8_where 24 = .ok (.iconst 5, 1) := by decide +kernel
theorem dX8_where_25 : decode cX8_where 25 = .ok (.if_icmp .ge 35, 3) := by decide +kernel
theorem dX8_where_28 : decode cX8_where 28 = .ok (.aload_n 0, 1) := by decide +kernel
theorem dX8_where_29 : decode cX8_where 29 = .ok (.getfield 26, 3) := by decide +kernel
theorem dX8_where_32 : decode cX8_where 32 = .ok (.iload_n 1, 1) := by decide +kernel
theorem dX8_where_33 : decode cX8_where 33 = .ok (.iload 4, 2) := by decide +kernel
theorem dX8_where_35 : decode cX8_where 35 = .ok (.iastore, 1) := by decide +kernel
theorem dX8_where_36 : decode cX8_where 36 = .ok (.iload_n 3, 1) := by decide +kernel
theorem dX8_where_37 : decode cX8_where 37 = .ok (.aload_n 0, 1) := by decide +kernel
theorem dX8_where_38 : decode cX8_where 38 = .ok (.invokevirtual 391, 3) := by decide +kernel
theorem dX8_where_41 : decode cX8_where 41 = .ok (.ifCond .eq 10, 3) := by decide +kernel
theorem dX8_where_44 : decode cX8_where 44 = .ok (.iconst 1, 1) := by decide +kernel
theorem dX8_where_45 : decode cX8_where 45 = .ok (.iload 4, 2) := by decide +kernel
theorem dX8_where_47 : decode cX8_where 47 = .ok (.ishl, 1) := by decide +kernel
theorem dX8_where_48 : decode cX8_where 48 = .ok (.goto 4, 3) := by decide +kernel
theorem dX8_where_51 : decode cX8_where 51 = .ok (.iconst 0, 1) := by decide +kernel
theorem dX8_where_52 : decode cX8_where 52 = .ok (.ior, 1) := by decide +kernel
theorem dX8_where_53 : decode cX8_where 53 = .ok (.istore_n 3, 1) := by decide +kernel
theorem dX8_where_54 : decode cX8_where 54 = .ok (.iinc 4 1, 3) := by decide +kernel
theorem dX8_where_57 : decode cX8_where 57 = .ok (.goto (-35), 3) := by decide +kernel
theorem dX8_where_60 : decode cX8_where 60 = .ok (.aload_n 0, 1) := by decide +kernel
theorem dX8_where_61 : decode cX8_where 61 = .ok (.getfield 26, 3) := by decide +kernel
theorem dX8_where_64 : decode cX8_where 64 = .ok (.iload_n 1, 1) := by decide +kernel
theorem dX8_where_65 : decode cX8_where 65 = .ok (.iload_n 2, 1) := by decide +kernel
theorem dX8_where_66 : decode cX8_where 66 = .ok (.iastore, 1) := by decide +kernel
theorem dX8_where_67 : decode cX8_where 67 = .ok (.iload_n 3, 1) := by decide +kernel
theorem dX8_where_68 : decode cX8_where 68 = .ok (.ireturn, 1) := by decide +kernel
theorem dX8_divisor_0 : decode cX8_divisor 0 = .ok (.iload_n 1, 1) := by decide +kernel
theorem dX8_divisor_1 : decode cX8_divisor 1 = .ok (.istore_n 3, 1) := by decide +kernel
theorem dX8_divisor_2 : decode cX8_divisor 2 = .ok (.iload_n 2, 1) := by decide +kernel
theorem dX8_divisor_3 : decode cX8_divisor 3 = .ok (.istore 4, 2) := by decide +kernel
theorem dX8_divisor_5 : decode cX8_divisor 5 = .ok (.iload 4, 2) := by decide +kernel
theorem dX8_divisor_7 : decode cX8_divisor 7 = .ok (.ifCond .eq 19, 3) := by decide +kernel
theorem dX8_divisor_10 : decode cX8_divisor 10 = .ok (.iload_n 3, 1) := by decide +kernel
theorem dX8_divisor_11 : decode cX8_divisor 11 = .ok (.iload 4, 2) := by decide +kernel
theorem dX8_divisor_13 : decode cX8_divisor 13 = .ok (.irem, 1) := by decide +kernel
theorem dX8_divisor_14 : decode cX8_divisor 14 = .ok (.istore 5, 2) := by decide +kernel
theorem dX8_divisor_16 : decode cX8_divisor 16 = .ok (.iload 4, 2) := by decide +kernel
theorem dX8_divisor_18 : decode cX8_divisor 18 = .ok (.istore_n 3, 1) := by decide +kernel
theorem dX8_divisor_19 : decode cX8_divisor 19 = .ok (.iload 5, 2) := by decide +kernel
theorem dX8_divisor_21 : decode cX8_divisor 21 = .ok (.istore 4, 2) := by decide +kernel
theorem dX8_divisor_23 : decode cX8_divisor 23 = .ok (.goto (-18), 3) := by decide +kernel
theorem dX8_divisor_26 : decode cX8_divisor 26 = .ok (.iload_n 3, 1) := by decide +kernel
theorem dX8_divisor_27 : decode cX8_divisor 27 = .ok (.ireturn, 1) := by decide +kernel
theorem dX8_lowest_0 : decode cX8_lowest 0 = .ok (.aload_n 0, 1) := by decide +kernel
theorem dX8_lowest_1 : decode cX8_lowest 1 = .ok (.iload_n 1, 1) := by decide +kernel
theorem dX8_lowest_2 : decode cX8_lowest 2 = .ok (.iload_n 2, 1) := by decide +kernel
theorem dX8_lowest_3 : decode cX8_lowest 3 = .ok (.invokevirtual 394, 3) := by decide +kernel
theorem dX8_lowest_6 : decode cX8_lowest 6 = .ok (.istore 4, 2) := by decide +kernel
theorem dX8_lowest_8 : decode cX8_lowest 8 = .ok (.iload_n 3, 1) := by decide +kernel
theorem dX8_lowest_9 : decode cX8_lowest 9 = .ok (.ifCond .ne 11, 3) := by decide +kernel
theorem dX8_lowest_12 : decode cX8_lowest 12 = .ok (.iload_n 1, 1) := by decide +kernel
theorem dX8_lowest_13 : decode cX8_lowest 13 = .ok (.iload 4, 2) := by decide +kernel
theorem dX8_lowest_15 : decode cX8_lowest 15 = .ok (.idiv, 1) := by decide +kernel
theorem dX8_lowest_16 : decode cX8_lowest 16 = .ok (.i2l, 1) := by decide +kernel
theorem dX8_lowest_17 : decode cX8_lowest 17 = .ok (.goto 8, 3) := by decide +kernel
theorem dX8_lowest_20 : decode cX8_lowest 20 = .ok (.iload_n 2, 1) := by decide +kernel
theorem dX8_lowest_21 : decode cX8_lowest 21 = .ok (.iload 4, 2) := by decide +kernel
theorem dX8_lowest_23 : decode cX8_lowest 23 = .ok (.idiv, 1) := by decide +kernel
theorem dX8_lowest_24 : decode cX8_lowest 24 = .ok (.i2l, 1) := by decide +kernel
theorem dX8_lowest_25 : decode cX8_lowest 25 = .ok (.lreturn, 1) := by decide +kernel
theorem dX8_odds_0 : decode cX8_odds 0 = .ok (.aload_n 0, 1) := by decide +kernel
theorem dX8_odds_1 : decode cX8_odds 1 = .ok (.iload_n 1, 1) := by decide +kernel
theorem dX8_odds_2 : decode cX8_odds 2 = .ok (.invokevirtual 222, 3) := by decide +kernel
theorem dX8_odds_5 : decode cX8_odds 5 = .ok (.ifCond .eq 20, 3) := by decide +kernel
theorem dX8_odds_8 : decode cX8_odds 8 = .ok (.aload_n 0, 1) := by decide +kernel
theorem dX8_odds_9 : decode cX8_odds 9 = .ok (.iload_n 2, 1) := by decide +kernel
theorem dX8_odds_10 : decode cX8_odds 10 = .ok (.iconst 0, 1) := by decide +kernel
theorem dX8_odds_11 : decode cX8_odds 11 = .ok (.iconst 1, 1) := by decide +kernel
theorem dX8_odds_12 : decode cX8_odds 12 = .ok (.invokevirtual 218, 3) := by decide +kernel
theorem dX8_odds_15 : decode cX8_odds 15 = .ok (.ifCond .eq 10, 3) := by decide +kernel
theorem dX8_odds_18 : decode cX8_odds 18 = .ok (.aload_n 0, 1) := by decide +kernel
theorem dX8_odds_19 : decode cX8_odds 19 = .ok (.getfield 7, 3) := by decide +kernel
theorem dX8_odds_22 : decode cX8_odds 22 = .ok (.ifCond .ne 7, 3) := by decide +kernel
theorem dX8_odds_25 : decode cX8_odds 25 = .ok (.ldc2_w 397, 3) := by decide +kernel
theorem dX8_odds_28 : decode cX8_odds 28 = .ok (.lreturn, 1) := by decide +kernel
theorem dX8_odds_29 : decode cX8_odds 29 = .ok (.iconst 0, 1) := by decide +kernel
theorem dX8_odds_30 : decode cX8_odds 30 = .ok (.istore_n 3, 1) := by decide +kernel
theorem dX8_odds_31 : decode cX8_odds 31 = .ok (.iconst 0, 1) := by decide +kernel
theorem dX8_odds_32 : decode cX8_odds 32 = .ok (.istore 4, 2) := by decide +kernel
theorem dX8_odds_34 : decode cX8_odds 34 = .ok (.iload 4, 2) := by decide +kernel
theorem dX8_odds_36 : decode cX8_odds 36 = .ok (.aload_n 0, 1) := by decide +kernel
theorem dX8_odds_37 : decode cX8_odds 37 = .ok (.getfield 7, 3) := by decide +kernel
theorem dX8_odds_40 : decode cX8_odds 40 = .ok (.if_icmp .ge 56, 3) := by decide +kernel
theorem dX8_odds_43 : decode cX8_odds 43 = .ok (.aload_n 0, 1) := by decide +kernel
theorem dX8_odds_44 : decode cX8_odds 44 = .ok (.getfield 26, 3) := by decide +kernel
theorem dX8_odds_47 : decode cX8_odds 47 = .ok (.iload 4, 2) := by decide +kernel
theorem dX8_odds_49 : decode cX8_odds 49 = .ok (.iaload, 1) := by decide +kernel
theorem dX8_odds_50 : decode cX8_odds 50 = .ok (.istore 5, 2) := by decide +kernel
theorem dX8_odds_52 : decode cX8_odds 52 = .ok (.aload_n 0, 1) := by decide +kernel
theorem dX8_odds_53 : decode cX8_odds 53 = .ok (.getfield 26, 3) := by decide +kernel
theorem dX8_odds_56 : decode cX8_odds 56 = .ok (.iload 4, 2) := by decide +kernel
theorem dX8_odds_58 : decode cX8_odds 58 = .ok (.bipush (-5), 2) := by decide +kernel
theorem dX8_odds_60 : decode cX8_odds 60 = .ok (.iastore, 1) := by decide +kernel
theorem dX8_odds_61 : decode cX8_odds 61 = .ok (.iload_n 3, 1) := by decide +kernel
theorem dX8_odds_62 : decode cX8_odds 62 = .ok (.aload_n 0, 1) := by decide +kernel
theorem dX8_odds_63 : decode cX8_odds 63 = .ok (.iload_n 1, 1) := by decide +kernel
theorem dX8_odds_64 : decode cX8_odds 64 = .ok (.invokevirtual 239, 3) := by decide +kernel
theorem dX8_odds_67 : decode cX8_odds 67 = .ok (.aload_n 0, 1) := by decide +kernel
theorem dX8_odds_68 : decode cX8_odds 68 = .ok (.invokevirtual 326, 3) := by decide +kernel
theorem dX8_odds_71 : decode cX8_odds 71 = .ok (.if_icmp .gt 7, 3) := by decide +kernel
theorem dX8_odds_74 : decode cX8_odds 74 = .ok (.iconst 1, 1) := by decide +kernel
theorem dX8_odds_75 : decode cX8_odds 75 = .ok (.goto 4, 3) := by decide +kernel
theorem dX8_odds_78 : decode cX8_odds 78 = .ok (.iconst 0, 1) := by decide +kernel
theorem dX8_odds_79 : decode cX8_odds 79 = .ok (.iadd, 1) := by decide +kernel
theorem dX8_odds_80 : decode cX8_odds 80 = .ok (.istore_n 3, 1) := by decide +kernel
theorem dX8_odds_81 : decode cX8_odds 81 = .ok (.aload_n 0, 1) := by decide +kernel
theorem dX8_odds_82 : decode cX8_odds 82 = .ok (.getfield 26, 3) := by decide +kernel
theorem dX8_odds_85 : decode cX8_odds 85 = .ok (.iload 4, 2) := by decide +kernel
theorem dX8_odds_87 : decode cX8_odds 87 = .ok (.iload 5, 2) := by decide +kernel
theorem dX8_odds_89 : decode cX8_odds 89 = .ok (.iastore, 1) := by decide +kernel
theorem dX8_odds_90 : decode cX8_odds 90 = .ok (.iinc 4 1, 3) := by decide +kernel
theorem dX8_odds_93 : decode cX8_odds 93 = .ok (.goto (-59), 3) := by decide +kernel
theorem dX8_odds_96 : decode cX8_odds 96 = .ok (.aload_n 0, 1) := by decide +kernel
theorem dX8_odds_97 : decode cX8_odds 97 = .ok (.iload_n 3, 1) := by decide +kernel
theorem dX8_odds_98 : decode cX8_odds 98 = .ok (.aload_n 0, 1) := by decide +kernel
theorem dX8_odds_99 : decode cX8_odds 99 = .ok (.getfield 7, 3) := by decide +kernel
theorem dX8_odds_102 : decode cX8_odds 102 = .ok (.iload_n 2, 1) := by decide +kernel
theorem dX8_odds_103 : decode cX8_odds 103 = .ok (.invokevirtual 399, 3) := by decide +kernel
theorem dX8_odds_106 : decode cX8_odds 106 = .ok (.lreturn, 1) := by decide +kernel
theorem dX8_mean_0 : decode cX8_mean 0 = .ok (.aload_n 0, 1) := by decide +kernel
theorem dX8_mean_1 : decode cX8_mean 1 = .ok (.iload_n 1, 1) := by decide +kernel
theorem dX8_mean_2 : decode cX8_mean 2 = .ok (.invokevirtual 347, 3) := by decide +kernel
theorem dX8_mean_5 : decode cX8_mean 5 = .ok (.ifCond .eq 13, 3) := by decide +kernel
theorem dX8_mean_8 : decode cX8_mean 8 = .ok (.aload_n 0, 1) := by decide +kernel
theorem dX8_mean_9 : decode cX8_mean 9 = .ok (.iload_n 2, 1) := by decide +kernel
theorem dX8_mean_10 : decode cX8_mean 10 = .ok (.iconst 0, 1) := by decide +kernel
theorem dX8_mean_11 : decode cX8_mean 11 = .ok (.iconst 1, 1) := by decide +kernel
theorem dX8_mean_12 : decode cX8_mean 12 = .ok (.invokevirtual 218, 3) := by decide +kernel
theorem dX8_mean_15 : decode cX8_mean 15 = .ok (.ifCond .ne 7, 3) := by decide +kernel
theorem dX8_mean_18 : decode cX8_mean 18 = .ok (.ldc2_w 397, 3) := by decide +kernel
theorem dX8_mean_21 : decode cX8_mean 21 = .ok (.lreturn, 1) := by decide +kernel
theorem dX8_mean_22 : decode cX8_mean 22 = .ok (.aload_n 0, 1) := by decide +kernel
theorem dX8_mean_23 : decode cX8_mean 23 = .ok (.invokevirtual 353, 3) := by decide +kernel
theorem dX8_mean_26 : decode cX8_mean 26 = .ok (.aload_n 0, 1) := by decide +kernel
theorem dX8_mean_27 : decode cX8_mean 27 = .ok (.iload_n 1, 1) := by decide +kernel
theorem dX8_mean_28 : decode cX8_mean 28 = .ok (.invokevirtual 350, 3) := by decide +kernel
theorem dX8_mean_31 : decode cX8_mean 31 = .ok (.aload_n 0, 1) := by decide +kernel
theorem dX8_mean_32 : decode cX8_mean 32 = .ok (.invokevirtual 320, 3) := by decide +kernel
theorem dX8_mean_35 : decode cX8_mean 35 = .ok (.aload_n 0, 1) := by decide +kernel
theorem dX8_mean_36 : decode cX8_mean 36 = .ok (.invokevirtual 366, 3) := by decide +kernel
theorem dX8_mean_39 : decode cX8_mean 39 = .ok (.istore_n 3, 1) := by decide +kernel
theorem dX8_mean_40 : decode cX8_mean 40 = .ok (.aload_n 0, 1) := by decide +kernel
theorem dX8_mean_41 : decode cX8_mean 41 = .ok (.invokevirtual 356, 3) := by decide +kernel
theorem dX8_mean_44 : decode cX8_mean 44 = .ok (.aload_n 0, 1) := by decide +kernel
theorem dX8_mean_45 : decode cX8_mean 45 = .ok (.iload_n 3, 1) := by decide +kernel
theorem dX8_mean_46 : decode cX8_mean 46 = .ok (.iconst 5, 1) := by decide +kernel
theorem dX8_mean_47 : decode cX8_mean 47 = .ok (.iload_n 2, 1) := by decide +kernel
theorem dX8_mean_48 : decode cX8_mean 48 = .ok (.invokevirtual 399, 3) := by decide +kernel
theorem dX8_mean_51 : decode cX8_mean 51 = .ok (.lreturn, 1) := by decide +kernel
theorem dX8_plan_0 : decode cX8_plan 0 = .ok (.iload_n 1, 1) := by decide +kernel
theorem dX8_plan_1 : decode cX8_plan 1 = .ok (.iconst (-1), 1) := by decide +kernel
theorem dX8_plan_2 : decode cX8_plan 2 = .ok (.if_icmp .ne 10, 3) := by decide +kernel
theorem dX8_plan_5 : decode cX8_plan 5 = .ok (.aload_n 0, 1) := by decide +kernel
theorem dX8_plan_6 : decode cX8_plan 6 = .ok (.iconst 0, 1) := by decide +kernel
theorem dX8_plan_7 : decode cX8_plan 7 = .ok (.putfield 123, 3) := by decide +kernel
theorem dX8_plan_10 : decode cX8_plan 10 = .ok (.iconst 0, 1) := by decide +kernel
theorem dX8_plan_11 : decode cX8_plan 11 = .ok (.ireturn, 1) := by decide +kernel
theorem dX8_plan_12 : decode cX8_plan 12 = .ok (.aload_n 0, 1) := by decide +kernel
theorem dX8_plan_13 : decode cX8_plan 13 = .ok (.iload_n 1, 1) := by decide +kernel
theorem dX8_plan_14 : decode cX8_plan 14 = .ok (.iconst 0, 1) := by decide +kernel
theorem dX8_plan_15 : decode cX8_plan 15 = .ok (.iconst 3, 1) := by decide +kernel
theorem dX8_plan_16 : decode cX8_plan 16 = .ok (.invokevirtual 218, 3) := by decide +kernel
theorem dX8_plan_19 : decode cX8_plan 19 = .ok (.ifCond .eq 15, 3) := by decide +kernel
theorem dX8_plan_22 : decode cX8_plan 22 = .ok (.iload_n 1, 1) := by decide +kernel
theorem dX8_plan_23 : decode cX8_plan 23 = .ok (.ifCond .le 13, 3) := by decide +kernel
theorem dX8_plan_26 : decode cX8_plan 26 = .ok (.aload_n 0, 1) := by decide +kernel
theorem dX8_plan_27 : decode cX8_plan 27 = .ok (.iload_n 2, 1) := by decide +kernel
theorem dX8_plan_28 : decode cX8_plan 28 = .ok (.invokevirtual 229, 3) := by decide +kernel
theorem dX8_plan_31 : decode cX8_plan 31 = .ok (.ifCond .ne 5, 3) := by decide +kernel
theorem dX8_plan_34 : decode cX8_plan 34 = .ok (.iconst (-1), 1) := by decide +kernel
theorem dX8_plan_35 : decode cX8_plan 35 = .ok (.ireturn, 1) := by decide +kernel
theorem dX8_plan_36 : decode cX8_plan 36 = .ok (.aload_n 0, 1) := by decide +kernel
theorem dX8_plan_37 : decode cX8_plan 37 = .ok (.getfield 123, 3) := by decide +kernel
theorem dX8_plan_40 : decode cX8_plan 40 = .ok (.bipush 10, 2) := by decide +kernel
theorem dX8_plan_42 : decode cX8_plan 42 = .ok (.if_icmp .ne 6, 3) := by decide +kernel
theorem dX8_plan_45 : decode cX8_plan 45 = .ok (.bipush (-4), 2) := by decide +kernel
theorem dX8_plan_47 : decode cX8_plan 47 = .ok (.ireturn, 1) := by decide +kernel
theorem dX8_plan_48 : decode cX8_plan 48 = .ok (.aload_n 0, 1) := by decide +kernel
theorem dX8_plan_49 : decode cX8_plan 49 = .ok (.getfield 129, 3) := by decide +kernel
theorem dX8_plan_52 : decode cX8_plan 52 = .ok (.aload_n 0, 1) := by decide +kernel
theorem dX8_plan_53 : decode cX8_plan 53 = .ok (.getfield 123, 3) := by decide +kernel
theorem dX8_plan_56 : decode cX8_plan 56 = .ok (.iload_n 1, 1) := by decide +kernel
theorem dX8_plan_57 : decode cX8_plan 57 = .ok (.iastore, 1) := by decide +kernel
theorem dX8_plan_58 : decode cX8_plan 58 = .ok (.aload_n 0, 1) := by decide +kernel
theorem dX8_plan_59 : decode cX8_plan 59 = .ok (.getfield 132, 3) := by decide +kernel
theorem dX8_plan_62 : decode cX8_plan 62 = .ok (.aload_n 0, 1) := by decide +kernel
theorem dX8_plan_63 : decode cX8_plan 63 = .ok (.getfield 123, 3) := by decide +kernel
theorem dX8_plan_66 : decode cX8_plan 66 = .ok (.iload_n 1, 1) := by decide +kernel
theorem dX8_plan_67 : decode cX8_plan 67 = .ok (.ifCond .le 7, 3) := by decide +kernel
theorem dX8_plan_70 : decode cX8_plan 70 = .ok (.iload_n 2, 1) := by decide +kernel
theorem dX8_plan_71 : decode cX8_plan 71 = .ok (.goto 4, 3) := by decide +kernel
theorem dX8_plan_74 : decode cX8_plan 74 = .ok (.iconst 0, 1) := by decide +kernel
theorem dX8_plan_75 : decode cX8_plan 75 = .ok (.iastore, 1) := by decide +kernel
theorem dX8_plan_76 : decode cX8_plan 76 = .ok (.aload_n 0, 1) := by decide +kernel
theorem dX8_plan_77 : decode cX8_plan 77 = .ok (.dup, 1) := by decide +kernel
theorem dX8_plan_78 : decode cX8_plan 78 = .ok (.getfield 123, 3) := by decide +kernel
theorem dX8_plan_81 : decode cX8_plan 81 = .ok (.iconst 1, 1) := by decide +kernel
theorem dX8_plan_82 : decode cX8_plan 82 = .ok (.iadd, 1) := by decide +kernel
theorem dX8_plan_83 : decode cX8_plan 83 = .ok (.putfield 123, 3) := by decide +kernel
theorem dX8_plan_86 : decode cX8_plan 86 = .ok (.aload_n 0, 1) := by decide +kernel
theorem dX8_plan_87 : decode cX8_plan 87 = .ok (.getfield 123, 3) := by decide +kernel
theorem dX8_plan_90 : decode cX8_plan 90 = .ok (.ireturn, 1) := by decide +kernel
theorem dX8_goPlan_0 : decode cX8_goPlan 0 = .ok (.iload_n 1, 1) := by decide +kernel
theorem dX8_goPlan_1 : decode cX8_goPlan 1 = .ok (.ifCond .ne 7, 3) := by decide +kernel
theorem dX8_goPlan_4 : decode cX8_goPlan 4 = .ok (.aload_n 0, 1) := by decide +kernel
theorem dX8_goPlan_5 : decode cX8_goPlan 5 = .ok (.invokevirtual 344, 3) := by decide +kernel
theorem dX8_goPlan_8 : decode cX8_goPlan 8 = .ok (.iload_n 1, 1) := by decide +kernel
theorem dX8_goPlan_9 : decode cX8_goPlan 9 = .ok (.ifCond .eq 11, 3) := by decide +kernel
theorem dX8_goPlan_12 : decode cX8_goPlan 12 = .ok (.aload_n 0, 1) := by decide +kernel
theorem dX8_goPlan_13 : decode cX8_goPlan 13 = .ok (.iload_n 2, 1) := by decide +kernel
theorem dX8_goPlan_14 : decode cX8_goPlan 14 = .ok (.invokevirtual 232, 3) := by decide +kernel
theorem dX8_goPlan_17 : decode cX8_goPlan 17 = .ok (.ifCond .eq 4, 3) := by decide +kernel
theorem dX8_goPlan_20 : decode cX8_goPlan 20 = .ok (.return_, 1) := by decide +kernel
theorem dX8_goPlan_21 : decode cX8_goPlan 21 = .ok (.iload_n 1, 1) := by decide +kernel
theorem dX8_goPlan_22 : decode cX8_goPlan 22 = .ok (.iconst 1, 1) := by decide +kernel
theorem dX8_goPlan_23 : decode cX8_goPlan 23 = .ok (.if_icmp .ne 11, 3) := by decide +kernel
theorem dX8_goPlan_26 : decode cX8_goPlan 26 = .ok (.aload_n 0, 1) := by decide +kernel
theorem dX8_goPlan_27 : decode cX8_goPlan 27 = .ok (.getfield 26, 3) := by decide +kernel
theorem dX8_goPlan_30 : decode cX8_goPlan 30 = .ok (.iload_n 2, 1) := by decide +kernel
theorem dX8_goPlan_31 : decode cX8_goPlan 31 = .ok (.bipush (-5), 2) := by decide +kernel
theorem dX8_goPlan_33 : decode cX8_goPlan 33 = .ok (.iastore, 1) := by decide +kernel
theorem dX8_goPlan_34 : decode cX8_goPlan 34 = .ok (.iload_n 1, 1) := by decide +kernel
theorem dX8_goPlan_35 : decode cX8_goPlan 35 = .ok (.iconst 2, 1) := by decide +kernel
theorem dX8_goPlan_36 : decode cX8_goPlan 36 = .ok (.if_icmp .ne 23, 3) := by decide +kernel
theorem dX8_goPlan_39 : decode cX8_goPlan 39 = .ok (.aload_n 0, 1) := by decide +kernel
theorem dX8_goPlan_40 : decode cX8_goPlan 40 = .ok (.getfield 26, 3) := by decide +kernel
theorem dX8_goPlan_43 : decode cX8_goPlan 43 = .ok (.iload_n 2, 1) := by decide +kernel
theorem dX8_goPlan_44 : decode cX8_goPlan 44 = .ok (.iaload, 1) := by decide +kernel
theorem dX8_goPlan_45 : decode cX8_goPlan 45 = .ok (.iconst 4, 1) := by decide +kernel
theorem dX8_goPlan_46 : decode cX8_goPlan 46 = .ok (.if_icmp .ge 13, 3) := by decide +kernel
theorem dX8_goPlan_49 : decode cX8_goPlan 49 = .ok (.aload_n 0, 1) := by decide +kernel
theorem dX8_goPlan_50 : decode cX8_goPlan 50 = .ok (.getfield 26, 3) := by decide +kernel
theorem dX8_goPlan_53 : decode cX8_goPlan 53 = .ok (.iload_n 2, 1) := by decide +kernel
theorem dX8_goPlan_54 : decode cX8_goPlan 54 = .ok (.dup2, 1) := by decide +kernel
theorem dX8_goPlan_55 : decode cX8_goPlan 55 = .ok (.iaload, 1) := by decide +kernel
theorem dX8_goPlan_56 : decode cX8_goPlan 56 = .ok (.iconst 1, 1) := by decide +kernel
theorem dX8_goPlan_57 : decode cX8_goPlan 57 = .ok (.iadd, 1) := by decide +kernel
theorem dX8_goPlan_58 : decode cX8_goPlan 58 = .ok (.iastore, 1) := by decide +kernel
theorem dX8_goPlan_59 : decode cX8_goPlan 59 = .ok (.iload_n 1, 1) := by decide +kernel
theorem dX8_goPlan_60 : decode cX8_goPlan 60 = .ok (.iconst 3, 1) := by decide +kernel
theorem dX8_goPlan_61 : decode cX8_goPlan 61 = .ok (.if_icmp .ne 22, 3) := by decide +kernel
theorem dX8_goPlan_64 : decode cX8_goPlan 64 = .ok (.aload_n 0, 1) := by decide +kernel
theorem dX8_goPlan_65 : decode cX8_goPlan 65 = .ok (.getfield 26, 3) := by decide +kernel
theorem dX8_goPlan_68 : decode cX8_goPlan 68 = .ok (.iload_n 2, 1) := by decide +kernel
theorem dX8_goPlan_69 : decode cX8_goPlan 69 = .ok (.iaload, 1) := by decide +kernel
theorem dX8_goPlan_70 : decode cX8_goPlan 70 = .ok (.ifCond .le 13, 3) := by decide +kernel
theorem dX8_goPlan_73 : decode cX8_goPlan 73 = .ok (.aload_n 0, 1) := by decide +kernel
theorem dX8_goPlan_74 : decode cX8_goPlan 74 = .ok (.getfield 26, 3) := by decide +kernel
theorem dX8_goPlan_77 : decode cX8_goPlan 77 = .ok (.iload_n 2, 1) := by decide +kernel
theorem dX8_goPlan_78 : decode cX8_goPlan 78 = .ok (.dup2, 1) := by decide +kernel
theorem dX8_goPlan_79 : decode cX8_goPlan 79 = .ok (.iaload, 1) := by decide +kernel
theorem dX8_goPlan_80 : decode cX8_goPlan 80 = .ok (.iconst 1, 1) := by decide +kernel
theorem dX8_goPlan_81 : decode cX8_goPlan 81 = .ok (.isub, 1) := by decide +kernel
theorem dX8_goPlan_82 : decode cX8_goPlan 82 = .ok (.iastore, 1) := by decide +kernel
theorem dX8_goPlan_83 : decode cX8_goPlan 83 = .ok (.return_, 1) := by decide +kernel
theorem dX8_ends_0 : decode cX8_ends 0 = .ok (.aload_n 0, 1) := by decide +kernel
theorem dX8_ends_1 : decode cX8_ends 1 = .ok (.iload_n 1, 1) := by decide +kernel
theorem dX8_ends_2 : decode cX8_ends 2 = .ok (.iconst 0, 1) := by decide +kernel
theorem dX8_ends_3 : decode cX8_ends 3 = .ok (.iconst 1, 1) := by decide +kernel
theorem dX8_ends_4 : decode cX8_ends 4 = .ok (.invokevirtual 218, 3) := by decide +kernel
theorem dX8_ends_7 : decode cX8_ends 7 = .ok (.ifCond .ne 5, 3) := by decide +kernel
theorem dX8_ends_10 : decode cX8_ends 10 = .ok (.iconst (-1), 1) := by decide +kernel
theorem dX8_ends_11 : decode cX8_ends 11 = .ok (.ireturn, 1) := by decide +kernel
theorem dX8_ends_12 : decode cX8_ends 12 = .ok (.aload_n 0, 1) := by decide +kernel
theorem dX8_ends_13 : decode cX8_ends 13 = .ok (.invokevirtual 353, 3) := by decide +kernel
theorem dX8_ends_16 : decode cX8_ends 16 = .ok (.iconst 0, 1) := by decide +kernel
theorem dX8_ends_17 : decode cX8_ends 17 = .ok (.istore_n 2, 1) := by decide +kernel
theorem dX8_ends_18 : decode cX8_ends 18 = .ok (.iload_n 2, 1) := by decide +kernel
theorem dX8_ends_19 : decode cX8_ends 19 = .ok (.aload_n 0, 1) := by decide +kernel
theorem dX8_ends_20 : decode cX8_ends 20 = .ok (.getfield 123, 3) := by decide +kernel
theorem dX8_ends_23 : decode cX8_ends 23 = .ok (.if_icmp .ge 25, 3) := by decide +kernel
theorem dX8_ends_26 : decode cX8_ends 26 = .ok (.aload_n 0, 1) := by decide +kernel
theorem dX8_ends_27 : decode cX8_ends 27 = .ok (.aload_n 0, 1) := by decide +kernel
theorem dX8_ends_28 : decode cX8_ends 28 = .ok (.getfield 129, 3) := by decide +kernel
theorem dX8_ends_31 : decode cX8_ends 31 = .ok (.iload_n 2, 1) := by decide +kernel
theorem dX8_ends_32 : decode cX8_ends 32 = .ok (.iaload, 1) := by decide +kernel
theorem dX8_ends_33 : decode cX8_ends 33 = .ok (.aload_n 0, 1) := by decide +kernel
theorem dX8_ends_34 : decode cX8_ends 34 = .ok (.getfield 132, 3) := by decide +kernel
theorem dX8_ends_37 : decode cX8_ends 37 = .ok (.iload_n 2, 1) := by decide +kernel
theorem dX8_ends_38 : decode cX8_ends 38 = .ok (.iaload, 1) := by decide +kernel
theorem dX8_ends_39 : decode cX8_ends 39 = .ok (.invokevirtual 403, 3) := by decide +kernel
theorem dX8_ends_42 : decode cX8_ends 42 = .ok (.iinc 2 1, 3) := by decide +kernel
theorem dX8_ends_45 : decode cX8_ends 45 = .ok (.goto (-27), 3) := by decide +kernel
theorem dX8_ends_48 : decode cX8_ends 48 = .ok (.aload_n 0, 1) := by decide +kernel
theorem dX8_ends_49 : decode cX8_ends 49 = .ok (.invokevirtual 341, 3) := by decide +kernel
theorem dX8_ends_52 : decode cX8_ends 52 = .ok (.istore_n 2, 1) := by decide +kernel
theorem dX8_ends_53 : decode cX8_ends 53 = .ok (.iconst 0, 1) := by decide +kernel
theorem dX8_ends_54 : decode cX8_ends 54 = .ok (.istore_n 3, 1) := by decide +kernel
theorem dX8_ends_55 : decode cX8_ends 55 = .ok (.iconst 0, 1) := by decide +kernel
theorem dX8_ends_56 : decode cX8_ends 56 = .ok (.istore 4, 2) := by decide +kernel
theorem dX8_ends_58 : decode cX8_ends 58 = .ok (.iload 4, 2) := by decide +kernel
theorem dX8_ends_60 : decode cX8_ends 60 = .ok (.iconst 5, 1) := by decide +kernel
theorem dX8_ends_61 : decode cX8_ends 61 = .ok (.if_icmp .ge 18, 3) := by decide +kernel
theorem dX8_ends_64 : decode cX8_ends 64 = .ok (.iload_n 3, 1) := by decide +kernel
theorem dX8_ends_65 : decode cX8_ends 65 = .ok (.iload_n 2, 1) := by decide +kernel
theorem dX8_ends_66 : decode cX8_ends 66 = .ok (.iload 4, 2) := by decide +kernel
theorem dX8_ends_68 : decode cX8_ends 68 = .ok (.ishr, 1) := by decide +kernel
theorem dX8_ends_69 : decode cX8_ends 69 = .ok (.iconst 1, 1) := by decide +kernel
theorem dX8_ends_70 : decode cX8_ends 70 = .ok (.iand, 1) := by decide +kernel
theorem dX8_ends_71 : decode cX8_ends 71 = .ok (.iadd, 1) := by decide +kernel
theorem dX8_ends_72 : decode cX8_ends 72 = .ok (.istore_n 3, 1) := by decide +kernel
theorem dX8_ends_73 : decode cX8_ends 73 = .ok (.iinc 4 1, 3) := by decide +kernel
theorem dX8_ends_76 : decode cX8_ends 76 = .ok (.goto (-18), 3) := by decide +kernel
theorem dX8_ends_79 : decode cX8_ends 79 = .ok (.iload_n 1, 1) := by decide +kernel
theorem dX8_ends_80 : decode cX8_ends 80 = .ok (.ifCond .ne 10, 3) := by decide +kernel
theorem dX8_ends_83 : decode cX8_ends 83 = .ok (.aload_n 0, 1) := by decide +kernel
theorem dX8_ends_84 : decode cX8_ends 84 = .ok (.invokevirtual 338, 3) := by decide +kernel
theorem dX8_ends_87 : decode cX8_ends 87 = .ok (.goto 4, 3) := by decide +kernel
theorem dX8_ends_90 : decode cX8_ends 90 = .ok (.iload_n 3, 1) := by decide +kernel
theorem dX8_ends_91 : decode cX8_ends 91 = .ok (.istore 4, 2) := by decide +kernel
theorem dX8_ends_93 : decode cX8_ends 93 = .ok (.aload_n 0, 1) := by decide +kernel
theorem dX8_ends_94 : decode cX8_ends 94 = .ok (.invokevirtual 356, 3) := by decide +kernel
theorem dX8_ends_97 : decode cX8_ends 97 = .ok (.iload 4, 2) := by decide +kernel
theorem dX8_ends_99 : decode cX8_ends 99 = .ok (.ireturn, 1) := by decide +kernel
theorem dX8_book_0 : decode cX8_book 0 = .ok (.iload_n 1, 1) := by decide +kernel
theorem dX8_book_1 : decode cX8_book 1 = .ok (.iconst (-1), 1) := by decide +kernel
theorem dX8_book_2 : decode cX8_book 2 = .ok (.if_icmp .ne 10, 3) := by decide +kernel
theorem dX8_book_5 : decode cX8_book 5 = .ok (.aload_n 0, 1) := by decide +kernel
theorem dX8_book_6 : decode cX8_book 6 = .ok (.iconst 0, 1) := by decide +kernel
theorem dX8_book_7 : decode cX8_book 7 = .ok (.putfield 126, 3) := by decide +kernel
theorem dX8_book_10 : decode cX8_book 10 = .ok (.iconst 0, 1) := by decide +kernel
theorem dX8_book_11 : decode cX8_book 11 = .ok (.ireturn, 1) := by decide +kernel
theorem dX8_book_12 : decode cX8_book 12 = .ok (.aload_n 0, 1) := by decide +kernel
theorem dX8_book_13 : decode cX8_book 13 = .ok (.iload_n 1, 1) := by decide +kernel
theorem dX8_book_14 : decode cX8_book 14 = .ok (.invokevirtual 229, 3) := by decide +kernel
theorem dX8_book_17 : decode cX8_book 17 = .ok (.ifCond .eq 13, 3) := by decide +kernel
theorem dX8_book_20 : decode cX8_book 20 = .ok (.aload_n 0, 1) := by decide +kernel
theorem dX8_book_21 : decode cX8_book 21 = .ok (.iload_n 2, 1) := by decide +kernel
theorem dX8_book_22 : decode cX8_book 22 = .ok (.iconst 0, 1) := by decide +kernel
theorem dX8_book_23 : decode cX8_book 23 = .ok (.iconst 5, 1) := by decide +kernel
theorem dX8_book_24 : decode cX8_book 24 = .ok (.invokevirtual 218, 3) := by decide +kernel
theorem dX8_book_27 : decode cX8_book 27 = .ok (.ifCond .ne 5, 3) := by decide +kernel
theorem dX8_book_30 : decode cX8_book 30 = .ok (.iconst (-1), 1) := by decide +kernel
theorem dX8_book_31 : decode cX8_book 31 = .ok (.ireturn, 1) := by decide +kernel
theorem dX8_book_32 : decode cX8_book 32 = .ok (.aload_n 0, 1) := by decide +kernel
theorem dX8_book_33 : decode cX8_book 33 = .ok (.getfield 126, 3) := by decide +kernel
theorem dX8_book_36 : decode cX8_book 36 = .ok (.bipush 8, 2) := by decide +kernel
theorem dX8_book_38 : decode cX8_book 38 = .ok (.if_icmp .ne 6, 3) := by decide +kernel
theorem dX8_book_41 : decode cX8_book 41 = .ok (.bipush (-4), 2) := by decide +kernel
theorem dX8_book_43 : decode cX8_book 43 = .ok (.ireturn, 1) := by decide +kernel
theorem dX8_book_44 : decode cX8_book 44 = .ok (.aload_n 0, 1) := by decide +kernel
theorem dX8_book_45 : decode cX8_book 45 = .ok (.getfield 135, 3) := by decide +kernel
theorem dX8_book_48 : decode cX8_book 48 = .ok (.aload_n 0, 1) := by decide +kernel
theorem dX8_book_49 : decode cX8_book 49 = .ok (.getfield 126, 3) := by decide +kernel
theorem dX8_book_52 : decode cX8_book 52 = .ok (.iload_n 1, 1) := by decide +kernel
theorem dX8_book_53 : decode cX8_book 53 = .ok (.iastore, 1) := by decide +kernel
theorem dX8_book_54 : decode cX8_book 54 = .ok (.aload_n 0, 1) := by decide +kernel
theorem dX8_book_55 : decode cX8_book 55 = .ok (.getfield 138, 3) := by decide +kernel
theorem dX8_book_58 : decode cX8_book 58 = .ok (.aload_n 0, 1) := by decide +kernel
theorem dX8_book_59 : decode cX8_book 59 = .ok (.getfield 126, 3) := by decide +kernel
theorem dX8_book_62 : decode cX8_book 62 = .ok (.iload_n 2, 1) := by decide +kernel
theorem dX8_book_63 : decode cX8_book 63 = .ok (.iconst 5, 1) := by decide +kernel
theorem dX8_book_64 : decode cX8_book 64 = .ok (.if_icmp .ne 8, 3) := by decide +kernel
theorem dX8_book_67 : decode cX8_book 67 = .ok (.bipush (-5), 2) := by decide +kernel
theorem dX8_book_69 : decode cX8_book 69 = .ok (.goto 4, 3) := by decide +kernel
theorem dX8_book_72 : decode cX8_book 72 = .ok (.iload_n 2, 1) := by decide +kernel
theorem dX8_book_73 : decode cX8_book 73 = .ok (.iastore, 1) := by decide +kernel
theorem dX8_book_74 : decode cX8_book 74 = .ok (.aload_n 0, 1) := by decide +kernel
theorem dX8_book_75 : decode cX8_book 75 = .ok (.dup, 1) := by decide +kernel
theorem dX8_book_76 : decode cX8_book 76 = .ok (.getfield 126, 3) := by decide +kernel
theorem dX8_book_79 : decode cX8_book 79 = .ok (.iconst 1, 1) := by decide +kernel
theorem dX8_book_80 : decode cX8_book 80 = .ok (.iadd, 1) := by decide +kernel
theorem dX8_book_81 : decode cX8_book 81 = .ok (.putfield 126, 3) := by decide +kernel
theorem dX8_book_84 : decode cX8_book 84 = .ok (.aload_n 0, 1) := by decide +kernel
theorem dX8_book_85 : decode cX8_book 85 = .ok (.getfield 126, 3) := by decide +kernel
theorem dX8_book_88 : decode cX8_book 88 = .ok (.ireturn, 1) := by decide +kernel
theorem dX8_looked_0 : decode cX8_looked 0 = .ok (.iconst 0, 1) := by decide +kernel
theorem dX8_looked_1 : decode cX8_looked 1 = .ok (.istore_n 1, 1) := by decide +kernel
theorem dX8_looked_2 : decode cX8_looked 2 = .ok (.iload_n 1, 1) := by decide +kernel
theorem dX8_looked_3 : decode cX8_looked 3 = .ok (.aload_n 0, 1) := by decide +kernel
theorem dX8_looked_4 : decode cX8_looked 4 = .ok (.getfield 126, 3) := by decide +kernel
theorem dX8_looked_7 : decode cX8_looked 7 = .ok (.if_icmp .ge 31, 3) := by decide +kernel
theorem dX8_looked_10 : decode cX8_looked 10 = .ok (.aload_n 0, 1) := by decide +kernel
theorem dX8_looked_11 : decode cX8_looked 11 = .ok (.getfield 26, 3) := by decide +kernel
theorem dX8_looked_14 : decode cX8_looked 14 = .ok (.aload_n 0, 1) := by decide +kernel
theorem dX8_looked_15 : decode cX8_looked 15 = .ok (.getfield 135, 3) := by decide +kernel
theorem dX8_looked_18 : decode cX8_looked 18 = .ok (.iload_n 1, 1) := by decide +kernel
theorem dX8_looked_19 : decode cX8_looked 19 = .ok (.iaload, 1) := by decide +kernel
theorem dX8_looked_20 : decode cX8_looked 20 = .ok (.iaload, 1) := by decide +kernel
theorem dX8_looked_21 : decode cX8_looked 21 = .ok (.aload_n 0, 1) := by decide +kernel
theorem dX8_looked_22 : decode cX8_looked 22 = .ok (.getfield 138, 3) := by decide +kernel
theorem dX8_looked_25 : decode cX8_looked 25 = .ok (.iload_n 1, 1) := by decide +kernel
theorem dX8_looked_26 : decode cX8_looked 26 = .ok (.iaload, 1) := by decide +kernel
theorem dX8_looked_27 : decode cX8_looked 27 = .ok (.if_icmp .eq 5, 3) := by decide +kernel
theorem dX8_looked_30 : decode cX8_looked 30 = .ok (.iload_n 1, 1) := by decide +kernel
theorem dX8_looked_31 : decode cX8_looked 31 = .ok (.ireturn, 1) := by decide +kernel
theorem dX8_looked_32 : decode cX8_looked 32 = .ok (.iinc 1 1, 3) := by decide +kernel
theorem dX8_looked_35 : decode cX8_looked 35 = .ok (.goto (-33), 3) := by decide +kernel
theorem dX8_looked_38 : decode cX8_looked 38 = .ok (.bipush (-5), 2) := by decide +kernel
theorem dX8_looked_40 : decode cX8_looked 40 = .ok (.ireturn, 1) := by decide +kernel
theorem dX8_judge_0 : decode cX8_judge 0 = .ok (.aload_n 0, 1) := by decide +kernel
theorem dX8_judge_1 : decode cX8_judge 1 = .ok (.iload_n 1, 1) := by decide +kernel
theorem dX8_judge_2 : decode cX8_judge 2 = .ok (.invokevirtual 406, 3) := by decide +kernel
theorem dX8_judge_5 : decode cX8_judge 5 = .ok (.ifCond .ne 5, 3) := by decide +kernel
theorem dX8_judge_8 : decode cX8_judge 8 = .ok (.iconst (-1), 1) := by decide +kernel
theorem dX8_judge_9 : decode cX8_judge 9 = .ok (.ireturn, 1) := by decide +kernel
theorem dX8_judge_10 : decode cX8_judge 10 = .ok (.aload_n 0, 1) := by decide +kernel
theorem dX8_judge_11 : decode cX8_judge 11 = .ok (.getfield 205, 3) := by decide +kernel
theorem dX8_judge_14 : decode cX8_judge 14 = .ok (.iload_n 1, 1) := by decide +kernel
theorem dX8_judge_15 : decode cX8_judge 15 = .ok (.iaload, 1) := by decide +kernel
theorem dX8_judge_16 : decode cX8_judge 16 = .ok (.ifCond .le 6, 3) := by decide +kernel
theorem dX8_judge_19 : decode cX8_judge 19 = .ok (.bipush (-12), 2) := by decide +kernel
theorem dX8_judge_21 : decode cX8_judge 21 = .ok (.ireturn, 1) := by decide +kernel
theorem dX8_judge_22 : decode cX8_judge 22 = .ok (.iconst 0, 1) := by decide +kernel
theorem dX8_judge_23 : decode cX8_judge 23 = .ok (.istore_n 3, 1) := by decide +kernel
theorem dX8_judge_24 : decode cX8_judge 24 = .ok (.iload_n 3, 1) := by decide +kernel
theorem dX8_judge_25 : decode cX8_judge 25 = .ok (.aload_n 0, 1) := by decide +kernel
theorem dX8_judge_26 : decode cX8_judge 26 = .ok (.getfield 7, 3) := by decide +kernel
theorem dX8_judge_29 : decode cX8_judge 29 = .ok (.if_icmp .ge 67, 3) := by decide +kernel
theorem dX8_judge_32 : decode cX8_judge 32 = .ok (.aload_n 0, 1) := by decide +kernel
theorem dX8_judge_33 : decode cX8_judge 33 = .ok (.getfield 205, 3) := by decide +kernel
theorem dX8_judge_36 : decode cX8_judge 36 = .ok (.iload_n 1, 1) := by decide +kernel
theorem dX8_judge_37 : decode cX8_judge 37 = .ok (.iaload, 1) := by decide +kernel
theorem dX8_judge_38 : decode cX8_judge 38 = .ok (.ifCond .lt 21, 3) := by decide +kernel
theorem dX8_judge_41 : decode cX8_judge 41 = .ok (.iload_n 2, 1) := by decide +kernel
theorem dX8_judge_42 : decode cX8_judge 42 = .ok (.ifCond .lt 17, 3) := by decide +kernel
theorem dX8_judge_45 : decode cX8_judge 45 = .ok (.iload_n 2, 1) := by decide +kernel
theorem dX8_judge_46 : decode cX8_judge 46 = .ok (.aload_n 0, 1) := by decide +kernel
theorem dX8_judge_47 : decode cX8_judge 47 = .ok (.getfield 208, 3) := by decide +kernel
theorem dX8_judge_50 : decode cX8_judge 50 = .ok (.iload_n 1, 1) := by decide +kernel
theorem dX8_judge_51 : decode cX8_judge 51 = .ok (.iaload, 1) := by decide +kernel
theorem dX8_judge_52 : decode cX8_judge 52 = .ok (.iload_n 3, 1) := by decide +kernel
theorem dX8_judge_53 : decode cX8_judge 53 = .ok (.isub, 1) := by decide +kernel
theorem dX8_judge_54 : decode cX8_judge 54 = .ok (.iconst 1, 1) := by decide +kernel
theorem dX8_judge_55 : decode cX8_judge 55 = .ok (.isub, 1) := by decide +kernel
theorem dX8_judge_56 : decode cX8_judge 56 = .ok (.if_icmp .le 8, 3) := by decide +kernel
theorem dX8_judge_59 : decode cX8_judge 59 = .ok (.bipush 100, 2) := by decide +kernel
theorem dX8_judge_61 : decode cX8_judge 61 = .ok (.iload_n 3, 1) := by decide +kernel
theorem dX8_judge_62 : decode cX8_judge 62 = .ok (.iadd, 1) := by decide +kernel
theorem dX8_judge_63 : decode cX8_judge 63 = .ok (.ireturn, 1) := by decide +kernel
theorem dX8_judge_64 : decode cX8_judge 64 = .ok (.aload_n 0, 1) := by decide +kernel
theorem dX8_judge_65 : decode cX8_judge 65 = .ok (.getfield 211, 3) := by decide +kernel
theorem dX8_judge_68 : decode cX8_judge 68 = .ok (.bipush 60, 2) := by decide +kernel
theorem dX8_judge_70 : decode cX8_judge 70 = .ok (.iload_n 1, 1) := by decide +kernel
theorem dX8_judge_71 : decode cX8_judge 71 = .ok (.imul, 1) := by decide +kernel
theorem dX8_judge_72 : decode cX8_judge 72 = .ok (.iload_n 2, 1) := by decide +kernel
theorem dX8_judge_73 : decode cX8_judge 73 = .ok (.iadd, 1) := by decide +kernel
theorem dX8_judge_74 : decode cX8_judge 74 = .ok (.iload_n 3, 1) := by decide +kernel
theorem dX8_judge_75 : decode cX8_judge 75 = .ok (.iadd, 1) := by decide +kernel
theorem dX8_judge_76 : decode cX8_judge 76 = .ok (.laload, 1) := by decide +kernel
theorem dX8_judge_77 : decode cX8_judge 77 = .ok (.aload_n 0, 1) := by decide +kernel
theorem dX8_judge_78 : decode cX8_judge 78 = .ok (.getfield 23, 3) := by decide +kernel
theorem dX8_judge_81 : decode cX8_judge 81 = .ok (.iload_n 3, 1) := by decide +kernel
theorem dX8_judge_82 : decode cX8_judge 82 = .ok (.iaload, 1) := by decide +kernel
theorem dX8_judge_83 : decode cX8_judge 83 = .ok (.i2l, 1) := by decide +kernel
theorem dX8_judge_84 : decode cX8_judge 84 = .ok (.lcmp, 1) := by decide +kernel
theorem dX8_judge_85 : decode cX8_judge 85 = .ok (.ifCond .eq 5, 3) := by decide +kernel
theorem dX8_judge_88 : decode cX8_judge 88 = .ok (.iload_n 3, 1) := by decide +kernel
theorem dX8_judge_89 : decode cX8_judge 89 = .ok (.ireturn, 1) := by decide +kernel
theorem dX8_judge_90 : decode cX8_judge 90 = .ok (.iinc 3 1, 3) := by decide +kernel
theorem dX8_judge_93 : decode cX8_judge 93 = .ok (.goto (-69), 3) := by decide +kernel
theorem dX8_judge_96 : decode cX8_judge 96 = .ok (.bipush (-5), 2) := by decide +kernel
theorem dX8_judge_98 : decode cX8_judge 98 = .ok (.ireturn, 1) := by decide +kernel
theorem dX8_image_0 : decode cX8_image 0 = .ok (.aload_n 0, 1) := by decide +kernel
theorem dX8_image_1 : decode cX8_image 1 = .ok (.iconst 1, 1) := by decide +kernel
theorem dX8_image_2 : decode cX8_image 2 = .ok (.putfield 141, 3) := by decide +kernel
theorem dX8_image_5 : decode cX8_image 5 = .ok (.aload_n 0, 1) := by decide +kernel
theorem dX8_image_6 : decode cX8_image 6 = .ok (.aload_n 0, 1) := by decide +kernel
theorem dX8_image_7 : decode cX8_image 7 = .ok (.getfield 35, 3) := by decide +kernel
theorem dX8_image_10 : decode cX8_image 10 = .ok (.putfield 145, 3) := by decide +kernel
theorem dX8_image_13 : decode cX8_image 13 = .ok (.aload_n 0, 1) := by decide +kernel
theorem dX8_image_14 : decode cX8_image 14 = .ok (.aload_n 0, 1) := by decide +kernel
theorem dX8_image_15 : decode cX8_image 15 = .ok (.getfield 7, 3) := by decide +kernel
theorem dX8_image_18 : decode cX8_image 18 = .ok (.putfield 148, 3) := by decide +kernel
theorem dX8_image_21 : decode cX8_image 21 = .ok (.aload_n 0, 1) := by decide +kernel
theorem dX8_image_22 : decode cX8_image 22 = .ok (.aload_n 0, 1) := by decide +kernel
theorem dX8_image_23 : decode cX8_image 23 = .ok (.getfield 13, 3) := by decide +kernel
theorem dX8_image_26 : decode cX8_image 26 = .ok (.putfield 151, 3) := by decide +kernel
theorem dX8_image_29 : decode cX8_image 29 = .ok (.aload_n 0, 1) := by decide +kernel
theorem dX8_image_30 : decode cX8_image 30 = .ok (.aload_n 0, 1) := by decide +kernel
theorem dX8_image_31 : decode cX8_image 31 = .ok (.getfield 111, 3) := by decide +kernel
theorem dX8_image_34 : decode cX8_image 34 = .ok (.putfield 154, 3) := by decide +kernel
theorem dX8_image_37 : decode cX8_image 37 = .ok (.aload_n 0, 1) := by decide +kernel
theorem dX8_image_38 : decode cX8_image 38 = .ok (.aload_n 0, 1) := by decide +kernel
theorem dX8_image_39 : decode cX8_image 39 = .ok (.getfield 123, 3) := by decide +kernel
theorem dX8_image_42 : decode cX8_image 42 = .ok (.putfield 157, 3) := by decide +kernel
theorem dX8_image_45 : decode cX8_image 45 = .ok (.aload_n 0, 1) := by decide +kernel
theorem dX8_image_46 : decode cX8_image 46 = .ok (.aload_n 0, 1) := by decide +kernel
theorem dX8_image_47 : decode cX8_image 47 = .ok (.getfield 126, 3) := by decide +kernel
theorem dX8_image_50 : decode cX8_image 50 = .ok (.putfield 160, 3) := by decide +kernel
theorem dX8_image_53 : decode cX8_image 53 = .ok (.iconst 0, 1) := by decide +kernel
theorem dX8_image_54 : decode cX8_image 54 = .ok (.istore_n 1, 1) := by decide +kernel
theorem dX8_image_55 : decode cX8_image 55 = .ok (.iload_n 1, 1) := by decide +kernel
theorem dX8_image_56 : decode cX8_image 56 = .ok (.bipush 6, 2) := by decide +kernel
theorem dX8_image_58 : decode cX8_image 58 = .ok (.if_icmp .ge 57, 3) := by decide +kernel
theorem dX8_image_61 : decode cX8_image 61 = .ok (.aload_n 0, 1) := by decide +kernel
theorem dX8_image_62 : decode cX8_image 62 = .ok (.getfield 163, 3) := by decide +kernel
theorem dX8_image_65 : decode cX8_image 65 = .ok (.iload_n 1, 1) := by decide +kernel
theorem dX8_image_66 : decode cX8_image 66 = .ok (.aload_n 0, 1) := by decide +kernel
theorem dX8_image_67 : decode cX8_image 67 = .ok (.getfield 16, 3) := by decide +kernel
theorem dX8_image_70 : decode cX8_image 70 = .ok (.iload_n 1, 1) := by decide +kernel
theorem dX8_image_71 : decode cX8_image 71 = .ok (.iaload, 1) := by decide +kernel
theorem dX8_image_72 : decode cX8_image 72 = .ok (.iastore, 1) := by decide +kernel
theorem dX8_image_73 : decode cX8_image 73 = .ok (.aload_n 0, 1) := by decide +kernel
theorem dX8_image_74 : decode cX8_image 74 = .ok (.getfield 166, 3) := by decide +kernel
theorem dX8_image_77 : decode cX8_image 77 = .ok (.iload_n 1, 1) := by decide +kernel
theorem dX8_image_78 : decode cX8_image 78 = .ok (.aload_n 0, 1) := by decide +kernel
theorem dX8_image_79 : decode cX8_image 79 = .ok (.getfield 20, 3) := by decide +kernel
theorem dX8_image_82 : decode cX8_image 82 = .ok (.iload_n 1, 1) := by decide +kernel
theorem dX8_image_83 : decode cX8_image 83 = .ok (.iaload, 1) := by decide +kernel
theorem dX8_image_84 : decode cX8_image 84 = .ok (.iastore, 1) := by decide +kernel
theorem dX8_image_85 : decode cX8_image 85 = .ok (.aload_n 0, 1) := by decide +kernel
theorem dX8_image_86 : decode cX8_image 86 = .ok (.getfield 169, 3) := by decide +kernel
theorem dX8_image_89 : decode cX8_image 89 = .ok (.iload_n 1, 1) := by decide +kernel
theorem dX8_image_90 : decode cX8_image 90 = .ok (.aload_n 0, 1) := by decide +kernel
theorem dX8_image_91 : decode cX8_image 91 = .ok (.getfield 23, 3) := by decide +kernel
theorem dX8_image_94 : decode cX8_image 94 = .ok (.iload_n 1, 1) := by decide +kernel
theorem dX8_image_95 : decode cX8_image 95 = .ok (.iaload, 1) := by decide +kernel
theorem dX8_image_96 : decode cX8_image 96 = .ok (.iastore, 1) := by decide +kernel
theorem dX8_image_97 : decode cX8_image 97 = .ok (.aload_n 0, 1) := by decide +kernel
theorem dX8_image_98 : decode cX8_image 98 = .ok (.getfield 172, 3) := by decide +kernel
theorem dX8_image_101 : decode cX8_image 101 = .ok (.iload_n 1, 1) := by decide +kernel
theorem dX8_image_102 : decode cX8_image 102 = .ok (.aload_n 0, 1) := by decide +kernel
theorem dX8_image_103 : decode cX8_image 103 = .ok (.getfield 26, 3) := by decide +kernel
theorem dX8_image_106 : decode cX8_image 106 = .ok (.iload_n 1, 1) := by decide +kernel
theorem dX8_image_107 : decode cX8_image 107 = .ok (.iaload, 1) := by decide +kernel
theorem dX8_image_108 : decode cX8_image 108 = .ok (.iastore, 1) := by decide +kernel
theorem dX8_image_109 : decode cX8_image 109 = .ok (.iinc 1 1, 3) := by decide +kernel
theorem dX8_image_112 : decode cX8_image 112 = .ok (.goto (-57), 3) := by decide +kernel
theorem dX8_image_115 : decode cX8_image 115 = .ok (.iconst 0, 1) := by decide +kernel
theorem dX8_image_116 : decode cX8_image 116 = .ok (.istore_n 1, 1) := by decide +kernel
theorem dX8_image_117 : decode cX8_image 117 = .ok (.iload_n 1, 1) := by decide +kernel
theorem dX8_image_118 : decode cX8_image 118 = .ok (.bipush 24, 2) := by decide +kernel
theorem dX8_image_120 : decode cX8_image 120 = .ok (.if_icmp .ge 21, 3) := by decide +kernel
theorem dX8_image_123 : decode cX8_image 123 = .ok (.aload_n 0, 1) := by decide +kernel
theorem dX8_image_124 : decode cX8_image 124 = .ok (.getfield 175, 3) := by decide +kernel
theorem dX8_image_127 : decode cX8_image 127 = .ok (.iload_n 1, 1) := by decide +kernel
theorem dX8_image_128 : decode cX8_image 128 = .ok (.aload_n 0, 1) := by decide +kernel
theorem dX8_image_129 : decode cX8_image 129 = .ok (.getfield 29, 3) := by decide +kernel
theorem dX8_image_132 : decode cX8_image 132 = .ok (.iload_n 1, 1) := by decide +kernel
theorem dX8_image_133 : decode cX8_image 133 = .ok (.iaload, 1) := by decide +kernel
theorem dX8_image_134 : decode cX8_image 134 = .ok (.iastore, 1) := by decide +kernel
theorem dX8_image_135 : decode cX8_image 135 = .ok (.iinc 1 1, 3) := by decide +kernel
theorem dX8_image_138 : decode cX8_image 138 = .ok (.goto (-21), 3) := by decide +kernel
theorem dX8_image_141 : decode cX8_image 141 = .ok (.iconst 0, 1) := by decide +kernel
theorem dX8_image_142 : decode cX8_image 142 = .ok (.istore_n 1, 1) := by decide +kernel
theorem dX8_image_143 : decode cX8_image 143 = .ok (.iload_n 1, 1) := by decide +kernel
theorem dX8_image_144 : decode cX8_image 144 = .ok (.iconst 5, 1) := by decide +kernel
theorem dX8_image_145 : decode cX8_image 145 = .ok (.if_icmp .ge 45, 3) := by decide +kernel
theorem dX8_image_148 : decode cX8_image 148 = .ok (.aload_n 0, 1) := by decide +kernel
theorem dX8_image_149 : decode cX8_image 149 = .ok (.getfield 178, 3) := by decide +kernel
theorem dX8_image_152 : decode cX8_image 152 = .ok (.iload_n 1, 1) := by decide +kernel
theorem dX8_image_153 : decode cX8_image 153 = .ok (.aload_n 0, 1) := by decide +kernel
theorem dX8_image_154 : decode cX8_image 154 = .ok (.getfield 114, 3) := by decide +kernel
theorem dX8_image_157 : decode cX8_image 157 = .ok (.iload_n 1, 1) := by decide +kernel
theorem dX8_image_158 : decode cX8_image 158 = .ok (.iaload, 1) := by decide +kernel
theorem dX8_image_159 : decode cX8_image 159 = .ok (.iastore, 1) := by decide +kernel
theorem dX8_image_160 : decode cX8_image 160 = .ok (.aload_n 0, 1) := by decide +kernel
theorem dX8_image_161 : decode cX8_image 161 = .ok (.getfield 181, 3) := by decide +kernel
theorem dX8_image_164 : decode cX8_image 164 = .ok (.iload_n 1, 1) := by decide +kernel
theorem dX8_image_165 : decode cX8_image 165 = .ok (.aload_n 0, 1) := by decide +kernel
theorem dX8_image_166 : decode cX8_image 166 = .ok (.getfield 117, 3) := by decide +kernel
theorem dX8_image_169 : decode cX8_image 169 = .ok (.iload_n 1, 1) := by decide +kernel
theorem dX8_image_170 : decode cX8_image 170 = .ok (.iaload, 1) := by decide +kernel
theorem dX8_image_171 : decode cX8_image 171 = .ok (.iastore, 1) := by decide +kernel
theorem dX8_image_172 : decode cX8_image 172 = .ok (.aload_n 0, 1) := by decide +kernel
theorem dX8_image_173 : decode cX8_image 173 = .ok (.getfield 184, 3) := by decide +kernel
theorem dX8_image_176 : decode cX8_image 176 = .ok (.iload_n 1, 1) := by decide +kernel
theorem dX8_image_177 : decode cX8_image 177 = .ok (.aload_n 0, 1) := by decide +kernel
theorem dX8_image_178 : decode cX8_image 178 = .ok (.getfield 120, 3) := by decide +kernel
theorem dX8_image_181 : decode cX8_image 181 = .ok (.iload_n 1, 1) := by decide +kernel
theorem dX8_image_182 : decode cX8_image 182 = .ok (.iaload, 1) := by decide +kernel
theorem dX8_image_183 : decode cX8_image 183 = .ok (.iastore, 1) := by decide +kernel
theorem dX8_image_184 : decode cX8_image 184 = .ok (.iinc 1 1, 3) := by decide +kernel
theorem dX8_image_187 : decode cX8_image 187 = .ok (.goto (-44), 3) := by decide +kernel
theorem dX8_image_190 : decode cX8_image 190 = .ok (.iconst 0, 1) := by decide +kernel
theorem dX8_image_191 : decode cX8_image 191 = .ok (.istore_n 1, 1) := by decide +kernel
theorem dX8_image_192 : decode cX8_image 192 = .ok (.iload_n 1, 1) := by decide +kernel
theorem dX8_image_193 : decode cX8_image 193 = .ok (.bipush 10, 2) := by decide +kernel
theorem dX8_image_195 : decode cX8_image 195 = .ok (.if_icmp .ge 33, 3) := by decide +kernel
theorem dX8_image_198 : decode cX8_image 198 = .ok (.aload_n 0, 1) := by decide +kernel
theorem dX8_image_199 : decode cX8_image 199 = .ok (.getfield 187, 3) := by decide +kernel
theorem dX8_image_202 : decode cX8_image 202 = .ok (.iload_n 1, 1) := by decide +kernel
theorem dX8_image_203 : decode cX8_image 203 = .ok (.aload_n 0, 1) := by decide +kernel
theorem dX8_image_204 : decode cX8_image 204 = .ok (.getfield 129, 3) := by decide +kernel
theorem dX8_image_207 : decode cX8_image 207 = .ok (.iload_n 1, 1) := by decide +kernel
theorem dX8_image_208 : decode cX8_image 208 = .ok (.iaload, 1) := by decide +kernel
theorem dX8_image_209 : decode cX8_image 209 = .ok (.iastore, 1) := by decide +kernel
theorem dX8_image_210 : decode cX8_image 210 = .ok (.aload_n 0, 1) := by decide +kernel
theorem dX8_image_211 : decode cX8_image 211 = .ok (.getfield 190, 3) := by decide +kernel
theorem dX8_image_214 : decode cX8_image 214 = .ok (.iload_n 1, 1) := by decide +kernel
theorem dX8_image_215 : decode cX8_image 215 = .ok (.aload_n 0, 1) := by decide +kernel
theorem dX8_image_216 : decode cX8_image 216 = .ok (.getfield 132, 3) := by decide +kernel
theorem dX8_image_219 : decode cX8_image 219 = .ok (.iload_n 1, 1) := by decide +kernel
theorem dX8_image_220 : decode cX8_image 220 = .ok (.iaload, 1) := by decide +kernel
theorem dX8_image_221 : decode cX8_image 221 = .ok (.iastore, 1) := by decide +kernel
theorem dX8_image_222 : decode cX8_image 222 = .ok (.iinc 1 1, 3) := by decide +kernel
theorem dX8_image_225 : decode cX8_image 225 = .ok (.goto (-33), 3) := by decide +kernel
theorem dX8_image_228 : decode cX8_image 228 = .ok (.iconst 0, 1) := by decide +kernel
theorem dX8_image_229 : decode cX8_image 229 = .ok (.istore_n 1, 1) := by decide +kernel
theorem dX8_image_230 : decode cX8_image 230 = .ok (.iload_n 1, 1) := by decide +kernel
theorem dX8_image_231 : decode cX8_image 231 = .ok (.bipush 8, 2) := by decide +kernel
theorem dX8_image_233 : decode cX8_image 233 = .ok (.if_icmp .ge 33, 3) := by decide +kernel
theorem dX8_image_236 : decode cX8_image 236 = .ok (.aload_n 0, 1) := by decide +kernel
theorem dX8_image_237 : decode cX8_image 237 = .ok (.getfield 193, 3) := by decide +kernel
theorem dX8_image_240 : decode cX8_image 240 = .ok (.iload_n 1, 1) := by decide +kernel
theorem dX8_image_241 : decode cX8_image 241 = .ok (.aload_n 0, 1) := by decide +kernel
theorem dX8_image_242 : decode cX8_image 242 = .ok (.getfield 135, 3) := by decide +kernel
theorem dX8_image_245 : decode cX8_image 245 = .ok (.iload_n 1, 1) := by decide +kernel
theorem dX8_image_246 : decode cX8_image 246 = .ok (.iaload, 1) := by decide +kernel
theorem dX8_image_247 : decode cX8_image 247 = .ok (.iastore, 1) := by decide +kernel
theorem dX8_image_248 : decode cX8_image 248 = .ok (.aload_n 0, 1) := by decide +kernel
theorem dX8_image_249 : decode cX8_image 249 = .ok (.getfield 196, 3) := by decide +kernel
theorem dX8_image_252 : decode cX8_image 252 = .ok (.iload_n 1, 1) := by decide +kernel
theorem dX8_image_253 : decode cX8_image 253 = .ok (.aload_n 0, 1) := by decide +kernel
theorem dX8_image_254 : decode cX8_image 254 = .ok (.getfield 138, 3) := by decide +kernel
theorem dX8_image_257 : decode cX8_image 257 = .ok (.iload_n 1, 1) := by decide +kernel
theorem dX8_image_258 : decode cX8_image 258 = .ok (.iaload, 1) := by decide +kernel
theorem dX8_image_259 : decode cX8_image 259 = .ok (.iastore, 1) := by decide +kernel
theorem dX8_image_260 : decode cX8_image 260 = .ok (.iinc 1 1, 3) := by decide +kernel
theorem dX8_image_263 : decode cX8_image 263 = .ok (.goto (-33), 3) := by decide +kernel
theorem dX8_image_266 : decode cX8_image 266 = .ok (.aload_n 0, 1) := by decide +kernel
theorem dX8_image_267 : decode cX8_image 267 = .ok (.getfield 7, 3) := by decide +kernel
theorem dX8_image_270 : decode cX8_image 270 = .ok (.ireturn, 1) := by decide +kernel
theorem dX8_undo_0 : decode cX8_undo 0 = .ok (.aload_n 0, 1) := by decide +kernel
theorem dX8_undo_1 : decode cX8_undo 1 = .ok (.getfield 141, 3) := by decide +kernel
theorem dX8_undo_4 : decode cX8_undo 4 = .ok (.ifCond .ne 6, 3) := by decide +kernel
theorem dX8_undo_7 : decode cX8_undo 7 = .ok (.bipush (-3), 2) := by decide +kernel
theorem dX8_undo_9 : decode cX8_undo 9 = .ok (.ireturn, 1) := by decide +kernel
theorem dX8_undo_10 : decode cX8_undo 10 = .ok (.aload_n 0, 1) := by decide +kernel
theorem dX8_undo_11 : decode cX8_undo 11 = .ok (.aload_n 0, 1) := by decide +kernel
theorem dX8_undo_12 : decode cX8_undo 12 = .ok (.getfield 145, 3) := by decide +kernel
theorem dX8_undo_15 : decode cX8_undo 15 = .ok (.putfield 35, 3) := by decide +kernel
theorem dX8_undo_18 : decode cX8_undo 18 = .ok (.aload_n 0, 1) := by decide +kernel
theorem dX8_undo_19 : decode cX8_undo 19 = .ok (.aload_n 0, 1) := by decide +kernel
theorem dX8_undo_20 : decode cX8_undo 20 = .ok (.getfield 148, 3) := by decide +kernel
theorem dX8_undo_23 : decode cX8_undo 23 = .ok (.putfield 7, 3) := by decide +kernel
theorem dX8_undo_26 : decode cX8_undo 26 = .ok (.aload_n 0, 1) := by decide +kernel
theorem dX8_undo_27 : decode cX8_undo 27 = .ok (.aload_n 0, 1) := by decide +kernel
theorem dX8_undo_28 : decode cX8_undo 28 = .ok (.getfield 151, 3) := by decide +kernel
theorem dX8_undo_31 : decode cX8_undo 31 = .ok (.putfield 13, 3) := by decide +kernel
theorem dX8_undo_34 : decode cX8_undo 34 = .ok (.aload_n 0, 1) := by decide +kernel
theorem dX8_undo_35 : decode cX8_undo 35 = .ok (.aload_n 0, 1) := by decide +kernel
theorem dX8_undo_36 : decode cX8_undo 36 = .ok (.getfield 154, 3) := by decide +kernel
theorem dX8_undo_39 : decode cX8_undo 39 = .ok (.putfield 111, 3) := by decide +kernel
theorem dX8_undo_42 : decode cX8_undo 42 = .ok (.aload_n 0, 1) := by decide +kernel
theorem dX8_undo_43 : decode cX8_undo 43 = .ok (.aload_n 0, 1) := by decide +kernel
theorem dX8_undo_44 : decode cX8_undo 44 = .ok (.getfield 157, 3) := by decide +kernel
theorem dX8_undo_47 : decode cX8_undo 47 = .ok (.putfield 123, 3) := by decide +kernel
theorem dX8_undo_50 : decode cX8_undo 50 = .ok (.aload_n 0, 1) := by decide +kernel
theorem dX8_undo_51 : decode cX8_undo 51 = .ok (.aload_n 0, 1) := by decide +kernel
theorem dX8_undo_52 : decode cX8_undo 52 = .ok (.getfield 160, 3) := by decide +kernel
theorem dX8_undo_55 : decode cX8_undo 55 = .ok (.putfield 126, 3) := by decide +kernel
theorem dX8_undo_58 : decode cX8_undo 58 = .ok (.iconst 0, 1) := by decide +kernel
theorem dX8_undo_59 : decode cX8_undo 59 = .ok (.istore_n 1, 1) := by decide +kernel
theorem dX8_undo_60 : decode cX8_undo 60 = .ok (.iload_n 1, 1) := by decide +kernel
theorem dX8_undo_61 : decode cX8_undo 61 = .ok (.bipush 6, 2) := by decide +kernel
theorem dX8_undo_63 : decode cX8_undo 63 = .ok (.if_icmp .ge 57, 3) := by decide +kernel
theorem dX8_undo_66 : decode cX8_undo 66 = .ok (.aload_n 0, 1) := by decide +kernel
theorem dX8_undo_67 : decode cX8_undo 67 = .ok (.getfield 16, 3) := by decide +kernel
theorem dX8_undo_70 : decode cX8_undo 70 = .ok (.iload_n 1, 1) := by decide +kernel
theorem dX8_undo_71 : decode cX8_undo 71 = .ok (.aload_n 0, 1) := by decide +kernel
theorem dX8_undo_72 : decode cX8_undo 72 = .ok (.getfield 163, 3) := by decide +kernel
theorem dX8_undo_75 : decode cX8_undo 75 = .ok (.iload_n 1, 1) := by decide +kernel
theorem dX8_undo_76 : decode cX8_undo 76 = .ok (.iaload, 1) := by decide +kernel
theorem dX8_undo_77 : decode cX8_undo 77 = .ok (.iastore, 1) := by decide +kernel
theorem dX8_undo_78 : decode cX8_undo 78 = .ok (.aload_n 0, 1) := by decide +kernel
theorem dX8_undo_79 : decode cX8_undo 79 = .ok (.getfield 20, 3) := by decide +kernel
theorem dX8_undo_82 : decode cX8_undo 82 = .ok (.iload_n 1, 1) := by decide +kernel
theorem dX8_undo_83 : decode cX8_undo 83 = .ok (.aload_n 0, 1) := by decide +kernel
theorem dX8_undo_84 : decode cX8_undo 84 = .ok (.getfield 166, 3) := by decide +kernel
theorem dX8_undo_87 : decode cX8_undo 87 = .ok (.iload_n 1, 1) := by decide +kernel
theorem dX8_undo_88 : decode cX8_undo 88 = .ok (.iaload, 1) := by decide +kernel
theorem dX8_undo_89 : decode cX8_undo 89 = .ok (.iastore, 1) := by decide +kernel
theorem dX8_undo_90 : decode cX8_undo 90 = .ok (.aload_n 0, 1) := by decide +kernel
theorem dX8_undo_91 : decode cX8_undo 91 = .ok (.getfield 23, 3) := by decide +kernel
theorem dX8_undo_94 : decode cX8_undo 94 = .ok (.iload_n 1, 1) := by decide +kernel
theorem dX8_undo_95 : decode cX8_undo 95 = .ok (.aload_n 0, 1) := by decide +kernel
theorem dX8_undo_96 : decode cX8_undo 96 = .ok (.getfield 169, 3) := by decide +kernel
theorem dX8_undo_99 : decode cX8_undo 99 = .ok (.iload_n 1, 1) := by decide +kernel
theorem dX8_undo_100 : decode cX8_undo 100 = .ok (.iaload, 1) := by decide +kernel
theorem dX8_undo_101 : decode cX8_undo 101 = .ok (.iastore, 1) := by decide +kernel
theorem dX8_undo_102 : decode cX8_undo 102 = .ok (.aload_n 0, 1) := by decide +kernel
theorem dX8_undo_103 : decode cX8_undo 103 = .ok (.getfield 26, 3) := by decide +kernel
theorem dX8_undo_106 : decode cX8_undo 106 = .ok (.iload_n 1, 1) := by decide +kernel
theorem dX8_undo_107 : decode cX8_undo 107 = .ok (.aload_n 0, 1) := by decide +kernel
theorem dX8_undo_108 : decode cX8_undo 108 = .ok (.getfield 172, 3) := by decide +kernel
theorem dX8_undo_111 : decode cX8_undo 111 = .ok (.iload_n 1, 1) := by decide +kernel
theorem dX8_undo_112 : decode cX8_undo 112 = .ok (.iaload, 1) := by decide +kernel
theorem dX8_undo_113 : decode cX8_undo 113 = .ok (.iastore, 1) := by decide +kernel
theorem dX8_undo_114 : decode cX8_undo 114 = .ok (.iinc 1 1, 3) := by decide +kernel
theorem dX8_undo_117 : decode cX8_undo 117 = .ok (.goto (-57), 3) := by decide +kernel
theorem dX8_undo_120 : decode cX8_undo 120 = .ok (.iconst 0, 1) := by decide +kernel
theorem dX8_undo_121 : decode cX8_undo 121 = .ok (.istore_n 1, 1) := by decide +kernel
theorem dX8_undo_122 : decode cX8_undo 122 = .ok (.iload_n 1, 1) := by decide +kernel
theorem dX8_undo_123 : decode cX8_undo 123 = .ok (.bipush 24, 2) := by decide +kernel
theorem dX8_undo_125 : decode cX8_undo 125 = .ok (.if_icmp .ge 21, 3) := by decide +kernel
theorem dX8_undo_128 : decode cX8_undo 128 = .ok (.aload_n 0, 1) := by decide +kernel
theorem dX8_undo_129 : decode cX8_undo 129 = .ok (.getfield 29, 3) := by decide +kernel
theorem dX8_undo_132 : decode cX8_undo 132 = .ok (.iload_n 1, 1) := by decide +kernel
theorem dX8_undo_133 : decode cX8_undo 133 = .ok (.aload_n 0, 1) := by decide +kernel
theorem dX8_undo_134 : decode cX8_undo 134 = .ok (.getfield 175, 3) := by decide +kernel
theorem dX8_undo_137 : decode cX8_undo 137 = .ok (.iload_n 1, 1) := by decide +kernel
theorem dX8_undo_138 : decode cX8_undo 138 = .ok (.iaload, 1) := by decide +kernel
theorem dX8_undo_139 : decode cX8_undo 139 = .ok (.iastore, 1) := by decide +kernel
theorem dX8_undo_140 : decode cX8_undo 140 = .ok (.iinc 1 1, 3) := by decide +kernel
theorem dX8_undo_143 : decode cX8_undo 143 = .ok (.goto (-21), 3) := by decide +kernel
theorem dX8_undo_146 : decode cX8_undo 146 = .ok (.iconst 0, 1) := by decide +kernel
theorem dX8_undo_147 : decode cX8_undo 147 = .ok (.istore_n 1, 1) := by decide +kernel
theorem dX8_undo_148 : decode cX8_undo 148 = .ok (.iload_n 1, 1) := by decide +kernel
theorem dX8_undo_149 : decode cX8_undo 149 = .ok (.iconst 5, 1) := by decide +kernel
theorem dX8_undo_150 : decode cX8_undo 150 = .ok (.if_icmp .ge 45, 3) := by decide +kernel
theorem dX8_undo_153 : decode cX8_undo 153 = .ok (.aload_n 0, 1) := by decide +kernel
theorem dX8_undo_154 : decode cX8_undo 154 = .ok (.getfield 114, 3) := by decide +kernel
theorem dX8_undo_157 : decode cX8_undo 157 = .ok (.iload_n 1, 1) := by decide +kernel
theorem dX8_undo_158 : decode cX8_undo 158 = .ok (.aload_n 0, 1) := by decide +kernel
theorem dX8_undo_159 : decode cX8_undo 159 = .ok (.getfield 178, 3) := by decide +kernel
theorem dX8_undo_162 : decode cX8_undo 162 = .ok (.iload_n 1, 1) := by decide +kernel
theorem dX8_undo_163 : decode cX8_undo 163 = .ok (.iaload, 1) := by decide +kernel
theorem dX8_undo_164 : decode cX8_undo 164 = .ok (.iastore, 1) := by decide +kernel
theorem dX8_undo_165 : decode cX8_undo 165 = .ok (.aload_n 0, 1) := by decide +kernel
theorem dX8_undo_166 : decode cX8_undo 166 = .ok (.getfield 117, 3) := by decide +kernel
theorem dX8_undo_169 : decode cX8_undo 169 = .ok (.iload_n 1, 1) := by decide +kernel
theorem dX8_undo_170 : decode cX8_undo 170 = .ok (.aload_n 0, 1) := by decide +kernel
theorem dX8_undo_171 : decode cX8_undo 171 = .ok (.getfield 181, 3) := by decide +kernel
theorem dX8_undo_174 : decode cX8_undo 174 = .ok (.iload_n 1, 1) := by decide +kernel
theorem dX8_undo_175 : decode cX8_undo 175 = .ok (.iaload, 1) := by decide +kernel
theorem dX8_undo_176 : decode cX8_undo 176 = .ok (.iastore, 1) := by decide +kernel
theorem dX8_undo_177 : decode cX8_undo 177 = .ok (.aload_n 0, 1) := by decide +kernel
theorem dX8_undo_178 : decode cX8_undo 178 = .ok (.getfield 120, 3) := by decide +kernel
theorem dX8_undo_181 : decode cX8_undo 181 = .ok (.iload_n 1, 1) := by decide +kernel
theorem dX8_undo_182 : decode cX8_undo 182 = .ok (.aload_n 0, 1) := by decide +kernel
theorem dX8_undo_183 : decode cX8_undo 183 = .ok (.getfield 184, 3) := by decide +kernel
theorem dX8_undo_186 : decode cX8_undo 186 = .ok (.iload_n 1, 1) := by decide +kernel
theorem dX8_undo_187 : decode cX8_undo 187 = .ok (.iaload, 1) := by decide +kernel
theorem dX8_undo_188 : decode cX8_undo 188 = .ok (.iastore, 1) := by decide +kernel
theorem dX8_undo_189 : decode cX8_undo 189 = .ok (.iinc 1 1, 3) := by decide +kernel
theorem dX8_undo_192 : decode cX8_undo 192 = .ok (.goto (-44), 3) := by decide +kernel
theorem dX8_undo_195 : decode cX8_undo 195 = .ok (.iconst 0, 1) := by decide +kernel
theorem dX8_undo_196 : decode cX8_undo 196 = .ok (.istore_n 1, 1) := by decide +kernel
theorem dX8_undo_197 : decode cX8_undo 197 = .ok (.iload_n 1, 1) := by decide +kernel
theorem dX8_undo_198 : decode cX8_undo 198 = .ok (.bipush 10, 2) := by decide +kernel
theorem dX8_undo_200 : decode cX8_undo 200 = .ok (.if_icmp .ge 33, 3) := by decide +kernel
theorem dX8_undo_203 : decode cX8_undo 203 = .ok (.aload_n 0, 1) := by decide +kernel
theorem dX8_undo_204 : decode cX8_undo 204 = .ok (.getfield 129, 3) := by decide +kernel
theorem dX8_undo_207 : decode cX8_undo 207 = .ok (.iload_n 1, 1) := by decide +kernel
theorem dX8_undo_208 : decode cX8_undo 208 = .ok (.aload_n 0, 1) := by decide +kernel
theorem dX8_undo_209 : decode cX8_undo 209 = .ok (.getfield 187, 3) := by decide +kernel
theorem dX8_undo_212 : decode cX8_undo 212 = .ok (.iload_n 1, 1) := by decide +kernel
theorem dX8_undo_213 : decode cX8_undo 213 = .ok (.iaload, 1) := by decide +kernel
theorem dX8_undo_214 : decode cX8_undo 214 = .ok (.iastore, 1) := by decide +kernel
theorem dX8_undo_215 : decode cX8_undo 215 = .ok (.aload_n 0, 1) := by decide +kernel
theorem dX8_undo_216 : decode cX8_undo 216 = .ok (.getfield 132, 3) := by decide +kernel
theorem dX8_undo_219 : decode cX8_undo 219 = .ok (.iload_n 1, 1) := by decide +kernel
theorem dX8_undo_220 : decode cX8_undo 220 = .ok (.aload_n 0, 1) := by decide +kernel
theorem dX8_undo_221 : decode cX8_undo 221 = .ok (.getfield 190, 3) := by decide +kernel
theorem dX8_undo_224 : decode cX8_undo 224 = .ok (.iload_n 1, 1) := by decide +kernel
theorem dX8_undo_225 : decode cX8_undo 225 = .ok (.iaload, 1) := by decide +kernel
theorem dX8_undo_226 : decode cX8_undo 226 = .ok (.iastore, 1) := by decide +kernel
theorem dX8_undo_227 : decode cX8_undo 227 = .ok (.iinc 1 1, 3) := by decide +kernel
theorem dX8_undo_230 : decode cX8_undo 230 = .ok (.goto (-33), 3) := by decide +kernel
theorem dX8_undo_233 : decode cX8_undo 233 = .ok (.iconst 0, 1) := by decide +kernel
theorem dX8_undo_234 : decode cX8_undo 234 = .ok (.istore_n 1, 1) := by decide +kernel
theorem dX8_undo_235 : decode cX8_undo 235 = .ok (.iload_n 1, 1) := by decide +kernel
theorem dX8_undo_236 : decode cX8_undo 236 = .ok (.bipush 8, 2) := by decide +kernel
theorem dX8_undo_238 : decode cX8_undo 238 = .ok (.if_icmp .ge 33, 3) := by decide +kernel
theorem dX8_undo_241 : decode cX8_undo 241 = .ok (.aload_n 0, 1) := by decide +kernel
theorem dX8_undo_242 : decode cX8_undo 242 = .ok (.getfield 135, 3) := by decide +kernel
theorem dX8_undo_245 : decode cX8_undo 245 = .ok (.iload_n 1, 1) := by decide +kernel
theorem dX8_undo_246 : decode cX8_undo 246 = .ok (.aload_n 0, 1) := by decide +kernel
theorem dX8_undo_247 : decode cX8_undo 247 = .ok (.getfield 193, 3) := by decide +kernel
theorem dX8_undo_250 : decode cX8_undo 250 = .ok (.iload_n 1, 1) := by decide +kernel
theorem dX8_undo_251 : decode cX8_undo 251 = .ok (.iaload, 1) := by decide +kernel
theorem dX8_undo_252 : decode cX8_undo 252 = .ok (.iastore, 1) := by decide +kernel
theorem dX8_undo_253 : decode cX8_undo 253 = .ok (.aload_n 0, 1) := by decide +kernel
theorem dX8_undo_254 : decode cX8_undo 254 = .ok (.getfield 138, 3) := by decide +kernel
theorem dX8_undo_257 : decode cX8_undo 257 = .ok (.iload_n 1, 1) := by decide +kernel
theorem dX8_undo_258 : decode cX8_undo 258 = .ok (.aload_n 0, 1) := by decide +kernel
theorem dX8_undo_259 : decode cX8_undo 259 = .ok (.getfield 196, 3) := by decide +kernel
theorem dX8_undo_262 : decode cX8_undo 262 = .ok (.iload_n 1, 1) := by decide +kernel
theorem dX8_undo_263 : decode cX8_undo 263 = .ok (.iaload, 1) := by decide +kernel
theorem dX8_undo_264 : decode cX8_undo 264 = .ok (.iastore, 1) := by decide +kernel
theorem dX8_undo_265 : decode cX8_undo 265 = .ok (.iinc 1 1, 3) := by decide +kernel
theorem dX8_undo_268 : decode cX8_undo 268 = .ok (.goto (-33), 3) := by decide +kernel
theorem dX8_undo_271 : decode cX8_undo 271 = .ok (.aload_n 0, 1) := by decide +kernel
theorem dX8_undo_272 : decode cX8_undo 272 = .ok (.getfield 7, 3) := by decide +kernel
theorem dX8_undo_275 : decode cX8_undo 275 = .ok (.ireturn, 1) := by decide +kernel
theorem dX8_body_0 : decode cX8_body 0 = .ok (.aload_n 0, 1) := by decide +kernel
theorem dX8_body_1 : decode cX8_body 1 = .ok (.getfield 199, 3) := by decide +kernel
theorem dX8_body_4 : decode cX8_body 4 = .ok (.bipush 20, 2) := by decide +kernel
theorem dX8_body_6 : decode cX8_body 6 = .ok (.if_icmp .ge 13, 3) := by decide +kernel
theorem dX8_body_9 : decode cX8_body 9 = .ok (.aload_n 0, 1) := by decide +kernel
theorem dX8_body_10 : decode cX8_body 10 = .ok (.getfield 202, 3) := by decide +kernel
theorem dX8_body_13 : decode cX8_body 13 = .ok (.aload_n 0, 1) := by decide +kernel
theorem dX8_body_14 : decode cX8_body 14 = .ok (.getfield 199, 3) := by decide +kernel
theorem dX8_body_17 : decode cX8_body 17 = .ok (.iload_n 1, 1) := by decide +kernel
theorem dX8_body_18 : decode cX8_body 18 = .ok (.iastore, 1) := by decide +kernel
theorem dX8_body_19 : decode cX8_body 19 = .ok (.aload_n 0, 1) := by decide +kernel
theorem dX8_body_20 : decode cX8_body 20 = .ok (.dup, 1) := by decide +kernel
theorem dX8_body_21 : decode cX8_body 21 = .ok (.getfield 199, 3) := by decide +kernel
theorem dX8_body_24 : decode cX8_body 24 = .ok (.iconst 1, 1) := by decide +kernel
theorem dX8_body_25 : decode cX8_body 25 = .ok (.iadd, 1) := by decide +kernel
theorem dX8_body_26 : decode cX8_body 26 = .ok (.putfield 199, 3) := by decide +kernel
theorem dX8_body_29 : decode cX8_body 29 = .ok (.return_, 1) := by decide +kernel
theorem dX8_soundCreaks_0 : decode cX8_soundCreaks 0 = .ok (.aload_n 0, 1) := by decide +kernel
theorem dX8_soundCreaks_1 : decode cX8_soundCreaks 1 = .ok (.bipush 10, 2) := by decide +kernel
theorem dX8_soundCreaks_3 : decode cX8_soundCreaks 3 = .ok (.invokevirtual 409, 3) := by decide +kernel
theorem dX8_soundCreaks_6 : decode cX8_soundCreaks 6 = .ok (.iload_n 2, 1) := by decide +kernel
theorem dX8_soundCreaks_7 : decode cX8_soundCreaks 7 = .ok (.iload_n 1, 1) := by decide +kernel
theorem dX8_soundCreaks_8 : decode cX8_soundCreaks 8 = .ok (.iadd, 1) := by decide +kernel
theorem dX8_soundCreaks_9 : decode cX8_soundCreaks 9 = .ok (.ireturn, 1) := by decide +kernel
theorem dX8_creaksAct_0 : decode cX8_creaksAct 0 = .ok (.aload_n 0, 1) := by decide +kernel
theorem dX8_creaksAct_1 : decode cX8_creaksAct 1 = .ok (.getfield 16, 3) := by decide +kernel
theorem dX8_creaksAct_4 : decode cX8_creaksAct 4 = .ok (.iload_n 1, 1) := by decide +kernel
theorem dX8_creaksAct_5 : decode cX8_creaksAct 5 = .ok (.iaload, 1) := by decide +kernel
theorem dX8_creaksAct_6 : decode cX8_creaksAct 6 = .ok (.tableswitch 83 2 6 #[34, 83, 49, 34, 63], 34) := by decide +kernel
theorem dX8_creaksAct_40 : decode cX8_creaksAct 40 = .ok (.aload_n 0, 1) := by decide +kernel
theorem dX8_creaksAct_41 : decode cX8_creaksAct 41 = .ok (.bipush 30, 2) := by decide +kernel
theorem dX8_creaksAct_43 : decode cX8_creaksAct 43 = .ok (.invokevirtual 409, 3) := by decide +kernel
theorem dX8_creaksAct_46 : decode cX8_creaksAct 46 = .ok (.aload_n 0, 1) := by decide +kernel
theorem dX8_creaksAct_47 : decode cX8_creaksAct 47 = .ok (.iload_n 1, 1) := by decide +kernel
theorem dX8_creaksAct_48 : decode cX8_creaksAct 48 = .ok (.iload_n 2, 1) := by decide +kernel
theorem dX8_creaksAct_49 : decode cX8_creaksAct 49 = .ok (.iconst 3, 1) := by decide +kernel
theorem dX8_creaksAct_50 : decode cX8_creaksAct 50 = .ok (.imul, 1) := by decide +kernel
theorem dX8_creaksAct_51 : decode cX8_creaksAct 51 = .ok (.invokevirtual 412, 3) := by decide +kernel
theorem dX8_creaksAct_54 : decode cX8_creaksAct 54 = .ok (.ireturn, 1) := by decide +kernel
theorem dX8_creaksAct_55 : decode cX8_creaksAct 55 = .ok (.aload_n 0, 1) := by decide +kernel
theorem dX8_creaksAct_56 : decode cX8_creaksAct 56 = .ok (.bipush 50, 2) := by decide +kernel
theorem dX8_creaksAct_58 : decode cX8_creaksAct 58 = .ok (.invokevirtual 409, 3) := by decide +kernel
theorem dX8_creaksAct_61 : decode cX8_creaksAct 61 = .ok (.aload_n 0, 1) := by decide +kernel
theorem dX8_creaksAct_62 : decode cX8_creaksAct 62 = .ok (.iload_n 1, 1) := by decide +kernel
theorem dX8_creaksAct_63 : decode cX8_creaksAct 63 = .ok (.iload_n 2, 1) := by decide +kernel
theorem dX8_creaksAct_64 : decode cX8_creaksAct 64 = .ok (.invokevirtual 412, 3) := by decide +kernel
theorem dX8_creaksAct_67 : decode cX8_creaksAct 67 = .ok (.ineg, 1) := by decide +kernel
theorem dX8_creaksAct_68 : decode cX8_creaksAct 68 = .ok (.ireturn, 1) := by decide +kernel
theorem dX8_creaksAct_69 : decode cX8_creaksAct 69 = .ok (.aload_n 0, 1) := by decide +kernel
theorem dX8_creaksAct_70 : decode cX8_creaksAct 70 = .ok (.bipush 71, 2) := by decide +kernel
theorem dX8_creaksAct_72 : decode cX8_creaksAct 72 = .ok (.invokevirtual 409, 3) := by decide +kernel
theorem dX8_creaksAct_75 : decode cX8_creaksAct 75 = .ok (.aload_n 0, 1) := by decide +kernel
theorem dX8_creaksAct_76 : decode cX8_creaksAct 76 = .ok (.iload_n 1, 1) := by decide +kernel
theorem dX8_creaksAct_77 : decode cX8_creaksAct 77 = .ok (.iload_n 2, 1) := by decide +kernel
theorem dX8_creaksAct_78 : decode cX8_creaksAct 78 = .ok (.invokevirtual 412, 3) := by decide +kernel
theorem dX8_creaksAct_81 : decode cX8_creaksAct 81 = .ok (.aload_n 0, 1) := by decide +kernel
theorem dX8_creaksAct_82 : decode cX8_creaksAct 82 = .ok (.getfield 20, 3) := by decide +kernel
theorem dX8_creaksAct_85 : decode cX8_creaksAct 85 = .ok (.iload_n 1, 1) := by decide +kernel
theorem dX8_creaksAct_86 : decode cX8_creaksAct 86 = .ok (.iaload, 1) := by decide +kernel
theorem dX8_creaksAct_87 : decode cX8_creaksAct 87 = .ok (.ixor, 1) := by decide +kernel
theorem dX8_creaksAct_88 : decode cX8_creaksAct 88 = .ok (.ireturn, 1) := by decide +kernel
theorem dX8_creaksAct_89 : decode cX8_creaksAct 89 = .ok (.aload_n 0, 1) := by decide +kernel
theorem dX8_creaksAct_90 : decode cX8_creaksAct 90 = .ok (.iload_n 1, 1) := by decide +kernel
theorem dX8_creaksAct_91 : decode cX8_creaksAct 91 = .ok (.iload_n 2, 1) := by decide +kernel
theorem dX8_creaksAct_92 : decode cX8_creaksAct 92 = .ok (.invokevirtual 412, 3) := by decide +kernel
theorem dX8_creaksAct_95 : decode cX8_creaksAct 95 = .ok (.ireturn, 1) := by decide +kernel
theorem dX8_soundRings_0 : decode cX8_soundRings 0 = .ok (.aload_n 0, 1) := by decide +kernel
theorem dX8_soundRings_1 : decode cX8_soundRings 1 = .ok (.bipush 11, 2) := by decide +kernel
theorem dX8_soundRings_3 : decode cX8_soundRings 3 = .ok (.invokevirtual 409, 3) := by decide +kernel
theorem dX8_soundRings_6 : decode cX8_soundRings 6 = .ok (.aload_n 0, 1) := by decide +kernel
theorem dX8_soundRings_7 : decode cX8_soundRings 7 = .ok (.iload_n 1, 1) := by decide +kernel
theorem dX8_soundRings_8 : decode cX8_soundRings 8 = .ok (.iload_n 2, 1) := by decide +kernel
theorem dX8_soundRings_9 : decode cX8_soundRings 9 = .ok (.invokevirtual 415, 3) := by decide +kernel
theorem dX8_soundRings_12 : decode cX8_soundRings 12 = .ok (.aload_n 0, 1) := by decide +kernel
theorem dX8_soundRings_13 : decode cX8_soundRings 13 = .ok (.getfield 20, 3) := by decide +kernel
theorem dX8_soundRings_16 : decode cX8_soundRings 16 = .ok (.iload_n 1, 1) := by decide +kernel
theorem dX8_soundRings_17 : decode cX8_soundRings 17 = .ok (.iaload, 1) := by decide +kernel
theorem dX8_soundRings_18 : decode cX8_soundRings 18 = .ok (.isub, 1) := by decide +kernel
theorem dX8_soundRings_19 : decode cX8_soundRings 19 = .ok (.ireturn, 1) := by decide +kernel
theorem dX8_squeakRings_0 : decode cX8_squeakRings 0 = .ok (.aload_n 0, 1) := by decide +kernel
theorem dX8_squeakRings_1 : decode cX8_squeakRings 1 = .ok (.bipush 20, 2) := by decide +kernel
theorem dX8_squeakRings_3 : decode cX8_squeakRings 3 = .ok (.invokevirtual 409, 3) := by decide +kernel
theorem dX8_squeakRings_6 : decode cX8_squeakRings 6 = .ok (.aload_n 0, 1) := by decide +kernel
theorem dX8_squeakRings_7 : decode cX8_squeakRings 7 = .ok (.iload_n 1, 1) := by decide +kernel
theorem dX8_squeakRings_8 : decode cX8_squeakRings 8 = .ok (.iload_n 2, 1) := by decide +kernel
theorem dX8_squeakRings_9 : decode cX8_squeakRings 9 = .ok (.invokevirtual 418, 3) := by decide +kernel
theorem dX8_squeakRings_12 : decode cX8_squeakRings 12 = .ok (.bipush 6, 2) := by decide +kernel
theorem dX8_squeakRings_14 : decode cX8_squeakRings 14 = .ok (.ixor, 1) := by decide +kernel
theorem dX8_squeakRings_15 : decode cX8_squeakRings 15 = .ok (.ireturn, 1) := by decide +kernel
theorem dX8_ringsAct_0 : decode cX8_ringsAct 0 = .ok (.aload_n 0, 1) := by decide +kernel
theorem dX8_ringsAct_1 : decode cX8_ringsAct 1 = .ok (.getfield 16, 3) := by decide +kernel
theorem dX8_ringsAct_4 : decode cX8_ringsAct 4 = .ok (.iload_n 1, 1) := by decide +kernel
theorem dX8_ringsAct_5 : decode cX8_ringsAct 5 = .ok (.iaload, 1) := by decide +kernel
theorem dX8_ringsAct_6 : decode cX8_ringsAct 6 = .ok (.lookupswitch 78 #[(1, 34), (4, 41), (6, 56)], 34) := by decide +kernel
theorem dX8_ringsAct_40 : decode cX8_ringsAct 40 = .ok (.aload_n 0, 1) := by decide +kernel
theorem dX8_ringsAct_41 : decode cX8_ringsAct 41 = .ok (.iload_n 1, 1) := by decide +kernel
theorem dX8_ringsAct_42 : decode cX8_ringsAct 42 = .ok (.iload_n 2, 1) := by decide +kernel
theorem dX8_ringsAct_43 : decode cX8_ringsAct 43 = .ok (.invokevirtual 421, 3) := by decide +kernel
theorem dX8_ringsAct_46 : decode cX8_ringsAct 46 = .ok (.ireturn, 1) := by decide +kernel
theorem dX8_ringsAct_47 : decode cX8_ringsAct 47 = .ok (.aload_n 0, 1) := by decide +kernel
theorem dX8_ringsAct_48 : decode cX8_ringsAct 48 = .ok (.bipush 51, 2) := by decide +kernel
theorem dX8_ringsAct_50 : decode cX8_ringsAct 50 = .ok (.invokevirtual 409, 3) := by decide +kernel
theorem dX8_ringsAct_53 : decode cX8_ringsAct 53 = .ok (.aload_n 0, 1) := by decide +kernel
theorem dX8_ringsAct_54 : decode cX8_ringsAct 54 = .ok (.iload_n 1, 1) := by decide +kernel
theorem dX8_ringsAct_55 : decode cX8_ringsAct 55 = .ok (.iload_n 2, 1) := by decide +kernel
theorem dX8_ringsAct_56 : decode cX8_ringsAct 56 = .ok (.iconst 1, 1) := by decide +kernel
theorem dX8_ringsAct_57 : decode cX8_ringsAct 57 = .ok (.iadd, 1) := by decide +kernel
theorem dX8_ringsAct_58 : decode cX8_ringsAct 58 = .ok (.invokevirtual 421, 3) := by decide +kernel
theorem dX8_ringsAct_61 : decode cX8_ringsAct 61 = .ok (.ireturn, 1) := by decide +kernel
theorem dX8_ringsAct_62 : decode cX8_ringsAct 62 = .ok (.aload_n 0, 1) := by decide +kernel
theorem dX8_ringsAct_63 : decode cX8_ringsAct 63 = .ok (.bipush 70, 2) := by decide +kernel
theorem dX8_ringsAct_65 : decode cX8_ringsAct 65 = .ok (.invokevirtual 409, 3) := by decide +kernel
theorem dX8_ringsAct_68 : decode cX8_ringsAct 68 = .ok (.aload_n 0, 1) := by decide +kernel
theorem dX8_ringsAct_69 : decode cX8_ringsAct 69 = .ok (.iload_n 1, 1) := by decide +kernel
theorem dX8_ringsAct_70 : decode cX8_ringsAct 70 = .ok (.iload_n 2, 1) := by decide +kernel
theorem dX8_ringsAct_71 : decode cX8_ringsAct 71 = .ok (.invokevirtual 418, 3) := by decide +kernel
theorem dX8_ringsAct_74 : decode cX8_ringsAct 74 = .ok (.istore_n 3, 1) := by decide +kernel
theorem dX8_ringsAct_75 : decode cX8_ringsAct 75 = .ok (.iload_n 3, 1) := by decide +kernel
theorem dX8_ringsAct_76 : decode cX8_ringsAct 76 = .ok (.aload_n 0, 1) := by decide +kernel
theorem dX8_ringsAct_77 : decode cX8_ringsAct 77 = .ok (.iload_n 1, 1) := by decide +kernel
theorem dX8_ringsAct_78 : decode cX8_ringsAct 78 = .ok (.iconst 2, 1) := by decide +kernel
theorem dX8_ringsAct_79 : decode cX8_ringsAct 79 = .ok (.invokevirtual 412, 3) := by decide +kernel
theorem dX8_ringsAct_82 : decode cX8_ringsAct 82 = .ok (.iadd, 1) := by decide +kernel
theorem dX8_ringsAct_83 : decode cX8_ringsAct 83 = .ok (.ireturn, 1) := by decide +kernel
theorem dX8_ringsAct_84 : decode cX8_ringsAct 84 = .ok (.aload_n 0, 1) := by decide +kernel
theorem dX8_ringsAct_85 : decode cX8_ringsAct 85 = .ok (.iload_n 1, 1) := by decide +kernel
theorem dX8_ringsAct_86 : decode cX8_ringsAct 86 = .ok (.iload_n 2, 1) := by decide +kernel
theorem dX8_ringsAct_87 : decode cX8_ringsAct 87 = .ok (.invokevirtual 418, 3) := by decide +kernel
theorem dX8_ringsAct_90 : decode cX8_ringsAct 90 = .ok (.ireturn, 1) := by decide +kernel
theorem dX8_soundTells_0 : decode cX8_soundTells 0 = .ok (.aload_n 0, 1) := by decide +kernel
theorem dX8_soundTells_1 : decode cX8_soundTells 1 = .ok (.bipush 12, 2) := by decide +kernel
theorem dX8_soundTells_3 : decode cX8_soundTells 3 = .ok (.invokevirtual 409, 3) := by decide +kernel
theorem dX8_soundTells_6 : decode cX8_soundTells 6 = .ok (.aload_n 0, 1) := by decide +kernel
theorem dX8_soundTells_7 : decode cX8_soundTells 7 = .ok (.iload_n 1, 1) := by decide +kernel
theorem dX8_soundTells_8 : decode cX8_soundTells 8 = .ok (.iload_n 2, 1) := by decide +kernel
theorem dX8_soundTells_9 : decode cX8_soundTells 9 = .ok (.invokevirtual 424, 3) := by decide +kernel
theorem dX8_soundTells_12 : decode cX8_soundTells 12 = .ok (.iconst 2, 1) := by decide +kernel
theorem dX8_soundTells_13 : decode cX8_soundTells 13 = .ok (.imul, 1) := by decide +kernel
theorem dX8_soundTells_14 : decode cX8_soundTells 14 = .ok (.ireturn, 1) := by decide +kernel
theorem dX8_tellsAct_0 : decode cX8_tellsAct 0 = .ok (.aload_n 0, 1) := by decide +kernel
theorem dX8_tellsAct_1 : decode cX8_tellsAct 1 = .ok (.getfield 16, 3) := by decide +kernel
theorem dX8_tellsAct_4 : decode cX8_tellsAct 4 = .ok (.iload_n 1, 1) := by decide +kernel
theorem dX8_tellsAct_5 : decode cX8_tellsAct 5 = .ok (.iaload, 1) := by decide +kernel
theorem dX8_tellsAct_6 : decode cX8_tellsAct 6 = .ok (.tableswitch 67 3 6 #[30, 67, 52, 30], 30) := by decide +kernel
theorem dX8_tellsAct_36 : decode cX8_tellsAct 36 = .ok (.aload_n 0, 1) := by decide +kernel
theorem dX8_tellsAct_37 : decode cX8_tellsAct 37 = .ok (.bipush 40, 2) := by decide +kernel
theorem dX8_tellsAct_39 : decode cX8_tellsAct 39 = .ok (.invokevirtual 409, 3) := by decide +kernel
theorem dX8_tellsAct_42 : decode cX8_tellsAct 42 = .ok (.aload_n 0, 1) := by decide +kernel
theorem dX8_tellsAct_43 : decode cX8_tellsAct 43 = .ok (.iload_n 1, 1) := by decide +kernel
theorem dX8_tellsAct_44 : decode cX8_tellsAct 44 = .ok (.iload_n 2, 1) := by decide +kernel
theorem dX8_tellsAct_45 : decode cX8_tellsAct 45 = .ok (.invokevirtual 427, 3) := by decide +kernel
theorem dX8_tellsAct_48 : decode cX8_tellsAct 48 = .ok (.istore_n 3, 1) := by decide +kernel
theorem dX8_tellsAct_49 : decode cX8_tellsAct 49 = .ok (.iload_n 3, 1) := by decide +kernel
theorem dX8_tellsAct_50 : decode cX8_tellsAct 50 = .ok (.aload_n 0, 1) := by decide +kernel
theorem dX8_tellsAct_51 : decode cX8_tellsAct 51 = .ok (.iload_n 1, 1) := by decide +kernel
theorem dX8_tellsAct_52 : decode cX8_tellsAct 52 = .ok (.iconst 1, 1) := by decide +kernel
theorem dX8_tellsAct_53 : decode cX8_tellsAct 53 = .ok (.invokevirtual 424, 3) := by decide +kernel
theorem dX8_tellsAct_56 : decode cX8_tellsAct 56 = .ok (.iadd, 1) := by decide +kernel
theorem dX8_tellsAct_57 : decode cX8_tellsAct 57 = .ok (.ireturn, 1) := by decide +kernel
theorem dX8_tellsAct_58 : decode cX8_tellsAct 58 = .ok (.aload_n 0, 1) := by decide +kernel
theorem dX8_tellsAct_59 : decode cX8_tellsAct 59 = .ok (.bipush 60, 2) := by decide +kernel
theorem dX8_tellsAct_61 : decode cX8_tellsAct 61 = .ok (.invokevirtual 409, 3) := by decide +kernel
theorem dX8_tellsAct_64 : decode cX8_tellsAct 64 = .ok (.aload_n 0, 1) := by decide +kernel
theorem dX8_tellsAct_65 : decode cX8_tellsAct 65 = .ok (.iload_n 1, 1) := by decide +kernel
theorem dX8_tellsAct_66 : decode cX8_tellsAct 66 = .ok (.iload_n 2, 1) := by decide +kernel
theorem dX8_tellsAct_67 : decode cX8_tellsAct 67 = .ok (.iload_n 1, 1) := by decide +kernel
theorem dX8_tellsAct_68 : decode cX8_tellsAct 68 = .ok (.isub, 1) := by decide +kernel
theorem dX8_tellsAct_69 : decode cX8_tellsAct 69 = .ok (.invokevirtual 427, 3) := by decide +kernel
theorem dX8_tellsAct_72 : decode cX8_tellsAct 72 = .ok (.ireturn, 1) := by decide +kernel
theorem dX8_tellsAct_73 : decode cX8_tellsAct 73 = .ok (.aload_n 0, 1) := by decide +kernel
theorem dX8_tellsAct_74 : decode cX8_tellsAct 74 = .ok (.iload_n 1, 1) := by decide +kernel
theorem dX8_tellsAct_75 : decode cX8_tellsAct 75 = .ok (.iload_n 2, 1) := by decide +kernel
theorem dX8_tellsAct_76 : decode cX8_tellsAct 76 = .ok (.invokevirtual 427, 3) := by decide +kernel
theorem dX8_tellsAct_79 : decode cX8_tellsAct 79 = .ok (.ireturn, 1) := by decide +kernel
theorem dX8_act_0 : decode cX8_act 0 = .ok (.aload_n 0, 1) := by decide +kernel
theorem dX8_act_1 : decode cX8_act 1 = .ok (.iconst 0, 1) := by decide +kernel
theorem dX8_act_2 : decode cX8_act 2 = .ok (.putfield 199, 3) := by decide +kernel
theorem dX8_act_5 : decode cX8_act 5 = .ok (.aload_n 0, 1) := by decide +kernel
theorem dX8_act_6 : decode cX8_act 6 = .ok (.iload_n 1, 1) := by decide +kernel
theorem dX8_act_7 : decode cX8_act 7 = .ok (.invokevirtual 229, 3) := by decide +kernel
theorem dX8_act_10 : decode cX8_act 10 = .ok (.ifCond .eq 13, 3) := by decide +kernel
theorem dX8_act_13 : decode cX8_act 13 = .ok (.aload_n 0, 1) := by decide +kernel
theorem dX8_act_14 : decode cX8_act 14 = .ok (.iload_n 2, 1) := by decide +kernel
theorem dX8_act_15 : decode cX8_act 15 = .ok (.iconst 0, 1) := by decide +kernel
theorem dX8_act_16 : decode cX8_act 16 = .ok (.iconst 2, 1) := by decide +kernel
theorem dX8_act_17 : decode cX8_act 17 = .ok (.invokevirtual 218, 3) := by decide +kernel
theorem dX8_act_20 : decode cX8_act 20 = .ok (.ifCond .ne 5, 3) := by decide +kernel
theorem dX8_act_23 : decode cX8_act 23 = .ok (.iconst 0, 1) := by decide +kernel
theorem dX8_act_24 : decode cX8_act 24 = .ok (.ireturn, 1) := by decide +kernel
theorem dX8_act_25 : decode cX8_act 25 = .ok (.iload_n 2, 1) := by decide +kernel
theorem dX8_act_26 : decode cX8_act 26 = .ok (.ifCond .ne 12, 3) := by decide +kernel
theorem dX8_act_29 : decode cX8_act 29 = .ok (.aload_n 0, 1) := by decide +kernel
theorem dX8_act_30 : decode cX8_act 30 = .ok (.iload_n 1, 1) := by decide +kernel
theorem dX8_act_31 : decode cX8_act 31 = .ok (.iload_n 3, 1) := by decide +kernel
theorem dX8_act_32 : decode cX8_act 32 = .ok (.invokevirtual 415, 3) := by decide +kernel
theorem dX8_act_35 : decode cX8_act 35 = .ok (.goto 23, 3) := by decide +kernel
theorem dX8_act_38 : decode cX8_act 38 = .ok (.iload_n 2, 1) := by decide +kernel
theorem dX8_act_39 : decode cX8_act 39 = .ok (.iconst 1, 1) := by decide +kernel
theorem dX8_act_40 : decode cX8_act 40 = .ok (.if_icmp .ne 12, 3) := by decide +kernel
theorem dX8_act_43 : decode cX8_act 43 = .ok (.aload_n 0, 1) := by decide +kernel
theorem dX8_act_44 : decode cX8_act 44 = .ok (.iload_n 1, 1) := by decide +kernel
theorem dX8_act_45 : decode cX8_act 45 = .ok (.iload_n 3, 1) := by decide +kernel
theorem dX8_act_46 : decode cX8_act 46 = .ok (.invokevirtual 424, 3) := by decide +kernel
theorem dX8_act_49 : decode cX8_act 49 = .ok (.goto 9, 3) := by decide +kernel
theorem dX8_act_52 : decode cX8_act 52 = .ok (.aload_n 0, 1) := by decide +kernel
theorem dX8_act_53 : decode cX8_act 53 = .ok (.iload_n 1, 1) := by decide +kernel
theorem dX8_act_54 : decode cX8_act 54 = .ok (.iload_n 3, 1) := by decide +kernel
theorem dX8_act_55 : decode cX8_act 55 = .ok (.invokevirtual 430, 3) := by decide +kernel
theorem dX8_act_58 : decode cX8_act 58 = .ok (.ireturn, 1) := by decide +kernel
theorem dX8_trace_0 : decode cX8_trace 0 = .ok (.aload_n 0, 1) := by decide +kernel
theorem dX8_trace_1 : decode cX8_trace 1 = .ok (.iload_n 1, 1) := by decide +kernel
theorem dX8_trace_2 : decode cX8_trace 2 = .ok (.iconst 0, 1) := by decide +kernel
theorem dX8_trace_3 : decode cX8_trace 3 = .ok (.bipush 19, 2) := by decide +kernel
theorem dX8_trace_5 : decode cX8_trace 5 = .ok (.invokevirtual 218, 3) := by decide +kernel
theorem dX8_trace_8 : decode cX8_trace 8 = .ok (.ifCond .eq 20, 3) := by decide +kernel
theorem dX8_trace_11 : decode cX8_trace 11 = .ok (.iload_n 1, 1) := by decide +kernel
theorem dX8_trace_12 : decode cX8_trace 12 = .ok (.aload_n 0, 1) := by decide +kernel
theorem dX8_trace_13 : decode cX8_trace 13 = .ok (.getfield 199, 3) := by decide +kernel
theorem dX8_trace_16 : decode cX8_trace 16 = .ok (.if_icmp .ge 12, 3) := by decide +kernel
theorem dX8_trace_19 : decode cX8_trace 19 = .ok (.aload_n 0, 1) := by decide +kernel
theorem dX8_trace_20 : decode cX8_trace 20 = .ok (.getfield 202, 3) := by decide +kernel
theorem dX8_trace_23 : decode cX8_trace 23 = .ok (.iload_n 1, 1) := by decide +kernel
theorem dX8_trace_24 : decode cX8_trace 24 = .ok (.iaload, 1) := by decide +kernel
theorem dX8_trace_25 : decode cX8_trace 25 = .ok (.goto 4, 3) := by decide +kernel
theorem dX8_trace_28 : decode cX8_trace 28 = .ok (.iconst (-1), 1) := by decide +kernel
theorem dX8_trace_29 : decode cX8_trace 29 = .ok (.ireturn, 1) := by decide +kernel
theorem dX8_taken_0 : decode cX8_taken 0 = .ok (.aload_n 0, 1) := by decide +kernel
theorem dX8_taken_1 : decode cX8_taken 1 = .ok (.iload_n 2, 1) := by decide +kernel
theorem dX8_taken_2 : decode cX8_taken 2 = .ok (.iconst 0, 1) := by decide +kernel
theorem dX8_taken_3 : decode cX8_taken 3 = .ok (.bipush 6, 2) := by decide +kernel
theorem dX8_taken_5 : decode cX8_taken 5 = .ok (.invokevirtual 218, 3) := by decide +kernel
theorem dX8_taken_8 : decode cX8_taken 8 = .ok (.ifCond .ne 6, 3) := by decide +kernel
theorem dX8_taken_11 : decode cX8_taken 11 = .ok (.bipush (-2), 2) := by decide +kernel
theorem dX8_taken_13 : decode cX8_taken 13 = .ok (.ireturn, 1) := by decide +kernel
theorem dX8_taken_14 : decode cX8_taken 14 = .ok (.aload_n 0, 1) := by decide +kernel
theorem dX8_taken_15 : decode cX8_taken 15 = .ok (.iload_n 1, 1) := by decide +kernel
theorem dX8_taken_16 : decode cX8_taken 16 = .ok (.invokevirtual 229, 3) := by decide +kernel
theorem dX8_taken_19 : decode cX8_taken 19 = .ok (.ifCond .ne 6, 3) := by decide +kernel
theorem dX8_taken_22 : decode cX8_taken 22 = .ok (.bipush (-11), 2) := by decide +kernel
theorem dX8_taken_24 : decode cX8_taken 24 = .ok (.ireturn, 1) := by decide +kernel
theorem dX8_taken_25 : decode cX8_taken 25 = .ok (.aload_n 0, 1) := by decide +kernel
theorem dX8_taken_26 : decode cX8_taken 26 = .ok (.getfield 16, 3) := by decide +kernel
theorem dX8_taken_29 : decode cX8_taken 29 = .ok (.iload_n 1, 1) := by decide +kernel
theorem dX8_taken_30 : decode cX8_taken 30 = .ok (.iaload, 1) := by decide +kernel
theorem dX8_taken_31 : decode cX8_taken 31 = .ok (.istore_n 3, 1) := by decide +kernel
theorem dX8_taken_32 : decode cX8_taken 32 = .ok (.iload_n 2, 1) := by decide +kernel
theorem dX8_taken_33 : decode cX8_taken 33 = .ok (.ifCond .eq 39, 3) := by decide +kernel
theorem dX8_taken_36 : decode cX8_taken 36 = .ok (.iload_n 3, 1) := by decide +kernel
theorem dX8_taken_37 : decode cX8_taken 37 = .ok (.iload_n 2, 1) := by decide +kernel
theorem dX8_taken_38 : decode cX8_taken 38 = .ok (.if_icmp .eq 34, 3) := by decide +kernel
theorem dX8_taken_41 : decode cX8_taken 41 = .ok (.iload_n 2, 1) := by decide +kernel
theorem dX8_taken_42 : decode cX8_taken 42 = .ok (.iconst 1, 1) := by decide +kernel
theorem dX8_taken_43 : decode cX8_taken 43 = .ok (.if_icmp .ne 8, 3) := by decide +kernel
theorem dX8_taken_46 : decode cX8_taken 46 = .ok (.iload_n 3, 1) := by decide +kernel
theorem dX8_taken_47 : decode cX8_taken 47 = .ok (.iconst 4, 1) := by decide +kernel
theorem dX8_taken_48 : decode cX8_taken 48 = .ok (.if_icmp .eq 24, 3) := by decide +kernel
theorem dX8_taken_51 : decode cX8_taken 51 = .ok (.iload_n 2, 1) := by decide +kernel
theorem dX8_taken_52 : decode cX8_taken 52 = .ok (.iconst 2, 1) := by decide +kernel
theorem dX8_taken_53 : decode cX8_taken 53 = .ok (.if_icmp .ne 8, 3) := by decide +kernel
theorem dX8_taken_56 : decode cX8_taken 56 = .ok (.iload_n 3, 1) := by decide +kernel
theorem dX8_taken_57 : decode cX8_taken 57 = .ok (.iconst 5, 1) := by decide +kernel
theorem dX8_taken_58 : decode cX8_taken 58 = .ok (.if_icmp .eq 14, 3) := by decide +kernel
theorem dX8_taken_61 : decode cX8_taken 61 = .ok (.iload_n 2, 1) := by decide +kernel
theorem dX8_taken_62 : decode cX8_taken 62 = .ok (.iconst 3, 1) := by decide +kernel
theorem dX8_taken_63 : decode cX8_taken 63 = .ok (.if_icmp .ne 13, 3) := by decide +kernel
theorem dX8_taken_66 : decode cX8_taken 66 = .ok (.iload_n 3, 1) := by decide +kernel
theorem dX8_taken_67 : decode cX8_taken 67 = .ok (.bipush 6, 2) := by decide +kernel
theorem dX8_taken_69 : decode cX8_taken 69 = .ok (.if_icmp .ne 7, 3) := by decide +kernel
theorem dX8_taken_72 : decode cX8_taken 72 = .ok (.iload_n 3, 1) := by decide +kernel
theorem dX8_taken_73 : decode cX8_taken 73 = .ok (.goto 5, 3) := by decide +kernel
theorem dX8_taken_76 : decode cX8_taken 76 = .ok (.bipush (-12), 2) := by decide +kernel
theorem dX8_taken_78 : decode cX8_taken 78 = .ok (.ireturn, 1) := by decide +kernel
theorem dX8_count_0 : decode cX8_count 0 = .ok (.iload_n 1, 1) := by decide +kernel
theorem dX8_count_1 : decode cX8_count 1 = .ok (.tableswitch 78 0 6 #[43, 48, 53, 58, 63, 68, 73], 43) := by decide +kernel
theorem dX8_count_44 : decode cX8_count 44 = .ok (.aload_n 0, 1) := by decide +kernel
theorem dX8_count_45 : decode cX8_count 45 = .ok (.getfield 7, 3) := by decide +kernel
theorem dX8_count_48 : decode cX8_count 48 = .ok (.ireturn, 1) := by decide +kernel
theorem dX8_count_49 : decode cX8_count 49 = .ok (.aload_n 0, 1) := by decide +kernel
theorem dX8_count_50 : decode cX8_count 50 = .ok (.getfield 32, 3) := by decide +kernel
theorem dX8_count_53 : decode cX8_count 53 = .ok (.ireturn, 1) := by decide +kernel
theorem dX8_count_54 : decode cX8_count 54 = .ok (.aload_n 0, 1) := by decide +kernel
theorem dX8_count_55 : decode cX8_count 55 = .ok (.getfield 111, 3) := by decide +kernel
theorem dX8_count_58 : decode cX8_count 58 = .ok (.ireturn, 1) := by decide +kernel
theorem dX8_count_59 : decode cX8_count 59 = .ok (.aload_n 0, 1) := by decide +kernel
theorem dX8_count_60 : decode cX8_count 60 = .ok (.getfield 123, 3) := by decide +kernel
theorem dX8_count_63 : decode cX8_count 63 = .ok (.ireturn, 1) := by decide +kernel
theorem dX8_count_64 : decode cX8_count 64 = .ok (.aload_n 0, 1) := by decide +kernel
theorem dX8_count_65 : decode cX8_count 65 = .ok (.getfield 126, 3) := by decide +kernel
theorem dX8_count_68 : decode cX8_count 68 = .ok (.ireturn, 1) := by decide +kernel
theorem dX8_count_69 : decode cX8_count 69 = .ok (.aload_n 0, 1) := by decide +kernel
theorem dX8_count_70 : decode cX8_count 70 = .ok (.getfield 38, 3) := by decide +kernel
theorem dX8_count_73 : decode cX8_count 73 = .ok (.ireturn, 1) := by decide +kernel
theorem dX8_count_74 : decode cX8_count 74 = .ok (.aload_n 0, 1) := by decide +kernel
theorem dX8_count_75 : decode cX8_count 75 = .ok (.getfield 199, 3) := by decide +kernel
theorem dX8_count_78 : decode cX8_count 78 = .ok (.ireturn, 1) := by decide +kernel
theorem dX8_count_79 : decode cX8_count 79 = .ok (.bipush (-2), 2) := by decide +kernel
theorem dX8_count_81 : decode cX8_count 81 = .ok (.ireturn, 1) := by decide +kernel
theorem dX8_isTape_0 : decode cX8_isTape 0 = .ok (.aload_n 0, 1) := by decide +kernel
theorem dX8_isTape_1 : decode cX8_isTape 1 = .ok (.iload_n 1, 1) := by decide +kernel
theorem dX8_isTape_2 : decode cX8_isTape 2 = .ok (.iconst 0, 1) := by decide +kernel
theorem dX8_isTape_3 : decode cX8_isTape 3 = .ok (.iconst 5, 1) := by decide +kernel
theorem dX8_isTape_4 : decode cX8_isTape 4 = .ok (.invokevirtual 218, 3) := by decide +kernel
theorem dX8_isTape_7 : decode cX8_isTape 7 = .ok (.ireturn, 1) := by decide +kernel
theorem dX8_tape_0 : decode cX8_tape 0 = .ok (.aload_n 0, 1) := by decide +kernel
theorem dX8_tape_1 : decode cX8_tape 1 = .ok (.iload_n 1, 1) := by decide +kernel
theorem dX8_tape_2 : decode cX8_tape 2 = .ok (.invokevirtual 406, 3) := by decide +kernel
theorem dX8_tape_5 : decode cX8_tape 5 = .ok (.ifCond .ne 5, 3) := by decide +kernel
theorem dX8_tape_8 : decode cX8_tape 8 = .ok (.iconst (-1), 1) := by decide +kernel
theorem dX8_tape_9 : decode cX8_tape 9 = .ok (.ireturn, 1) := by decide +kernel
theorem dX8_tape_10 : decode cX8_tape 10 = .ok (.aload_n 0, 1) := by decide +kernel
theorem dX8_tape_11 : decode cX8_tape 11 = .ok (.iload_n 2, 1) := by decide +kernel
theorem dX8_tape_12 : decode cX8_tape 12 = .ok (.iconst (-1), 1) := by decide +kernel
theorem dX8_tape_13 : decode cX8_tape 13 = .ok (.iconst 4, 1) := by decide +kernel
theorem dX8_tape_14 : decode cX8_tape 14 = .ok (.invokevirtual 218, 3) := by decide +kernel
theorem dX8_tape_17 : decode cX8_tape 17 = .ok (.ifCond .eq 13, 3) := by decide +kernel
theorem dX8_tape_20 : decode cX8_tape 20 = .ok (.iload_n 2, 1) := by decide +kernel
theorem dX8_tape_21 : decode cX8_tape 21 = .ok (.ifCond .lt 12, 3) := by decide +kernel
theorem dX8_tape_24 : decode cX8_tape 24 = .ok (.iload_n 3, 1) := by decide +kernel
theorem dX8_tape_25 : decode cX8_tape 25 = .ok (.bipush 60, 2) := by decide +kernel
theorem dX8_tape_27 : decode cX8_tape 27 = .ok (.if_icmp .le 6, 3) := by decide +kernel
theorem dX8_tape_30 : decode cX8_tape 30 = .ok (.bipush (-2), 2) := by decide +kernel
theorem dX8_tape_32 : decode cX8_tape 32 = .ok (.ireturn, 1) := by decide +kernel
theorem dX8_tape_33 : decode cX8_tape 33 = .ok (.iload_n 2, 1) := by decide +kernel
theorem dX8_tape_34 : decode cX8_tape 34 = .ok (.ifCond .lt 10, 3) := by decide +kernel
theorem dX8_tape_37 : decode cX8_tape 37 = .ok (.iload_n 3, 1) := by decide +kernel
theorem dX8_tape_38 : decode cX8_tape 38 = .ok (.ifCond .ge 6, 3) := by decide +kernel
theorem dX8_tape_41 : decode cX8_tape 41 = .ok (.bipush (-14), 2) := by decide +kernel
theorem dX8_tape_43 : decode cX8_tape 43 = .ok (.ireturn, 1) := by decide +kernel
theorem dX8_tape_44 : decode cX8_tape 44 = .ok (.aload_n 0, 1) := by decide +kernel
theorem dX8_tape_45 : decode cX8_tape 45 = .ok (.getfield 205, 3) := by decide +kernel
theorem dX8_tape_48 : decode cX8_tape 48 = .ok (.iload_n 1, 1) := by decide +kernel
theorem dX8_tape_49 : decode cX8_tape 49 = .ok (.iload_n 2, 1) := by decide +kernel
theorem dX8_tape_50 : decode cX8_tape 50 = .ok (.iastore, 1) := by decide +kernel
theorem dX8_tape_51 : decode cX8_tape 51 = .ok (.aload_n 0, 1) := by decide +kernel
theorem dX8_tape_52 : decode cX8_tape 52 = .ok (.getfield 208, 3) := by decide +kernel
theorem dX8_tape_55 : decode cX8_tape 55 = .ok (.iload_n 1, 1) := by decide +kernel
theorem dX8_tape_56 : decode cX8_tape 56 = .ok (.iload_n 2, 1) := by decide +kernel
theorem dX8_tape_57 : decode cX8_tape 57 = .ok (.ifCond .ge 7, 3) := by decide +kernel
theorem dX8_tape_60 : decode cX8_tape 60 = .ok (.iconst 0, 1) := by decide +kernel
theorem dX8_tape_61 : decode cX8_tape 61 = .ok (.goto 4, 3) := by decide +kernel
theorem dX8_tape_64 : decode cX8_tape 64 = .ok (.iload_n 3, 1) := by decide +kernel
theorem dX8_tape_65 : decode cX8_tape 65 = .ok (.iastore, 1) := by decide +kernel
theorem dX8_tape_66 : decode cX8_tape 66 = .ok (.iconst 0, 1) := by decide +kernel
theorem dX8_tape_67 : decode cX8_tape 67 = .ok (.istore 4, 2) := by decide +kernel
theorem dX8_tape_69 : decode cX8_tape 69 = .ok (.iload 4, 2) := by decide +kernel
theorem dX8_tape_71 : decode cX8_tape 71 = .ok (.bipush 60, 2) := by decide +kernel
theorem dX8_tape_73 : decode cX8_tape 73 = .ok (.if_icmp .ge 22, 3) := by decide +kernel
theorem dX8_tape_76 : decode cX8_tape 76 = .ok (.aload_n 0, 1) := by decide +kernel
theorem dX8_tape_77 : decode cX8_tape 77 = .ok (.getfield 211, 3) := by decide +kernel
theorem dX8_tape_80 : decode cX8_tape 80 = .ok (.bipush 60, 2) := by decide +kernel
theorem dX8_tape_82 : decode cX8_tape 82 = .ok (.iload_n 1, 1) := by decide +kernel
theorem dX8_tape_83 : decode cX8_tape 83 = .ok (.imul, 1) := by decide +kernel
theorem dX8_tape_84 : decode cX8_tape 84 = .ok (.iload 4, 2) := by decide +kernel
theorem dX8_tape_86 : decode cX8_tape 86 = .ok (.iadd, 1) := by decide +kernel
theorem dX8_tape_87 : decode cX8_tape 87 = .ok (.lconst 0, 1) := by decide +kernel
theorem dX8_tape_88 : decode cX8_tape 88 = .ok (.lastore, 1) := by decide +kernel
theorem dX8_tape_89 : decode cX8_tape 89 = .ok (.iinc 4 1, 3) := by decide +kernel
theorem dX8_tape_92 : decode cX8_tape 92 = .ok (.goto (-23), 3) := by decide +kernel
theorem dX8_tape_95 : decode cX8_tape 95 = .ok (.iconst 1, 1) := by decide +kernel
theorem dX8_tape_96 : decode cX8_tape 96 = .ok (.ireturn, 1) := by decide +kernel
theorem dX8_narrow_0 : decode cX8_narrow 0 = .ok (.iload_n 1, 1) := by decide +kernel
theorem dX8_narrow_1 : decode cX8_narrow 1 = .ok (.ifCond .ne 10, 3) := by decide +kernel
theorem dX8_narrow_4 : decode cX8_narrow 4 = .ok (.lload_n 2, 1) := by decide +kernel
theorem dX8_narrow_5 : decode cX8_narrow 5 = .ok (.l2i, 1) := by decide +kernel
theorem dX8_narrow_6 : decode cX8_narrow 6 = .ok (.i2b, 1) := by decide +kernel
theorem dX8_narrow_7 : decode cX8_narrow 7 = .ok (.i2l, 1) := by decide +kernel
theorem dX8_narrow_8 : decode cX8_narrow 8 = .ok (.goto 46, 3) := by decide +kernel
theorem dX8_narrow_11 : decode cX8_narrow 11 = .ok (.iload_n 1, 1) := by decide +kernel
theorem dX8_narrow_12 : decode cX8_narrow 12 = .ok (.iconst 1, 1) := by decide +kernel
theorem dX8_narrow_13 : decode cX8_narrow 13 = .ok (.if_icmp .ne 10, 3) := by decide +kernel
theorem dX8_narrow_16 : decode cX8_narrow 16 = .ok (.lload_n 2, 1) := by decide +kernel
theorem dX8_narrow_17 : decode cX8_narrow 17 = .ok (.l2i, 1) := by decide +kernel
theorem dX8_narrow_18 : decode cX8_narrow 18 = .ok (.i2s, 1) := by decide +kernel
theorem dX8_narrow_19 : decode cX8_narrow 19 = .ok (.i2l, 1) := by decide +kernel
theorem dX8_narrow_20 : decode cX8_narrow 20 = .ok (.goto 34, 3) := by decide +kernel
theorem dX8_narrow_23 : decode cX8_narrow 23 = .ok (.iload_n 1, 1) := by decide +kernel
theorem dX8_narrow_24 : decode cX8_narrow 24 = .ok (.iconst 2, 1) := by decide +kernel
theorem dX8_narrow_25 : decode cX8_narrow 25 = .ok (.if_icmp .ne 9, 3) := by decide +kernel
theorem dX8_narrow_28 : decode cX8_narrow 28 = .ok (.lload_n 2, 1) := by decide +kernel
theorem dX8_narrow_29 : decode cX8_narrow 29 = .ok (.l2i, 1) := by decide +kernel
theorem dX8_narrow_30 : decode cX8_narrow 30 = .ok (.i2l, 1) := by decide +kernel
theorem dX8_narrow_31 : decode cX8_narrow 31 = .ok (.goto 23, 3) := by decide +kernel
theorem dX8_narrow_34 : decode cX8_narrow 34 = .ok (.iload_n 1, 1) := by decide +kernel
theorem dX8_narrow_35 : decode cX8_narrow 35 = .ok (.iconst 4, 1) := by decide +kernel
theorem dX8_narrow_36 : decode cX8_narrow 36 = .ok (.if_icmp .ne 17, 3) := by decide +kernel
theorem dX8_narrow_39 : decode cX8_narrow 39 = .ok (.lload_n 2, 1) := by decide +kernel
theorem dX8_narrow_40 : decode cX8_narrow 40 = .ok (.lconst 0, 1) := by decide +kernel
theorem dX8_narrow_41 : decode cX8_narrow 41 = .ok (.lcmp, 1) := by decide +kernel
theorem dX8_narrow_42 : decode cX8_narrow 42 = .ok (.ifCond .eq 7, 3) := by decide +kernel
theorem dX8_narrow_45 : decode cX8_narrow 45 = .ok (.lconst 1, 1) := by decide +kernel
theorem dX8_narrow_46 : decode cX8_narrow 46 = .ok (.goto 8, 3) := by decide +kernel
theorem dX8_narrow_49 : decode cX8_narrow 49 = .ok (.lconst 0, 1) := by decide +kernel
theorem dX8_narrow_50 : decode cX8_narrow 50 = .ok (.goto 4, 3) := by decide +kernel
theorem dX8_narrow_53 : decode cX8_narrow 53 = .ok (.lload_n 2, 1) := by decide +kernel
theorem dX8_narrow_54 : decode cX8_narrow 54 = .ok (.lreturn, 1) := by decide +kernel
theorem dX8_item_0 : decode cX8_item 0 = .ok (.aload_n 0, 1) := by decide +kernel
theorem dX8_item_1 : decode cX8_item 1 = .ok (.iload_n 1, 1) := by decide +kernel
theorem dX8_item_2 : decode cX8_item 2 = .ok (.invokevirtual 406, 3) := by decide +kernel
theorem dX8_item_5 : decode cX8_item 5 = .ok (.ifCond .ne 5, 3) := by decide +kernel
theorem dX8_item_8 : decode cX8_item 8 = .ok (.iconst (-1), 1) := by decide +kernel
theorem dX8_item_9 : decode cX8_item 9 = .ok (.ireturn, 1) := by decide +kernel
theorem dX8_item_10 : decode cX8_item 10 = .ok (.aload_n 0, 1) := by decide +kernel
theorem dX8_item_11 : decode cX8_item 11 = .ok (.getfield 205, 3) := by decide +kernel
theorem dX8_item_14 : decode cX8_item 14 = .ok (.iload_n 1, 1) := by decide +kernel
theorem dX8_item_15 : decode cX8_item 15 = .ok (.iaload, 1) := by decide +kernel
theorem dX8_item_16 : decode cX8_item 16 = .ok (.ifCond .ge 6, 3) := by decide +kernel
theorem dX8_item_19 : decode cX8_item 19 = .ok (.bipush (-11), 2) := by decide +kernel
theorem dX8_item_21 : decode cX8_item 21 = .ok (.ireturn, 1) := by decide +kernel
theorem dX8_item_22 : decode cX8_item 22 = .ok (.aload_n 0, 1) := by decide +kernel
theorem dX8_item_23 : decode cX8_item 23 = .ok (.iload_n 2, 1) := by decide +kernel
theorem dX8_item_24 : decode cX8_item 24 = .ok (.iconst 0, 1) := by decide +kernel
theorem dX8_item_25 : decode cX8_item 25 = .ok (.aload_n 0, 1) := by decide +kernel
theorem dX8_item_26 : decode cX8_item 26 = .ok (.getfield 208, 3) := by decide +kernel
theorem dX8_item_29 : decode cX8_item 29 = .ok (.iload_n 1, 1) := by decide +kernel
theorem dX8_item_30 : decode cX8_item 30 = .ok (.iaload, 1) := by decide +kernel
theorem dX8_item_31 : decode cX8_item 31 = .ok (.iconst 1, 1) := by decide +kernel
theorem dX8_item_32 : decode cX8_item 32 = .ok (.isub, 1) := by decide +kernel
theorem dX8_item_33 : decode cX8_item 33 = .ok (.invokevirtual 218, 3) := by decide +kernel
theorem dX8_item_36 : decode cX8_item 36 = .ok (.ifCond .ne 6, 3) := by decide +kernel
theorem dX8_item_39 : decode cX8_item 39 = .ok (.bipush (-13), 2) := by decide +kernel
theorem dX8_item_41 : decode cX8_item 41 = .ok (.ireturn, 1) := by decide +kernel
theorem dX8_item_42 : decode cX8_item 42 = .ok (.aload_n 0, 1) := by decide +kernel
theorem dX8_item_43 : decode cX8_item 43 = .ok (.getfield 211, 3) := by decide +kernel
theorem dX8_item_46 : decode cX8_item 46 = .ok (.bipush 60, 2) := by decide +kernel
theorem dX8_item_48 : decode cX8_item 48 = .ok (.iload_n 1, 1) := by decide +kernel
theorem dX8_item_49 : decode cX8_item 49 = .ok (.imul, 1) := by decide +kernel
theorem dX8_item_50 : decode cX8_item 50 = .ok (.iload_n 2, 1) := by decide +kernel
theorem dX8_item_51 : decode cX8_item 51 = .ok (.iadd, 1) := by decide +kernel
theorem dX8_item_52 : decode cX8_item 52 = .ok (.aload_n 0, 1) := by decide +kernel
theorem dX8_item_53 : decode cX8_item 53 = .ok (.aload_n 0, 1) := by decide +kernel
theorem dX8_item_54 : decode cX8_item 54 = .ok (.getfield 205, 3) := by decide +kernel
theorem dX8_item_57 : decode cX8_item 57 = .ok (.iload_n 1, 1) := by decide +kernel
theorem dX8_item_58 : decode cX8_item 58 = .ok (.iaload, 1) := by decide +kernel
theorem dX8_item_59 : decode cX8_item 59 = .ok (.lload_n 3, 1) := by decide +kernel
theorem dX8_item_60 : decode cX8_item 60 = .ok (.invokevirtual 433, 3) := by decide +kernel
theorem dX8_item_63 : decode cX8_item 63 = .ok (.lastore, 1) := by decide +kernel
theorem dX8_item_64 : decode cX8_item 64 = .ok (.iconst 1, 1) := by decide +kernel
theorem dX8_item_65 : decode cX8_item 65 = .ok (.ireturn, 1) := by decide +kernel
theorem dX8_read_0 : decode cX8_read 0 = .ok (.aload_n 0, 1) := by decide +kernel
theorem dX8_read_1 : decode cX8_read 1 = .ok (.iload_n 1, 1) := by decide +kernel
theorem dX8_read_2 : decode cX8_read 2 = .ok (.invokevirtual 406, 3) := by decide +kernel
theorem dX8_read_5 : decode cX8_read 5 = .ok (.ifCond .eq 29, 3) := by decide +kernel
theorem dX8_read_8 : decode cX8_read 8 = .ok (.aload_n 0, 1) := by decide +kernel
theorem dX8_read_9 : decode cX8_read 9 = .ok (.getfield 205, 3) := by decide +kernel
theorem dX8_read_12 : decode cX8_read 12 = .ok (.iload_n 1, 1) := by decide +kernel
theorem dX8_read_13 : decode cX8_read 13 = .ok (.iaload, 1) := by decide +kernel
theorem dX8_read_14 : decode cX8_read 14 = .ok (.ifCond .lt 20, 3) := by decide +kernel
theorem dX8_read_17 : decode cX8_read 17 = .ok (.aload_n 0, 1) := by decide +kernel
theorem dX8_read_18 : decode cX8_read 18 = .ok (.iload_n 2, 1) := by decide +kernel
theorem dX8_read_19 : decode cX8_read 19 = .ok (.iconst 0, 1) := by decide +kernel
theorem dX8_read_20 : decode cX8_read 20 = .ok (.aload_n 0, 1) := by decide +kernel
theorem dX8_read_21 : decode cX8_read 21 = .ok (.getfield 208, 3) := by decide +kernel
theorem dX8_read_24 : decode cX8_read 24 = .ok (.iload_n 1, 1) := by decide +kernel
theorem dX8_read_25 : decode cX8_read 25 = .ok (.iaload, 1) := by decide +kernel
theorem dX8_read_26 : decode cX8_read 26 = .ok (.iconst 1, 1) := by decide +kernel
theorem dX8_read_27 : decode cX8_read 27 = .ok (.isub, 1) := by decide +kernel
theorem dX8_read_28 : decode cX8_read 28 = .ok (.invokevirtual 218, 3) := by decide +kernel
theorem dX8_read_31 : decode cX8_read 31 = .ok (.ifCond .ne 9, 3) := by decide +kernel
theorem dX8_read_34 : decode cX8_read 34 = .ok (.ldc2_w 397, 3) := by decide +kernel
theorem dX8_read_37 : decode cX8_read 37 = .ok (.goto 14, 3) := by decide +kernel
theorem dX8_read_40 : decode cX8_read 40 = .ok (.aload_n 0, 1) := by decide +kernel
theorem dX8_read_41 : decode cX8_read 41 = .ok (.getfield 211, 3) := by decide +kernel
theorem dX8_read_44 : decode cX8_read 44 = .ok (.bipush 60, 2) := by decide +kernel
theorem dX8_read_46 : decode cX8_read 46 = .ok (.iload_n 1, 1) := by decide +kernel
theorem dX8_read_47 : decode cX8_read 47 = .ok (.imul, 1) := by decide +kernel
theorem dX8_read_48 : decode cX8_read 48 = .ok (.iload_n 2, 1) := by decide +kernel
theorem dX8_read_49 : decode cX8_read 49 = .ok (.iadd, 1) := by decide +kernel
theorem dX8_read_50 : decode cX8_read 50 = .ok (.laload, 1) := by decide +kernel
theorem dX8_read_51 : decode cX8_read 51 = .ok (.lreturn, 1) := by decide +kernel
theorem dX8_shift_0 : decode cX8_shift 0 = .ok (.aload_n 0, 1) := by decide +kernel
theorem dX8_shift_1 : decode cX8_shift 1 = .ok (.iload_n 1, 1) := by decide +kernel
theorem dX8_shift_2 : decode cX8_shift 2 = .ok (.invokevirtual 406, 3) := by decide +kernel
theorem dX8_shift_5 : decode cX8_shift 5 = .ok (.ifCond .eq 11, 3) := by decide +kernel
theorem dX8_shift_8 : decode cX8_shift 8 = .ok (.aload_n 0, 1) := by decide +kernel
theorem dX8_shift_9 : decode cX8_shift 9 = .ok (.iload_n 3, 1) := by decide +kernel
theorem dX8_shift_10 : decode cX8_shift 10 = .ok (.invokevirtual 406, 3) := by decide +kernel
theorem dX8_shift_13 : decode cX8_shift 13 = .ok (.ifCond .ne 5, 3) := by decide +kernel
theorem dX8_shift_16 : decode cX8_shift 16 = .ok (.iconst (-1), 1) := by decide +kernel
theorem dX8_shift_17 : decode cX8_shift 17 = .ok (.ireturn, 1) := by decide +kernel
theorem dX8_shift_18 : decode cX8_shift 18 = .ok (.aload_n 0, 1) := by decide +kernel
theorem dX8_shift_19 : decode cX8_shift 19 = .ok (.getfield 205, 3) := by decide +kernel
theorem dX8_shift_22 : decode cX8_shift 22 = .ok (.iload_n 1, 1) := by decide +kernel
theorem dX8_shift_23 : decode cX8_shift 23 = .ok (.iaload, 1) := by decide +kernel
theorem dX8_shift_24 : decode cX8_shift 24 = .ok (.ifCond .lt 12, 3) := by decide +kernel
theorem dX8_shift_27 : decode cX8_shift 27 = .ok (.aload_n 0, 1) := by decide +kernel
theorem dX8_shift_28 : decode cX8_shift 28 = .ok (.getfield 205, 3) := by decide +kernel
theorem dX8_shift_31 : decode cX8_shift 31 = .ok (.iload_n 3, 1) := by decide +kernel
theorem dX8_shift_32 : decode cX8_shift 32 = .ok (.iaload, 1) := by decide +kernel
theorem dX8_shift_33 : decode cX8_shift 33 = .ok (.ifCond .ge 6, 3) := by decide +kernel
theorem dX8_shift_36 : decode cX8_shift 36 = .ok (.bipush (-11), 2) := by decide +kernel
theorem dX8_shift_38 : decode cX8_shift 38 = .ok (.ireturn, 1) := by decide +kernel
theorem dX8_shift_39 : decode cX8_shift 39 = .ok (.aload_n 0, 1) := by decide +kernel
theorem dX8_shift_40 : decode cX8_shift 40 = .ok (.getfield 205, 3) := by decide +kernel
theorem dX8_shift_43 : decode cX8_shift 43 = .ok (.iload_n 1, 1) := by decide +kernel
theorem dX8_shift_44 : decode cX8_shift 44 = .ok (.iaload, 1) := by decide +kernel
theorem dX8_shift_45 : decode cX8_shift 45 = .ok (.aload_n 0, 1) := by decide +kernel
theorem dX8_shift_46 : decode cX8_shift 46 = .ok (.getfield 205, 3) := by decide +kernel
theorem dX8_shift_49 : decode cX8_shift 49 = .ok (.iload_n 3, 1) := by decide +kernel
theorem dX8_shift_50 : decode cX8_shift 50 = .ok (.iaload, 1) := by decide +kernel
theorem dX8_shift_51 : decode cX8_shift 51 = .ok (.if_icmp .eq 6, 3) := by decide +kernel
theorem dX8_shift_54 : decode cX8_shift 54 = .ok (.bipush (-12), 2) := by decide +kernel
theorem dX8_shift_56 : decode cX8_shift 56 = .ok (.ireturn, 1) := by decide +kernel
theorem dX8_shift_57 : decode cX8_shift 57 = .ok (.iload 5, 2) := by decide +kernel
theorem dX8_shift_59 : decode cX8_shift 59 = .ok (.ifCond .lt 39, 3) := by decide +kernel
theorem dX8_shift_62 : decode cX8_shift 62 = .ok (.iload_n 2, 1) := by decide +kernel
theorem dX8_shift_63 : decode cX8_shift 63 = .ok (.ifCond .lt 35, 3) := by decide +kernel
theorem dX8_shift_66 : decode cX8_shift 66 = .ok (.iload 4, 2) := by decide +kernel
theorem dX8_shift_68 : decode cX8_shift 68 = .ok (.ifCond .lt 30, 3) := by decide +kernel
theorem dX8_shift_71 : decode cX8_shift 71 = .ok (.iload_n 2, 1) := by decide +kernel
theorem dX8_shift_72 : decode cX8_shift 72 = .ok (.aload_n 0, 1) := by decide +kernel
theorem dX8_shift_73 : decode cX8_shift 73 = .ok (.getfield 208, 3) := by decide +kernel
theorem dX8_shift_76 : decode cX8_shift 76 = .ok (.iload_n 1, 1) := by decide +kernel
theorem dX8_shift_77 : decode cX8_shift 77 = .ok (.iaload, 1) := by decide +kernel
theorem dX8_shift_78 : decode cX8_shift 78 = .ok (.iload 5, 2) := by decide +kernel
theorem dX8_shift_80 : decode cX8_shift 80 = .ok (.isub, 1) := by decide +kernel
theorem dX8_shift_81 : decode cX8_shift 81 = .ok (.if_icmp .gt 17, 3) := by decide +kernel
theorem dX8_shift_84 : decode cX8_shift 84 = .ok (.iload 4, 2) := by decide +kernel
theorem dX8_shift_86 : decode cX8_shift 86 = .ok (.aload_n 0, 1) := by decide +kernel
theorem dX8_shift_87 : decode cX8_shift 87 = .ok (.getfield 208, 3) := by decide +kernel
theorem dX8_shift_90 : decode cX8_shift 90 = .ok (.iload_n 3, 1) := by decide +kernel
theorem dX8_shift_91 : decode cX8_shift 91 = .ok (.iaload, 1) := by decide +kernel
theorem dX8_shift_92 : decode cX8_shift 92 = .ok (.iload 5, 2) := by decide +kernel
theorem dX8_shift_94 : decode cX8_shift 94 = .ok (.isub, 1) := by decide +kernel
theorem dX8_shift_95 : decode cX8_shift 95 = .ok (.if_icmp .le 6, 3) := by decide +kernel
theorem dX8_shift_98 : decode cX8_shift 98 = .ok (.bipush (-13), 2) := by decide +kernel
theorem dX8_shift_100 : decode cX8_shift 100 = .ok (.ireturn, 1) := by decide +kernel
theorem dX8_shift_101 : decode cX8_shift 101 = .ok (.iconst 0, 1) := by decide +kernel
theorem dX8_shift_102 : decode cX8_shift 102 = .ok (.istore 6, 2) := by decide +kernel
theorem dX8_shift_104 : decode cX8_shift 104 = .ok (.iload 6, 2) := by decide +kernel
theorem dX8_shift_106 : decode cX8_shift 106 = .ok (.iload 5, 2) := by decide +kernel
theorem dX8_shift_108 : decode cX8_shift 108 = .ok (.if_icmp .ge 30, 3) := by decide +kernel
theorem dX8_shift_111 : decode cX8_shift 111 = .ok (.aload_n 0, 1) := by decide +kernel
theorem dX8_shift_112 : decode cX8_shift 112 = .ok (.getfield 215, 3) := by decide +kernel
theorem dX8_shift_115 : decode cX8_shift 115 = .ok (.iload 6, 2) := by decide +kernel
theorem dX8_shift_117 : decode cX8_shift 117 = .ok (.aload_n 0, 1) := by decide +kernel
theorem dX8_shift_118 : decode cX8_shift 118 = .ok (.getfield 211, 3) := by decide +kernel
theorem dX8_shift_121 : decode cX8_shift 121 = .ok (.bipush 60, 2) := by decide +kernel
theorem dX8_shift_123 : decode cX8_shift 123 = .ok (.iload_n 1, 1) := by decide +kernel
theorem dX8_shift_124 : decode cX8_shift 124 = .ok (.imul, 1) := by decide +kernel
theorem dX8_shift_125 : decode cX8_shift 125 = .ok (.iload_n 2, 1) := by decide +kernel
theorem dX8_shift_126 : decode cX8_shift 126 = .ok (.iadd, 1) := by decide +kernel
theorem dX8_shift_127 : decode cX8_shift 127 = .ok (.iload 6, 2) := by decide +kernel
theorem dX8_shift_129 : decode cX8_shift 129 = .ok (.iadd, 1) := by decide +kernel
theorem dX8_shift_130 : decode cX8_shift 130 = .ok (.laload, 1) := by decide +kernel
theorem dX8_shift_131 : decode cX8_shift 131 = .ok (.lastore, 1) := by decide +kernel
theorem dX8_shift_132 : decode cX8_shift 132 = .ok (.iinc 6 1, 3) := by decide +kernel
theorem dX8_shift_135 : decode cX8_shift 135 = .ok (.goto (-31), 3) := by decide +kernel
theorem dX8_shift_138 : decode cX8_shift 138 = .ok (.iconst 0, 1) := by decide +kernel
theorem dX8_shift_139 : decode cX8_shift 139 = .ok (.istore 6, 2) := by decide +kernel
theorem dX8_shift_141 : decode cX8_shift 141 = .ok (.iload 6, 2) := by decide +kernel
theorem dX8_shift_143 : decode cX8_shift 143 = .ok (.iload 5, 2) := by decide +kernel
theorem dX8_shift_145 : decode cX8_shift 145 = .ok (.if_icmp .ge 31, 3) := by decide +kernel
theorem dX8_shift_148 : decode cX8_shift 148 = .ok (.aload_n 0, 1) := by decide +kernel
theorem dX8_shift_149 : decode cX8_shift 149 = .ok (.getfield 211, 3) := by decide +kernel
theorem dX8_shift_152 : decode cX8_shift 152 = .ok (.bipush 60, 2) := by decide +kernel
theorem dX8_shift_154 : decode cX8_shift 154 = .ok (.iload_n 3, 1) := by decide +kernel
theorem dX8_shift_155 : decode cX8_shift 155 = .ok (.imul, 1) := by decide +kernel
theorem dX8_shift_156 : decode cX8_shift 156 = .ok (.iload 4, 2) := by decide +kernel
theorem dX8_shift_158 : decode cX8_shift 158 = .ok (.iadd, 1) := by decide +kernel
theorem dX8_shift_159 : decode cX8_shift 159 = .ok (.iload 6, 2) := by decide +kernel
theorem dX8_shift_161 : decode cX8_shift 161 = .ok (.iadd, 1) := by decide +kernel
theorem dX8_shift_162 : decode cX8_shift 162 = .ok (.aload_n 0, 1) := by decide +kernel
theorem dX8_shift_163 : decode cX8_shift 163 = .ok (.getfield 215, 3) := by decide +kernel
theorem dX8_shift_166 : decode cX8_shift 166 = .ok (.iload 6, 2) := by decide +kernel
theorem dX8_shift_168 : decode cX8_shift 168 = .ok (.laload, 1) := by decide +kernel
theorem dX8_shift_169 : decode cX8_shift 169 = .ok (.lastore, 1) := by decide +kernel
theorem dX8_shift_170 : decode cX8_shift 170 = .ok (.iinc 6 1, 3) := by decide +kernel
theorem dX8_shift_173 : decode cX8_shift 173 = .ok (.goto (-32), 3) := by decide +kernel
theorem dX8_shift_176 : decode cX8_shift 176 = .ok (.iload 5, 2) := by decide +kernel
theorem dX8_shift_178 : decode cX8_shift 178 = .ok (.ireturn, 1) := by decide +kernel
end
section
theorem dL_law_0 : decode cL_law 0 = .ok (.new 7, 3) := by decide +kernel
theorem dL_law_3 : decode cL_law 3 = .ok (.dup, 1) := by decide +kernel
theorem dL_law_4 : decode cL_law 4 = .ok (.invokespecial 9, 3) := by decide +kernel
theorem dL_law_7 : decode cL_law 7 = .ok (.astore_n 1, 1) := by decide +kernel
theorem dL_law_8 : decode cL_law 8 = .ok (.new 10, 3) := by decide +kernel
theorem dL_law_11 : decode cL_law 11 = .ok (.dup, 1) := by decide +kernel
theorem dL_law_12 : decode cL_law 12 = .ok (.invokespecial 12, 3) := by decide +kernel
theorem dL_law_15 : decode cL_law 15 = .ok (.astore_n 2, 1) := by decide +kernel
theorem dL_law_16 : decode cL_law 16 = .ok (.iconst 0, 1) := by decide +kernel
theorem dL_law_17 : decode cL_law 17 = .ok (.istore_n 3, 1) := by decide +kernel
theorem dL_law_18 : decode cL_law 18 = .ok (.iload_n 3, 1) := by decide +kernel
theorem dL_law_19 : decode cL_law 19 = .ok (.aload_n 0, 1) := by decide +kernel
theorem dL_law_20 : decode cL_law 20 = .ok (.arraylength, 1) := by decide +kernel
theorem dL_law_21 : decode cL_law 21 = .ok (.bipush 6, 2) := by decide +kernel
theorem dL_law_23 : decode cL_law 23 = .ok (.isub, 1) := by decide +kernel
theorem dL_law_24 : decode cL_law 24 = .ok (.if_icmp .gt 1369, 3) := by decide +kernel
theorem dL_law_27 : decode cL_law 27 = .ok (.aload_n 0, 1) := by decide +kernel
theorem dL_law_28 : decode cL_law 28 = .ok (.iload_n 3, 1) := by decide +kernel
theorem dL_law_29 : decode cL_law 29 = .ok (.iaload, 1) := by decide +kernel
theorem dL_law_30 : decode cL_law 30 = .ok (.bipush 63, 2) := by decide +kernel
theorem dL_law_32 : decode cL_law 32 = .ok (.iand, 1) := by decide +kernel
theorem dL_law_33 : decode cL_law 33 = .ok (.tableswitch 1354 0 37 #[167, 220, 253, 286, 319, 342, 375, 418, 441, 454, 477, 500, 533, 566, 589, 612, 635, 658, 701, 734, 767, 790, 824, 858, 891, 914, 947, 960, 993, 1006, 1019, 1062, 1085, 1118, 1141, 1184, 1257, 1291], 167) := by decide +kernel
theorem dL_law_200 : decode cL_law 200 = .ok (.aload_n 1, 1) := by decide +kernel
theorem dL_law_201 : decode cL_law 201 = .ok (.aload_n 0, 1) := by decide +kernel
theorem dL_law_202 : decode cL_law 202 = .ok (.iload_n 3, 1) := by decide +kernel
theorem dL_law_203 : decode cL_law 203 = .ok (.iconst 1, 1) := by decide +kernel
theorem dL_law_204 : decode cL_law 204 = .ok (.iadd, 1) := by decide +kernel
theorem dL_law_205 : decode cL_law 205 = .ok (.iaload, 1) := by decide +kernel
theorem dL_law_206 : decode cL_law 206 = .ok (.aload_n 0, 1) := by decide +kernel
theorem dL_law_207 : decode cL_law 207 = .ok (.iload_n 3, 1) := by decide +kernel
theorem dL_law_208 : decode cL_law 208 = .ok (.iconst 2, 1) := by decide +kernel
theorem dL_law_209 : decode cL_law 209 = .ok (.iadd, 1) := by decide +kernel
theorem dL_law_210 : decode cL_law 210 = .ok (.iaload, 1) := by decide +kernel
theorem dL_law_211 : decode cL_law 211 = .ok (.aload_n 0, 1) := by decide +kernel
theorem dL_law_212 : decode cL_law 212 = .ok (.iload_n 3, 1) := by decide +kernel
theorem dL_law_213 : decode cL_law 213 = .ok (.iconst 3, 1) := by decide +kernel
theorem dL_law_214 : decode cL_law 214 = .ok (.iadd, 1) := by decide +kernel
theorem dL_law_215 : decode cL_law 215 = .ok (.iaload, 1) := by decide +kernel
theorem dL_law_216 : decode cL_law 216 = .ok (.aload_n 0, 1) := by decide +kernel
theorem dL_law_217 : decode cL_law 217 = .ok (.iload_n 3, 1) := by decide +kernel
theorem dL_law_218 : decode cL_law 218 = .ok (.iconst 4, 1) := by decide +kernel
theorem dL_law_219 : decode cL_law 219 = .ok (.iadd, 1) := by decide +kernel
theorem dL_law_220 : decode cL_law 220 = .ok (.iaload, 1) := by decide +kernel
theorem dL_law_221 : decode cL_law 221 = .ok (.invokevirtual 13, 3) := by decide +kernel
theorem dL_law_224 : decode cL_law 224 = .ok (.aload_n 2, 1) := by decide +kernel
theorem dL_law_225 : decode cL_law 225 = .ok (.aload_n 0, 1) := by decide +kernel
theorem dL_law_226 : decode cL_law 226 = .ok (.iload_n 3, 1) := by decide +kernel
theorem dL_law_227 : decode cL_law 227 = .ok (.iconst 1, 1) := by decide +kernel
theorem dL_law_228 : decode cL_law 228 = .ok (.iadd, 1) := by decide +kernel
theorem dL_law_229 : decode cL_law 229 = .ok (.iaload, 1) := by decide +kernel
theorem dL_law_230 : decode cL_law 230 = .ok (.aload_n 0, 1) := by decide +kernel
theorem dL_law_231 : decode cL_law 231 = .ok (.iload_n 3, 1) := by decide +kernel
theorem dL_law_232 : decode cL_law 232 = .ok (.iconst 2, 1) := by decide +kernel
theorem dL_law_233 : decode cL_law 233 = .ok (.iadd, 1) := by decide +kernel
theorem dL_law_234 : decode cL_law 234 = .ok (.iaload, 1) := by decide +kernel
theorem dL_law_235 : decode cL_law 235 = .ok (.aload_n 0, 1) := by decide +kernel
theorem dL_law_236 : decode cL_law 236 = .ok (.iload_n 3, 1) := by decide +kernel
theorem dL_law_237 : decode cL_law 237 = .ok (.iconst 3, 1) := by decide +kernel
theorem dL_law_238 : decode cL_law 238 = .ok (.iadd, 1) := by decide +kernel
theorem dL_law_239 : decode cL_law 239 = .ok (.iaload, 1) := by decide +kernel
theorem dL_law_240 : decode cL_law 240 = .ok (.aload_n 0, 1) := by decide +kernel
theorem dL_law_241 : decode cL_law 241 = .ok (.iload_n 3, 1) := by decide +kernel
theorem dL_law_242 : decode cL_law 242 = .ok (.iconst 4, 1) := by decide +kernel
theorem dL_law_243 : decode cL_law 243 = .ok (.iadd, 1) := by decide +kernel
theorem dL_law_244 : decode cL_law 244 = .ok (.iaload, 1) := by decide +kernel
theorem dL_law_245 : decode cL_law 245 = .ok (.invokevirtual 17, 3) := by decide +kernel
theorem dL_law_248 : decode cL_law 248 = .ok (.if_icmp .eq 1139, 3) := by decide +kernel
theorem dL_law_251 : decode cL_law 251 = .ok (.iconst 0, 1) := by decide +kernel
theorem dL_law_252 : decode cL_law 252 = .ok (.ireturn, 1) := by decide +kernel
theorem dL_law_253 : decode cL_law 253 = .ok (.aload_n 1, 1) := by decide +kernel
theorem dL_law_254 : decode cL_law 254 = .ok (.aload_n 0, 1) := by decide +kernel
theorem dL_law_255 : decode cL_law 255 = .ok (.iload_n 3, 1) := by decide +kernel
theorem dL_law_256 : decode cL_law 256 = .ok (.iconst 1, 1) := by decide +kernel
theorem dL_law_257 : decode cL_law 257 = .ok (.iadd, 1) := by decide +kernel
theorem dL_law_258 : decode cL_law 258 = .ok (.iaload, 1) := by decide +kernel
theorem dL_law_259 : decode cL_law 259 = .ok (.aload_n 0, 1) := by decide +kernel
theorem dL_law_260 : decode cL_law 260 = .ok (.iload_n 3, 1) := by decide +kernel
theorem dL_law_261 : decode cL_law 261 = .ok (.iconst 2, 1) := by decide +kernel
theorem dL_law_262 : decode cL_law 262 = .ok (.iadd, 1) := by decide +kernel
theorem dL_law_263 : decode cL_law 263 = .ok (.iaload, 1) := by decide +kernel
theorem dL_law_264 : decode cL_law 264 = .ok (.invokevirtual 18, 3) := by decide +kernel
theorem dL_law_267 : decode cL_law 267 = .ok (.aload_n 2, 1) := by decide +kernel
theorem dL_law_268 : decode cL_law 268 = .ok (.aload_n 0, 1) := by decide +kernel
theorem dL_law_269 : decode cL_law 269 = .ok (.iload_n 3, 1) := by decide +kernel
theorem dL_law_270 : decode cL_law 270 = .ok (.iconst 1, 1) := by decide +kernel
theorem dL_law_271 : decode cL_law 271 = .ok (.iadd, 1) := by decide +kernel
theorem dL_law_272 : decode cL_law 272 = .ok (.iaload, 1) := by decide +kernel
theorem dL_law_273 : decode cL_law 273 = .ok (.aload_n 0, 1) := by decide +kernel
theorem dL_law_274 : decode cL_law 274 = .ok (.iload_n 3, 1) := by decide +kernel
theorem dL_law_275 : decode cL_law 275 = .ok (.iconst 2, 1) := by decide +kernel
theorem dL_law_276 : decode cL_law 276 = .ok (.iadd, 1) := by decide +kernel
theorem dL_law_277 : decode cL_law 277 = .ok (.iaload, 1) := by decide +kernel
theorem dL_law_278 : decode cL_law 278 = .ok (.invokevirtual 22, 3) := by decide +kernel
theorem dL_law_281 : decode cL_law 281 = .ok (.if_icmp .eq 1106, 3) := by decide +kernel
theorem dL_law_284 : decode cL_law 284 = .ok (.iconst 0, 1) := by decide +kernel
theorem dL_law_285 : decode cL_law 285 = .ok (.ireturn, 1) := by decide +kernel
theorem dL_law_286 : decode cL_law 286 = .ok (.aload_n 1, 1) := by decide +kernel
theorem dL_law_287 : decode cL_law 287 = .ok (.aload_n 0, 1) := by decide +kernel
theorem dL_law_288 : decode cL_law 288 = .ok (.iload_n 3, 1) := by decide +kernel
theorem dL_law_289 : decode cL_law 289 = .ok (.iconst 1, 1) := by decide +kernel
theorem dL_law_290 : decode cL_law 290 = .ok (.iadd, 1) := by decide +kernel
theorem dL_law_291 : decode cL_law 291 = .ok (.iaload, 1) := by decide +kernel
theorem dL_law_292 : decode cL_law 292 = .ok (.aload_n 0, 1) := by decide +kernel
theorem dL_law_293 : decode cL_law 293 = .ok (.iload_n 3, 1) := by decide +kernel
theorem dL_law_294 : decode cL_law 294 = .ok (.iconst 2, 1) := by decide +kernel
theorem dL_law_295 : decode cL_law 295 = .ok (.iadd, 1) := by decide +kernel
theorem dL_law_296 : decode cL_law 296 = .ok (.iaload, 1) := by decide +kernel
theorem dL_law_297 : decode cL_law 297 = .ok (.invokevirtual 23, 3) := by decide +kernel
theorem dL_law_300 : decode cL_law 300 = .ok (.aload_n 2, 1) := by decide +kernel
theorem dL_law_301 : decode cL_law 301 = .ok (.aload_n 0, 1) := by decide +kernel
theorem dL_law_302 : decode cL_law 302 = .ok (.iload_n 3, 1) := by decide +kernel
theorem dL_law_303 : decode cL_law 303 = .ok (.iconst 1, 1) := by decide +kernel
theorem dL_law_304 : decode cL_law 304 = .ok (.iadd, 1) := by decide +kernel
theorem dL_law_305 : decode cL_law 305 = .ok (.iaload, 1) := by decide +kernel
theorem dL_law_306 : decode cL_law 306 = .ok (.aload_n 0, 1) := by decide +kernel
theorem dL_law_307 : decode cL_law 307 = .ok (.iload_n 3, 1) := by decide +kernel
theorem dL_law_308 : decode cL_law 308 = .ok (.iconst 2, 1) := by decide +kernel
theorem dL_law_309 : decode cL_law 309 = .ok (.iadd, 1) := by decide +kernel
theorem dL_law_310 : decode cL_law 310 = .ok (.iaload, 1) := by decide +kernel
theorem dL_law_311 : decode cL_law 311 = .ok (.invokevirtual 26, 3) := by decide +kernel
theorem dL_law_314 : decode cL_law 314 = .ok (.if_icmp .eq 1073, 3) := by decide +kernel
theorem dL_law_317 : decode cL_law 317 = .ok (.iconst 0, 1) := by decide +kernel
theorem dL_law_318 : decode cL_law 318 = .ok (.ireturn, 1) := by decide +kernel
theorem dL_law_319 : decode cL_law 319 = .ok (.aload_n 1, 1) := by decide +kernel
theorem dL_law_320 : decode cL_law 320 = .ok (.aload_n 0, 1) := by decide +kernel
theorem dL_law_321 : decode cL_law 321 = .ok (.iload_n 3, 1) := by decide +kernel
theorem dL_law_322 : decode cL_law 322 = .ok (.iconst 1, 1) := by decide +kernel
theorem dL_law_323 : decode cL_law 323 = .ok (.iadd, 1) := by decide +kernel
theorem dL_law_324 : decode cL_law 324 = .ok (.iaload, 1) := by decide +kernel
theorem dL_law_325 : decode cL_law 325 = .ok (.aload_n 0, 1) := by decide +kernel
theorem dL_law_326 : decode cL_law 326 = .ok (.iload_n 3, 1) := by decide +kernel
theorem dL_law_327 : decode cL_law 327 = .ok (.iconst 2, 1) := by decide +kernel
theorem dL_law_328 : decode cL_law 328 = .ok (.iadd, 1) := by decide +kernel
theorem dL_law_329 : decode cL_law 329 = .ok (.iaload, 1) := by decide +kernel
theorem dL_law_330 : decode cL_law 330 = .ok (.invokevirtual 27, 3) := by decide +kernel
theorem dL_law_333 : decode cL_law 333 = .ok (.aload_n 2, 1) := by decide +kernel
theorem dL_law_334 : decode cL_law 334 = .ok (.aload_n 0, 1) := by decide +kernel
theorem dL_law_335 : decode cL_law 335 = .ok (.iload_n 3, 1) := by decide +kernel
theorem dL_law_336 : decode cL_law 336 = .ok (.iconst 1, 1) := by decide +kernel
theorem dL_law_337 : decode cL_law 337 = .ok (.iadd, 1) := by decide +kernel
theorem dL_law_338 : decode cL_law 338 = .ok (.iaload, 1) := by decide +kernel
theorem dL_law_339 : decode cL_law 339 = .ok (.aload_n 0, 1) := by decide +kernel
theorem dL_law_340 : decode cL_law 340 = .ok (.iload_n 3, 1) := by decide +kernel
theorem dL_law_341 : decode cL_law 341 = .ok (.iconst 2, 1) := by decide +kernel
theorem dL_law_342 : decode cL_law 342 = .ok (.iadd, 1) := by decide +kernel
theorem dL_law_343 : decode cL_law 343 = .ok (.iaload, 1) := by decide +kernel
theorem dL_law_344 : decode cL_law 344 = .ok (.invokevirtual 30, 3) := by decide +kernel
theorem dL_law_347 : decode cL_law 347 = .ok (.if_icmp .eq 1040, 3) := by decide +kernel
theorem dL_law_350 : decode cL_law 350 = .ok (.iconst 0, 1) := by decide +kernel
theorem dL_law_351 : decode cL_law 351 = .ok (.ireturn, 1) := by decide +kernel
theorem dL_law_352 : decode cL_law 352 = .ok (.aload_n 1, 1) := by decide +kernel
theorem dL_law_353 : decode cL_law 353 = .ok (.aload_n 0, 1) := by decide +kernel
theorem dL_law_354 : decode cL_law 354 = .ok (.iload_n 3, 1) := by decide +kernel
theorem dL_law_355 : decode cL_law 355 = .ok (.iconst 1, 1) := by decide +kernel
theorem dL_law_356 : decode cL_law 356 = .ok (.iadd, 1) := by decide +kernel
theorem dL_law_357 : decode cL_law 357 = .ok (.iaload, 1) := by decide +kernel
theorem dL_law_358 : decode cL_law 358 = .ok (.invokevirtual 31, 3) := by decide +kernel
theorem dL_law_361 : decode cL_law 361 = .ok (.aload_n 2, 1) := by decide +kernel
theorem dL_law_362 : decode cL_law 362 = .ok (.aload_n 0, 1) := by decide +kernel
theorem dL_law_363 : decode cL_law 363 = .ok (.iload_n 3, 1) := by decide +kernel
theorem dL_law_364 : decode cL_law 364 = .ok (.iconst 1, 1) := by decide +kernel
theorem dL_law_365 : decode cL_law 365 = .ok (.iadd, 1) := by decide +kernel
theorem dL_law_366 : decode cL_law 366 = .ok (.iaload, 1) := by decide +kernel
theorem dL_law_367 : decode cL_law 367 = .ok (.invokevirtual 35, 3) := by decide +kernel
theorem dL_law_370 : decode cL_law 370 = .ok (.if_icmp .eq 1017, 3) := by decide +kernel
theorem dL_law_373 : decode cL_law 373 = .ok (.iconst 0, 1) := by decide +kernel
theorem dL_law_374 : decode cL_law 374 = .ok (.ireturn, 1) := by decide +kernel
theorem dL_law_375 : decode cL_law 375 = .ok (.aload_n 1, 1) := by decide +kernel
theorem dL_law_376 : decode cL_law 376 = .ok (.aload_n 0, 1) := by decide +kernel
theorem dL_law_377 : decode cL_law 377 = .ok (.iload_n 3, 1) := by decide +kernel
theorem dL_law_378 : decode cL_law 378 = .ok (.iconst 1, 1) := by decide +kernel
theorem dL_law_379 : decode cL_law 379 = .ok (.iadd, 1) := by decide +kernel
theorem dL_law_380 : decode cL_law 380 = .ok (.iaload, 1) := by decide +kernel
theorem dL_law_381 : decode cL_law 381 = .ok (.aload_n 0, 1) := by decide +kernel
theorem dL_law_382 : decode cL_law 382 = .ok (.iload_n 3, 1) := by decide +kernel
theorem dL_law_383 : decode cL_law 383 = .ok (.iconst 2, 1) := by decide +kernel
theorem dL_law_384 : decode cL_law 384 = .ok (.iadd, 1) := by decide +kernel
theorem dL_law_385 : decode cL_law 385 = .ok (.iaload, 1) := by decide +kernel
theorem dL_law_386 : decode cL_law 386 = .ok (.invokevirtual 36, 3) := by decide +kernel
theorem dL_law_389 : decode cL_law 389 = .ok (.aload_n 2, 1) := by decide +kernel
theorem dL_law_390 : decode cL_law 390 = .ok (.aload_n 0, 1) := by decide +kernel
theorem dL_law_391 : decode cL_law 391 = .ok (.iload_n 3, 1) := by decide +kernel
theorem dL_law_392 : decode cL_law 392 = .ok (.iconst 1, 1) := by decide +kernel
theorem dL_law_393 : decode cL_law 393 = .ok (.iadd, 1) := by decide +kernel
theorem dL_law_394 : decode cL_law 394 = .ok (.iaload, 1) := by decide +kernel
theorem dL_law_395 : decode cL_law 395 = .ok (.aload_n 0, 1) := by decide +kernel
theorem dL_law_396 : decode cL_law 396 = .ok (.iload_n 3, 1) := by decide +kernel
theorem dL_law_397 : decode cL_law 397 = .ok (.iconst 2, 1) := by decide +kernel
theorem dL_law_398 : decode cL_law 398 = .ok (.iadd, 1) := by decide +kernel
theorem dL_law_399 : decode cL_law 399 = .ok (.iaload, 1) := by decide +kernel
theorem dL_law_400 : decode cL_law 400 = .ok (.invokevirtual 39, 3) := by decide +kernel
theorem dL_law_403 : decode cL_law 403 = .ok (.if_icmp .eq 984, 3) := by decide +kernel
theorem dL_law_406 : decode cL_law 406 = .ok (.iconst 0, 1) := by decide +kernel
theorem dL_law_407 : decode cL_law 407 = .ok (.ireturn, 1) := by decide +kernel
theorem dL_law_408 : decode cL_law 408 = .ok (.aload_n 1, 1) := by decide +kernel
theorem dL_law_409 : decode cL_law 409 = .ok (.aload_n 0, 1) := by decide +kernel
theorem dL_law_410 : decode cL_law 410 = .ok (.iload_n 3, 1) := by decide +kernel
theorem dL_law_411 : decode cL_law 411 = .ok (.iconst 1, 1) := by decide +kernel
theorem dL_law_412 : decode cL_law 412 = .ok (.iadd, 1) := by decide +kernel
theorem dL_law_413 : decode cL_law 413 = .ok (.iaload, 1) := by decide +kernel
theorem dL_law_414 : decode cL_law 414 = .ok (.aload_n 0, 1) := by decide +kernel
theorem dL_law_415 : decode cL_law 415 = .ok (.iload_n 3, 1) := by decide +kernel
theorem dL_law_416 : decode cL_law 416 = .ok (.iconst 2, 1) := by decide +kernel
theorem dL_law_417 : decode cL_law 417 = .ok (.iadd, 1) := by decide +kernel
theorem dL_law_418 : decode cL_law 418 = .ok (.iaload, 1) := by decide +kernel
theorem dL_law_419 : decode cL_law 419 = .ok (.aload_n 0, 1) := by decide +kernel
theorem dL_law_420 : decode cL_law 420 = .ok (.iload_n 3, 1) := by decide +kernel
theorem dL_law_421 : decode cL_law 421 = .ok (.iconst 3, 1) := by decide +kernel
theorem dL_law_422 : decode cL_law 422 = .ok (.iadd, 1) := by decide +kernel
theorem dL_law_423 : decode cL_law 423 = .ok (.iaload, 1) := by decide +kernel
theorem dL_law_424 : decode cL_law 424 = .ok (.invokevirtual 40, 3) := by decide +kernel
theorem dL_law_427 : decode cL_law 427 = .ok (.aload_n 2, 1) := by decide +kernel
theorem dL_law_428 : decode cL_law 428 = .ok (.aload_n 0, 1) := by decide +kernel
theorem dL_law_429 : decode cL_law 429 = .ok (.iload_n 3, 1) := by decide +kernel
theorem dL_law_430 : decode cL_law 430 = .ok (.iconst 1, 1) := by decide +kernel
theorem dL_law_431 : decode cL_law 431 = .ok (.iadd, 1) := by decide +kernel
theorem dL_law_432 : decode cL_law 432 = .ok (.iaload, 1) := by decide +kernel
theorem dL_law_433 : decode cL_law 433 = .ok (.aload_n 0, 1) := by decide +kernel
theorem dL_law_434 : decode cL_law 434 = .ok (.iload_n 3, 1) := by decide +kernel
theorem dL_law_435 : decode cL_law 435 = .ok (.iconst 2, 1) := by decide +kernel
theorem dL_law_436 : decode cL_law 436 = .ok (.iadd, 1) := by decide +kernel
theorem dL_law_437 : decode cL_law 437 = .ok (.iaload, 1) := by decide +kernel
theorem dL_law_438 : decode cL_law 438 = .ok (.aload_n 0, 1) := by decide +kernel
theorem dL_law_439 : decode cL_law 439 = .ok (.iload_n 3, 1) := by decide +kernel
theorem dL_law_440 : decode cL_law 440 = .ok (.iconst 3, 1) := by decide +kernel
theorem dL_law_441 : decode cL_law 441 = .ok (.iadd, 1) := by decide +kernel
theorem dL_law_442 : decode cL_law 442 = .ok (.iaload, 1) := by decide +kernel
theorem dL_law_443 : decode cL_law 443 = .ok (.invokevirtual 44, 3) := by decide +kernel
theorem dL_law_446 : decode cL_law 446 = .ok (.if_icmp .eq 941, 3) := by decide +kernel
theorem dL_law_449 : decode cL_law 449 = .ok (.iconst 0, 1) := by decide +kernel
theorem dL_law_450 : decode cL_law 450 = .ok (.ireturn, 1) := by decide +kernel
theorem dL_law_451 : decode cL_law 451 = .ok (.aload_n 1, 1) := by decide +kernel
theorem dL_law_452 : decode cL_law 452 = .ok (.aload_n 0, 1) := by decide +kernel
theorem dL_law_453 : decode cL_law 453 = .ok (.iload_n 3, 1) := by decide +kernel
theorem dL_law_454 : decode cL_law 454 = .ok (.iconst 1, 1) := by decide +kernel
theorem dL_law_455 : decode cL_law 455 = .ok (.iadd, 1) := by decide +kernel
theorem dL_law_456 : decode cL_law 456 = .ok (.iaload, 1) := by decide +kernel
theorem dL_law_457 : decode cL_law 457 = .ok (.invokevirtual 45, 3) := by decide +kernel
theorem dL_law_460 : decode cL_law 460 = .ok (.aload_n 2, 1) := by decide +kernel
theorem dL_law_461 : decode cL_law 461 = .ok (.aload_n 0, 1) := by decide +kernel
theorem dL_law_462 : decode cL_law 462 = .ok (.iload_n 3, 1) := by decide +kernel
theorem dL_law_463 : decode cL_law 463 = .ok (.iconst 1, 1) := by decide +kernel
theorem dL_law_464 : decode cL_law 464 = .ok (.iadd, 1) := by decide +kernel
theorem dL_law_465 : decode cL_law 465 = .ok (.iaload, 1) := by decide +kernel
theorem dL_law_466 : decode cL_law 466 = .ok (.invokevirtual 48, 3) := by decide +kernel
theorem dL_law_469 : decode cL_law 469 = .ok (.if_icmp .eq 918, 3) := by decide +kernel
theorem dL_law_472 : decode cL_law 472 = .ok (.iconst 0, 1) := by decide +kernel
theorem dL_law_473 : decode cL_law 473 = .ok (.ireturn, 1) := by decide +kernel
theorem dL_law_474 : decode cL_law 474 = .ok (.aload_n 1, 1) := by decide +kernel
theorem dL_law_475 : decode cL_law 475 = .ok (.invokevirtual 49, 3) := by decide +kernel
theorem dL_law_478 : decode cL_law 478 = .ok (.aload_n 2, 1) := by decide +kernel
theorem dL_law_479 : decode cL_law 479 = .ok (.invokevirtual 53, 3) := by decide +kernel
theorem dL_law_482 : decode cL_law 482 = .ok (.if_icmp .eq 905, 3) := by decide +kernel
theorem dL_law_485 : decode cL_law 485 = .ok (.iconst 0, 1) := by decide +kernel
theorem dL_law_486 : decode cL_law 486 = .ok (.ireturn, 1) := by decide +kernel
theorem dL_law_487 : decode cL_law 487 = .ok (.aload_n 1, 1) := by decide +kernel
theorem dL_law_488 : decode cL_law 488 = .ok (.aload_n 0, 1) := by decide +kernel
theorem dL_law_489 : decode cL_law 489 = .ok (.iload_n 3, 1) := by decide +kernel
theorem dL_law_490 : decode cL_law 490 = .ok (.iconst 1, 1) := by decide +kernel
theorem dL_law_491 : decode cL_law 491 = .ok (.iadd, 1) := by decide +kernel
theorem dL_law_492 : decode cL_law 492 = .ok (.iaload, 1) := by decide +kernel
theorem dL_law_493 : decode cL_law 493 = .ok (.invokevirtual 54, 3) := by decide +kernel
theorem dL_law_496 : decode cL_law 496 = .ok (.aload_n 2, 1) := by decide +kernel
theorem dL_law_497 : decode cL_law 497 = .ok (.aload_n 0, 1) := by decide +kernel
theorem dL_law_498 : decode cL_law 498 = .ok (.iload_n 3, 1) := by decide +kernel
theorem dL_law_499 : decode cL_law 499 = .ok (.iconst 1, 1) := by decide +kernel
theorem dL_law_500 : decode cL_law 500 = .ok (.iadd, 1) := by decide +kernel
theorem dL_law_501 : decode cL_law 501 = .ok (.iaload, 1) := by decide +kernel
theorem dL_law_502 : decode cL_law 502 = .ok (.invokevirtual 57, 3) := by decide +kernel
theorem dL_law_505 : decode cL_law 505 = .ok (.if_icmp .eq 882, 3) := by decide +kernel
theorem dL_law_508 : decode cL_law 508 = .ok (.iconst 0, 1) := by decide +kernel
theorem dL_law_509 : decode cL_law 509 = .ok (.ireturn, 1) := by decide +kernel
theorem dL_law_510 : decode cL_law 510 = .ok (.aload_n 1, 1) := by decide +kernel
theorem dL_law_511 : decode cL_law 511 = .ok (.aload_n 0, 1) := by decide +kernel
theorem dL_law_512 : decode cL_law 512 = .ok (.iload_n 3, 1) := by decide +kernel
theorem dL_law_513 : decode cL_law 513 = .ok (.iconst 1, 1) := by decide +kernel
theorem dL_law_514 : decode cL_law 514 = .ok (.iadd, 1) := by decide +kernel
theorem dL_law_515 : decode cL_law 515 = .ok (.iaload, 1) := by decide +kernel
theorem dL_law_516 : decode cL_law 516 = .ok (.invokevirtual 58, 3) := by decide +kernel
theorem dL_law_519 : decode cL_law 519 = .ok (.aload_n 2, 1) := by decide +kernel
theorem dL_law_520 : decode cL_law 520 = .ok (.aload_n 0, 1) := by decide +kernel
theorem dL_law_521 : decode cL_law 521 = .ok (.iload_n 3, 1) := by decide +kernel
theorem dL_law_522 : decode cL_law 522 = .ok (.iconst 1, 1) := by decide +kernel
theorem dL_law_523 : decode cL_law 523 = .ok (.iadd, 1) := by decide +kernel
theorem dL_law_524 : decode cL_law 524 = .ok (.iaload, 1) := by decide +kernel
theorem dL_law_525 : decode cL_law 525 = .ok (.invokevirtual 61, 3) := by decide +kernel
theorem dL_law_528 : decode cL_law 528 = .ok (.if_icmp .eq 859, 3) := by decide +kernel
theorem dL_law_531 : decode cL_law 531 = .ok (.iconst 0, 1) := by decide +kernel
theorem dL_law_532 : decode cL_law 532 = .ok (.ireturn, 1) := by decide +kernel
theorem dL_law_533 : decode cL_law 533 = .ok (.aload_n 1, 1) := by decide +kernel
theorem dL_law_534 : decode cL_law 534 = .ok (.aload_n 0, 1) := by decide +kernel
theorem dL_law_535 : decode cL_law 535 = .ok (.iload_n 3, 1) := by decide +kernel
theorem dL_law_536 : decode cL_law 536 = .ok (.iconst 1, 1) := by decide +kernel
theorem dL_law_537 : decode cL_law 537 = .ok (.iadd, 1) := by decide +kernel
theorem dL_law_538 : decode cL_law 538 = .ok (.iaload, 1) := by decide +kernel
theorem dL_law_539 : decode cL_law 539 = .ok (.aload_n 0, 1) := by decide +kernel
theorem dL_law_540 : decode cL_law 540 = .ok (.iload_n 3, 1) := by decide +kernel
theorem dL_law_541 : decode cL_law 541 = .ok (.iconst 2, 1) := by decide +kernel
theorem dL_law_542 : decode cL_law 542 = .ok (.iadd, 1) := by decide +kernel
theorem dL_law_543 : decode cL_law 543 = .ok (.iaload, 1) := by decide +kernel
theorem dL_law_544 : decode cL_law 544 = .ok (.invokevirtual 62, 3) := by decide +kernel
theorem dL_law_547 : decode cL_law 547 = .ok (.aload_n 2, 1) := by decide +kernel
theorem dL_law_548 : decode cL_law 548 = .ok (.aload_n 0, 1) := by decide +kernel
theorem dL_law_549 : decode cL_law 549 = .ok (.iload_n 3, 1) := by decide +kernel
theorem dL_law_550 : decode cL_law 550 = .ok (.iconst 1, 1) := by decide +kernel
theorem dL_law_551 : decode cL_law 551 = .ok (.iadd, 1) := by decide +kernel
theorem dL_law_552 : decode cL_law 552 = .ok (.iaload, 1) := by decide +kernel
theorem dL_law_553 : decode cL_law 553 = .ok (.aload_n 0, 1) := by decide +kernel
theorem dL_law_554 : decode cL_law 554 = .ok (.iload_n 3, 1) := by decide +kernel
theorem dL_law_555 : decode cL_law 555 = .ok (.iconst 2, 1) := by decide +kernel
theorem dL_law_556 : decode cL_law 556 = .ok (.iadd, 1) := by decide +kernel
theorem dL_law_557 : decode cL_law 557 = .ok (.iaload, 1) := by decide +kernel
theorem dL_law_558 : decode cL_law 558 = .ok (.invokevirtual 65, 3) := by decide +kernel
theorem dL_law_561 : decode cL_law 561 = .ok (.if_icmp .eq 826, 3) := by decide +kernel
theorem dL_law_564 : decode cL_law 564 = .ok (.iconst 0, 1) := by decide +kernel
theorem dL_law_565 : decode cL_law 565 = .ok (.ireturn, 1) := by decide +kernel
theorem dL_law_566 : decode cL_law 566 = .ok (.aload_n 1, 1) := by decide +kernel
theorem dL_law_567 : decode cL_law 567 = .ok (.aload_n 0, 1) := by decide +kernel
theorem dL_law_568 : decode cL_law 568 = .ok (.iload_n 3, 1) := by decide +kernel
theorem dL_law_569 : decode cL_law 569 = .ok (.iconst 1, 1) := by decide +kernel
theorem dL_law_570 : decode cL_law 570 = .ok (.iadd, 1) := by decide +kernel
theorem dL_law_571 : decode cL_law 571 = .ok (.iaload, 1) := by decide +kernel
theorem dL_law_572 : decode cL_law 572 = .ok (.aload_n 0, 1) := by decide +kernel
theorem dL_law_573 : decode cL_law 573 = .ok (.iload_n 3, 1) := by decide +kernel
theorem dL_law_574 : decode cL_law 574 = .ok (.iconst 2, 1) := by decide +kernel
theorem dL_law_575 : decode cL_law 575 = .ok (.iadd, 1) := by decide +kernel
theorem dL_law_576 : decode cL_law 576 = .ok (.iaload, 1) := by decide +kernel
theorem dL_law_577 : decode cL_law 577 = .ok (.invokevirtual 66, 3) := by decide +kernel
theorem dL_law_580 : decode cL_law 580 = .ok (.aload_n 2, 1) := by decide +kernel
theorem dL_law_581 : decode cL_law 581 = .ok (.aload_n 0, 1) := by decide +kernel
theorem dL_law_582 : decode cL_law 582 = .ok (.iload_n 3, 1) := by decide +kernel
theorem dL_law_583 : decode cL_law 583 = .ok (.iconst 1, 1) := by decide +kernel
theorem dL_law_584 : decode cL_law 584 = .ok (.iadd, 1) := by decide +kernel
theorem dL_law_585 : decode cL_law 585 = .ok (.iaload, 1) := by decide +kernel
theorem dL_law_586 : decode cL_law 586 = .ok (.aload_n 0, 1) := by decide +kernel
theorem dL_law_587 : decode cL_law 587 = .ok (.iload_n 3, 1) := by decide +kernel
theorem dL_law_588 : decode cL_law 588 = .ok (.iconst 2, 1) := by decide +kernel
theorem dL_law_589 : decode cL_law 589 = .ok (.iadd, 1) := by decide +kernel
theorem dL_law_590 : decode cL_law 590 = .ok (.iaload, 1) := by decide +kernel
theorem dL_law_591 : decode cL_law 591 = .ok (.invokevirtual 69, 3) := by decide +kernel
theorem dL_law_594 : decode cL_law 594 = .ok (.if_icmp .eq 793, 3) := by decide +kernel
theorem dL_law_597 : decode cL_law 597 = .ok (.iconst 0, 1) := by decide +kernel
theorem dL_law_598 : decode cL_law 598 = .ok (.ireturn, 1) := by decide +kernel
theorem dL_law_599 : decode cL_law 599 = .ok (.aload_n 1, 1) := by decide +kernel
theorem dL_law_600 : decode cL_law 600 = .ok (.aload_n 0, 1) := by decide +kernel
theorem dL_law_601 : decode cL_law 601 = .ok (.iload_n 3, 1) := by decide +kernel
theorem dL_law_602 : decode cL_law 602 = .ok (.iconst 1, 1) := by decide +kernel
theorem dL_law_603 : decode cL_law 603 = .ok (.iadd, 1) := by decide +kernel
theorem dL_law_604 : decode cL_law 604 = .ok (.iaload, 1) := by decide +kernel
theorem dL_law_605 : decode cL_law 605 = .ok (.invokevirtual 70, 3) := by decide +kernel
theorem dL_law_608 : decode cL_law 608 = .ok (.aload_n 2, 1) := by decide +kernel
theorem dL_law_609 : decode cL_law 609 = .ok (.aload_n 0, 1) := by decide +kernel
theorem dL_law_610 : decode cL_law 610 = .ok (.iload_n 3, 1) := by decide +kernel
theorem dL_law_611 : decode cL_law 611 = .ok (.iconst 1, 1) := by decide +kernel
theorem dL_law_612 : decode cL_law 612 = .ok (.iadd, 1) := by decide +kernel
theorem dL_law_613 : decode cL_law 613 = .ok (.iaload, 1) := by decide +kernel
theorem dL_law_614 : decode cL_law 614 = .ok (.invokevirtual 73, 3) := by decide +kernel
theorem dL_law_617 : decode cL_law 617 = .ok (.if_icmp .eq 770, 3) := by decide +kernel
theorem dL_law_620 : decode cL_law 620 = .ok (.iconst 0, 1) := by decide +kernel
theorem dL_law_621 : decode cL_law 621 = .ok (.ireturn, 1) := by decide +kernel
theorem dL_law_622 : decode cL_law 622 = .ok (.aload_n 1, 1) := by decide +kernel
theorem dL_law_623 : decode cL_law 623 = .ok (.aload_n 0, 1) := by decide +kernel
theorem dL_law_624 : decode cL_law 624 = .ok (.iload_n 3, 1) := by decide +kernel
theorem dL_law_625 : decode cL_law 625 = .ok (.iconst 1, 1) := by decide +kernel
theorem dL_law_626 : decode cL_law 626 = .ok (.iadd, 1) := by decide +kernel
theorem dL_law_627 : decode cL_law 627 = .ok (.iaload, 1) := by decide +kernel
theorem dL_law_628 : decode cL_law 628 = .ok (.invokevirtual 74, 3) := by decide +kernel
theorem dL_law_631 : decode cL_law 631 = .ok (.aload_n 2, 1) := by decide +kernel
theorem dL_law_632 : decode cL_law 632 = .ok (.aload_n 0, 1) := by decide +kernel
theorem dL_law_633 : decode cL_law 633 = .ok (.iload_n 3, 1) := by decide +kernel
theorem dL_law_634 : decode cL_law 634 = .ok (.iconst 1, 1) := by decide +kernel
theorem dL_law_635 : decode cL_law 635 = .ok (.iadd, 1) := by decide +kernel
theorem dL_law_636 : decode cL_law 636 = .ok (.iaload, 1) := by decide +kernel
theorem dL_law_637 : decode cL_law 637 = .ok (.invokevirtual 77, 3) := by decide +kernel
theorem dL_law_640 : decode cL_law 640 = .ok (.if_icmp .eq 747, 3) := by decide +kernel
theorem dL_law_643 : decode cL_law 643 = .ok (.iconst 0, 1) := by decide +kernel
theorem dL_law_644 : decode cL_law 644 = .ok (.ireturn, 1) := by decide +kernel
theorem dL_law_645 : decode cL_law 645 = .ok (.aload_n 1, 1) := by decide +kernel
theorem dL_law_646 : decode cL_law 646 = .ok (.aload_n 0, 1) := by decide +kernel
theorem dL_law_647 : decode cL_law 647 = .ok (.iload_n 3, 1) := by decide +kernel
theorem dL_law_648 : decode cL_law 648 = .ok (.iconst 1, 1) := by decide +kernel
theorem dL_law_649 : decode cL_law 649 = .ok (.iadd, 1) := by decide +kernel
theorem dL_law_650 : decode cL_law 650 = .ok (.iaload, 1) := by decide +kernel
theorem dL_law_651 : decode cL_law 651 = .ok (.invokevirtual 78, 3) := by decide +kernel
theorem dL_law_654 : decode cL_law 654 = .ok (.aload_n 2, 1) := by decide +kernel
theorem dL_law_655 : decode cL_law 655 = .ok (.aload_n 0, 1) := by decide +kernel
theorem dL_law_656 : decode cL_law 656 = .ok (.iload_n 3, 1) := by decide +kernel
theorem dL_law_657 : decode cL_law 657 = .ok (.iconst 1, 1) := by decide +kernel
theorem dL_law_658 : decode cL_law 658 = .ok (.iadd, 1) := by decide +kernel
theorem dL_law_659 : decode cL_law 659 = .ok (.iaload, 1) := by decide +kernel
theorem dL_law_660 : decode cL_law 660 = .ok (.invokevirtual 81, 3) := by decide +kernel
theorem dL_law_663 : decode cL_law 663 = .ok (.if_icmp .eq 724, 3) := by decide +kernel
theorem dL_law_666 : decode cL_law 666 = .ok (.iconst 0, 1) := by decide +kernel
theorem dL_law_667 : decode cL_law 667 = .ok (.ireturn, 1) := by decide +kernel
theorem dL_law_668 : decode cL_law 668 = .ok (.aload_n 1, 1) := by decide +kernel
theorem dL_law_669 : decode cL_law 669 = .ok (.aload_n 0, 1) := by decide +kernel
theorem dL_law_670 : decode cL_law 670 = .ok (.iload_n 3, 1) := by decide +kernel
theorem dL_law_671 : decode cL_law 671 = .ok (.iconst 1, 1) := by decide +kernel
theorem dL_law_672 : decode cL_law 672 = .ok (.iadd, 1) := by decide +kernel
theorem dL_law_673 : decode cL_law 673 = .ok (.iaload, 1) := by decide +kernel
theorem dL_law_674 : decode cL_law 674 = .ok (.invokevirtual 82, 3) := by decide +kernel
theorem dL_law_677 : decode cL_law 677 = .ok (.aload_n 2, 1) := by decide +kernel
theorem dL_law_678 : decode cL_law 678 = .ok (.aload_n 0, 1) := by decide +kernel
theorem dL_law_679 : decode cL_law 679 = .ok (.iload_n 3, 1) := by decide +kernel
theorem dL_law_680 : decode cL_law 680 = .ok (.iconst 1, 1) := by decide +kernel
theorem dL_law_681 : decode cL_law 681 = .ok (.iadd, 1) := by decide +kernel
theorem dL_law_682 : decode cL_law 682 = .ok (.iaload, 1) := by decide +kernel
theorem dL_law_683 : decode cL_law 683 = .ok (.invokevirtual 85, 3) := by decide +kernel
theorem dL_law_686 : decode cL_law 686 = .ok (.if_icmp .eq 701, 3) := by decide +kernel
theorem dL_law_689 : decode cL_law 689 = .ok (.iconst 0, 1) := by decide +kernel
theorem dL_law_690 : decode cL_law 690 = .ok (.ireturn, 1) := by decide +kernel
theorem dL_law_691 : decode cL_law 691 = .ok (.aload_n 1, 1) := by decide +kernel
theorem dL_law_692 : decode cL_law 692 = .ok (.aload_n 0, 1) := by decide +kernel
theorem dL_law_693 : decode cL_law 693 = .ok (.iload_n 3, 1) := by decide +kernel
theorem dL_law_694 : decode cL_law 694 = .ok (.iconst 1, 1) := by decide +kernel
theorem dL_law_695 : decode cL_law 695 = .ok (.iadd, 1) := by decide +kernel
theorem dL_law_696 : decode cL_law 696 = .ok (.iaload, 1) := by decide +kernel
theorem dL_law_697 : decode cL_law 697 = .ok (.aload_n 0, 1) := by decide +kernel
theorem dL_law_698 : decode cL_law 698 = .ok (.iload_n 3, 1) := by decide +kernel
theorem dL_law_699 : decode cL_law 699 = .ok (.iconst 2, 1) := by decide +kernel
theorem dL_law_700 : decode cL_law 700 = .ok (.iadd, 1) := by decide +kernel
theorem dL_law_701 : decode cL_law 701 = .ok (.iaload, 1) := by decide +kernel
theorem dL_law_702 : decode cL_law 702 = .ok (.aload_n 0, 1) := by decide +kernel
theorem dL_law_703 : decode cL_law 703 = .ok (.iload_n 3, 1) := by decide +kernel
theorem dL_law_704 : decode cL_law 704 = .ok (.iconst 3, 1) := by decide +kernel
theorem dL_law_705 : decode cL_law 705 = .ok (.iadd, 1) := by decide +kernel
theorem dL_law_706 : decode cL_law 706 = .ok (.iaload, 1) := by decide +kernel
theorem dL_law_707 : decode cL_law 707 = .ok (.invokevirtual 86, 3) := by decide +kernel
theorem dL_law_710 : decode cL_law 710 = .ok (.aload_n 2, 1) := by decide +kernel
theorem dL_law_711 : decode cL_law 711 = .ok (.aload_n 0, 1) := by decide +kernel
theorem dL_law_712 : decode cL_law 712 = .ok (.iload_n 3, 1) := by decide +kernel
theorem dL_law_713 : decode cL_law 713 = .ok (.iconst 1, 1) := by decide +kernel
theorem dL_law_714 : decode cL_law 714 = .ok (.iadd, 1) := by decide +kernel
theorem dL_law_715 : decode cL_law 715 = .ok (.iaload, 1) := by decide +kernel
theorem dL_law_716 : decode cL_law 716 = .ok (.aload_n 0, 1) := by decide +kernel
theorem dL_law_717 : decode cL_law 717 = .ok (.iload_n 3, 1) := by decide +kernel
theorem dL_law_718 : decode cL_law 718 = .ok (.iconst 2, 1) := by decide +kernel
theorem dL_law_719 : decode cL_law 719 = .ok (.iadd, 1) := by decide +kernel
theorem dL_law_720 : decode cL_law 720 = .ok (.iaload, 1) := by decide +kernel
theorem dL_law_721 : decode cL_law 721 = .ok (.aload_n 0, 1) := by decide +kernel
theorem dL_law_722 : decode cL_law 722 = .ok (.iload_n 3, 1) := by decide +kernel
theorem dL_law_723 : decode cL_law 723 = .ok (.iconst 3, 1) := by decide +kernel
theorem dL_law_724 : decode cL_law 724 = .ok (.iadd, 1) := by decide +kernel
theorem dL_law_725 : decode cL_law 725 = .ok (.iaload, 1) := by decide +kernel
theorem dL_law_726 : decode cL_law 726 = .ok (.invokevirtual 89, 3) := by decide +kernel
theorem dL_law_729 : decode cL_law 729 = .ok (.if_icmp .eq 658, 3) := by decide +kernel
theorem dL_law_732 : decode cL_law 732 = .ok (.iconst 0, 1) := by decide +kernel
theorem dL_law_733 : decode cL_law 733 = .ok (.ireturn, 1) := by decide +kernel
theorem dL_law_734 : decode cL_law 734 = .ok (.aload_n 1, 1) := by decide +kernel
theorem dL_law_735 : decode cL_law 735 = .ok (.aload_n 0, 1) := by decide +kernel
theorem dL_law_736 : decode cL_law 736 = .ok (.iload_n 3, 1) := by decide +kernel
theorem dL_law_737 : decode cL_law 737 = .ok (.iconst 1, 1) := by decide +kernel
theorem dL_law_738 : decode cL_law 738 = .ok (.iadd, 1) := by decide +kernel
theorem dL_law_739 : decode cL_law 739 = .ok (.iaload, 1) := by decide +kernel
theorem dL_law_740 : decode cL_law 740 = .ok (.aload_n 0, 1) := by decide +kernel
theorem dL_law_741 : decode cL_law 741 = .ok (.iload_n 3, 1) := by decide +kernel
theorem dL_law_742 : decode cL_law 742 = .ok (.iconst 2, 1) := by decide +kernel
theorem dL_law_743 : decode cL_law 743 = .ok (.iadd, 1) := by decide +kernel
theorem dL_law_744 : decode cL_law 744 = .ok (.iaload, 1) := by decide +kernel
theorem dL_law_745 : decode cL_law 745 = .ok (.invokevirtual 90, 3) := by decide +kernel
theorem dL_law_748 : decode cL_law 748 = .ok (.aload_n 2, 1) := by decide +kernel
theorem dL_law_749 : decode cL_law 749 = .ok (.aload_n 0, 1) := by decide +kernel
theorem dL_law_750 : decode cL_law 750 = .ok (.iload_n 3, 1) := by decide +kernel
theorem dL_law_751 : decode cL_law 751 = .ok (.iconst 1, 1) := by decide +kernel
theorem dL_law_752 : decode cL_law 752 = .ok (.iadd, 1) := by decide +kernel
theorem dL_law_753 : decode cL_law 753 = .ok (.iaload, 1) := by decide +kernel
theorem dL_law_754 : decode cL_law 754 = .ok (.aload_n 0, 1) := by decide +kernel
theorem dL_law_755 : decode cL_law 755 = .ok (.iload_n 3, 1) := by decide +kernel
theorem dL_law_756 : decode cL_law 756 = .ok (.iconst 2, 1) := by decide +kernel
theorem dL_law_757 : decode cL_law 757 = .ok (.iadd, 1) := by decide +kernel
theorem dL_law_758 : decode cL_law 758 = .ok (.iaload, 1) := by decide +kernel
theorem dL_law_759 : decode cL_law 759 = .ok (.invokevirtual 93, 3) := by decide +kernel
theorem dL_law_762 : decode cL_law 762 = .ok (.if_icmp .eq 625, 3) := by decide +kernel
theorem dL_law_765 : decode cL_law 765 = .ok (.iconst 0, 1) := by decide +kernel
theorem dL_law_766 : decode cL_law 766 = .ok (.ireturn, 1) := by decide +kernel
theorem dL_law_767 : decode cL_law 767 = .ok (.aload_n 1, 1) := by decide +kernel
theorem dL_law_768 : decode cL_law 768 = .ok (.aload_n 0, 1) := by decide +kernel
theorem dL_law_769 : decode cL_law 769 = .ok (.iload_n 3, 1) := by decide +kernel
theorem dL_law_770 : decode cL_law 770 = .ok (.iconst 1, 1) := by decide +kernel
theorem dL_law_771 : decode cL_law 771 = .ok (.iadd, 1) := by decide +kernel
theorem dL_law_772 : decode cL_law 772 = .ok (.iaload, 1) := by decide +kernel
theorem dL_law_773 : decode cL_law 773 = .ok (.aload_n 0, 1) := by decide +kernel
theorem dL_law_774 : decode cL_law 774 = .ok (.iload_n 3, 1) := by decide +kernel
theorem dL_law_775 : decode cL_law 775 = .ok (.iconst 2, 1) := by decide +kernel
theorem dL_law_776 : decode cL_law 776 = .ok (.iadd, 1) := by decide +kernel
theorem dL_law_777 : decode cL_law 777 = .ok (.iaload, 1) := by decide +kernel
theorem dL_law_778 : decode cL_law 778 = .ok (.invokevirtual 94, 3) := by decide +kernel
theorem dL_law_781 : decode cL_law 781 = .ok (.aload_n 2, 1) := by decide +kernel
theorem dL_law_782 : decode cL_law 782 = .ok (.aload_n 0, 1) := by decide +kernel
theorem dL_law_783 : decode cL_law 783 = .ok (.iload_n 3, 1) := by decide +kernel
theorem dL_law_784 : decode cL_law 784 = .ok (.iconst 1, 1) := by decide +kernel
theorem dL_law_785 : decode cL_law 785 = .ok (.iadd, 1) := by decide +kernel
theorem dL_law_786 : decode cL_law 786 = .ok (.iaload, 1) := by decide +kernel
theorem dL_law_787 : decode cL_law 787 = .ok (.aload_n 0, 1) := by decide +kernel
theorem dL_law_788 : decode cL_law 788 = .ok (.iload_n 3, 1) := by decide +kernel
theorem dL_law_789 : decode cL_law 789 = .ok (.iconst 2, 1) := by decide +kernel
theorem dL_law_790 : decode cL_law 790 = .ok (.iadd, 1) := by decide +kernel
theorem dL_law_791 : decode cL_law 791 = .ok (.iaload, 1) := by decide +kernel
theorem dL_law_792 : decode cL_law 792 = .ok (.invokevirtual 97, 3) := by decide +kernel
theorem dL_law_795 : decode cL_law 795 = .ok (.if_icmp .eq 592, 3) := by decide +kernel
theorem dL_law_798 : decode cL_law 798 = .ok (.iconst 0, 1) := by decide +kernel
theorem dL_law_799 : decode cL_law 799 = .ok (.ireturn, 1) := by decide +kernel
theorem dL_law_800 : decode cL_law 800 = .ok (.aload_n 1, 1) := by decide +kernel
theorem dL_law_801 : decode cL_law 801 = .ok (.aload_n 0, 1) := by decide +kernel
theorem dL_law_802 : decode cL_law 802 = .ok (.iload_n 3, 1) := by decide +kernel
theorem dL_law_803 : decode cL_law 803 = .ok (.iconst 1, 1) := by decide +kernel
theorem dL_law_804 : decode cL_law 804 = .ok (.iadd, 1) := by decide +kernel
theorem dL_law_805 : decode cL_law 805 = .ok (.iaload, 1) := by decide +kernel
theorem dL_law_806 : decode cL_law 806 = .ok (.invokevirtual 98, 3) := by decide +kernel
theorem dL_law_809 : decode cL_law 809 = .ok (.aload_n 2, 1) := by decide +kernel
theorem dL_law_810 : decode cL_law 810 = .ok (.aload_n 0, 1) := by decide +kernel
theorem dL_law_811 : decode cL_law 811 = .ok (.iload_n 3, 1) := by decide +kernel
theorem dL_law_812 : decode cL_law 812 = .ok (.iconst 1, 1) := by decide +kernel
theorem dL_law_813 : decode cL_law 813 = .ok (.iadd, 1) := by decide +kernel
theorem dL_law_814 : decode cL_law 814 = .ok (.iaload, 1) := by decide +kernel
theorem dL_law_815 : decode cL_law 815 = .ok (.invokevirtual 101, 3) := by decide +kernel
theorem dL_law_818 : decode cL_law 818 = .ok (.if_icmp .eq 569, 3) := by decide +kernel
theorem dL_law_821 : decode cL_law 821 = .ok (.iconst 0, 1) := by decide +kernel
theorem dL_law_822 : decode cL_law 822 = .ok (.ireturn, 1) := by decide +kernel
theorem dL_law_823 : decode cL_law 823 = .ok (.aload_n 1, 1) := by decide +kernel
theorem dL_law_824 : decode cL_law 824 = .ok (.aload_n 0, 1) := by decide +kernel
theorem dL_law_825 : decode cL_law 825 = .ok (.iload_n 3, 1) := by decide +kernel
theorem dL_law_826 : decode cL_law 826 = .ok (.iconst 1, 1) := by decide +kernel
theorem dL_law_827 : decode cL_law 827 = .ok (.iadd, 1) := by decide +kernel
theorem dL_law_828 : decode cL_law 828 = .ok (.iaload, 1) := by decide +kernel
theorem dL_law_829 : decode cL_law 829 = .ok (.aload_n 0, 1) := by decide +kernel
theorem dL_law_830 : decode cL_law 830 = .ok (.iload_n 3, 1) := by decide +kernel
theorem dL_law_831 : decode cL_law 831 = .ok (.iconst 2, 1) := by decide +kernel
theorem dL_law_832 : decode cL_law 832 = .ok (.iadd, 1) := by decide +kernel
theorem dL_law_833 : decode cL_law 833 = .ok (.iaload, 1) := by decide +kernel
theorem dL_law_834 : decode cL_law 834 = .ok (.invokevirtual 102, 3) := by decide +kernel
theorem dL_law_837 : decode cL_law 837 = .ok (.aload_n 2, 1) := by decide +kernel
theorem dL_law_838 : decode cL_law 838 = .ok (.aload_n 0, 1) := by decide +kernel
theorem dL_law_839 : decode cL_law 839 = .ok (.iload_n 3, 1) := by decide +kernel
theorem dL_law_840 : decode cL_law 840 = .ok (.iconst 1, 1) := by decide +kernel
theorem dL_law_841 : decode cL_law 841 = .ok (.iadd, 1) := by decide +kernel
theorem dL_law_842 : decode cL_law 842 = .ok (.iaload, 1) := by decide +kernel
theorem dL_law_843 : decode cL_law 843 = .ok (.aload_n 0, 1) := by decide +kernel
theorem dL_law_844 : decode cL_law 844 = .ok (.iload_n 3, 1) := by decide +kernel
theorem dL_law_845 : decode cL_law 845 = .ok (.iconst 2, 1) := by decide +kernel
theorem dL_law_846 : decode cL_law 846 = .ok (.iadd, 1) := by decide +kernel
theorem dL_law_847 : decode cL_law 847 = .ok (.iaload, 1) := by decide +kernel
theorem dL_law_848 : decode cL_law 848 = .ok (.invokevirtual 106, 3) := by decide +kernel
theorem dL_law_851 : decode cL_law 851 = .ok (.lcmp, 1) := by decide +kernel
theorem dL_law_852 : decode cL_law 852 = .ok (.ifCond .eq 535, 3) := by decide +kernel
theorem dL_law_855 : decode cL_law 855 = .ok (.iconst 0, 1) := by decide +kernel
theorem dL_law_856 : decode cL_law 856 = .ok (.ireturn, 1) := by decide +kernel
theorem dL_law_857 : decode cL_law 857 = .ok (.aload_n 1, 1) := by decide +kernel
theorem dL_law_858 : decode cL_law 858 = .ok (.aload_n 0, 1) := by decide +kernel
theorem dL_law_859 : decode cL_law 859 = .ok (.iload_n 3, 1) := by decide +kernel
theorem dL_law_860 : decode cL_law 860 = .ok (.iconst 1, 1) := by decide +kernel
theorem dL_law_861 : decode cL_law 861 = .ok (.iadd, 1) := by decide +kernel
theorem dL_law_862 : decode cL_law 862 = .ok (.iaload, 1) := by decide +kernel
theorem dL_law_863 : decode cL_law 863 = .ok (.aload_n 0, 1) := by decide +kernel
theorem dL_law_864 : decode cL_law 864 = .ok (.iload_n 3, 1) := by decide +kernel
theorem dL_law_865 : decode cL_law 865 = .ok (.iconst 2, 1) := by decide +kernel
theorem dL_law_866 : decode cL_law 866 = .ok (.iadd, 1) := by decide +kernel
theorem dL_law_867 : decode cL_law 867 = .ok (.iaload, 1) := by decide +kernel
theorem dL_law_868 : decode cL_law 868 = .ok (.invokevirtual 107, 3) := by decide +kernel
theorem dL_law_871 : decode cL_law 871 = .ok (.aload_n 2, 1) := by decide +kernel
theorem dL_law_872 : decode cL_law 872 = .ok (.aload_n 0, 1) := by decide +kernel
theorem dL_law_873 : decode cL_law 873 = .ok (.iload_n 3, 1) := by decide +kernel
theorem dL_law_874 : decode cL_law 874 = .ok (.iconst 1, 1) := by decide +kernel
theorem dL_law_875 : decode cL_law 875 = .ok (.iadd, 1) := by decide +kernel
theorem dL_law_876 : decode cL_law 876 = .ok (.iaload, 1) := by decide +kernel
theorem dL_law_877 : decode cL_law 877 = .ok (.aload_n 0, 1) := by decide +kernel
theorem dL_law_878 : decode cL_law 878 = .ok (.iload_n 3, 1) := by decide +kernel
theorem dL_law_879 : decode cL_law 879 = .ok (.iconst 2, 1) := by decide +kernel
theorem dL_law_880 : decode cL_law 880 = .ok (.iadd, 1) := by decide +kernel
theorem dL_law_881 : decode cL_law 881 = .ok (.iaload, 1) := by decide +kernel
theorem dL_law_882 : decode cL_law 882 = .ok (.invokevirtual 110, 3) := by decide +kernel
theorem dL_law_885 : decode cL_law 885 = .ok (.lcmp, 1) := by decide +kernel
theorem dL_law_886 : decode cL_law 886 = .ok (.ifCond .eq 501, 3) := by decide +kernel
theorem dL_law_889 : decode cL_law 889 = .ok (.iconst 0, 1) := by decide +kernel
theorem dL_law_890 : decode cL_law 890 = .ok (.ireturn, 1) := by decide +kernel
theorem dL_law_891 : decode cL_law 891 = .ok (.aload_n 1, 1) := by decide +kernel
theorem dL_law_892 : decode cL_law 892 = .ok (.aload_n 0, 1) := by decide +kernel
theorem dL_law_893 : decode cL_law 893 = .ok (.iload_n 3, 1) := by decide +kernel
theorem dL_law_894 : decode cL_law 894 = .ok (.iconst 1, 1) := by decide +kernel
theorem dL_law_895 : decode cL_law 895 = .ok (.iadd, 1) := by decide +kernel
theorem dL_law_896 : decode cL_law 896 = .ok (.iaload, 1) := by decide +kernel
theorem dL_law_897 : decode cL_law 897 = .ok (.aload_n 0, 1) := by decide +kernel
theorem dL_law_898 : decode cL_law 898 = .ok (.iload_n 3, 1) := by decide +kernel
theorem dL_law_899 : decode cL_law 899 = .ok (.iconst 2, 1) := by decide +kernel
theorem dL_law_900 : decode cL_law 900 = .ok (.iadd, 1) := by decide +kernel
theorem dL_law_901 : decode cL_law 901 = .ok (.iaload, 1) := by decide +kernel
theorem dL_law_902 : decode cL_law 902 = .ok (.invokevirtual 111, 3) := by decide +kernel
theorem dL_law_905 : decode cL_law 905 = .ok (.aload_n 2, 1) := by decide +kernel
theorem dL_law_906 : decode cL_law 906 = .ok (.aload_n 0, 1) := by decide +kernel
theorem dL_law_907 : decode cL_law 907 = .ok (.iload_n 3, 1) := by decide +kernel
theorem dL_law_908 : decode cL_law 908 = .ok (.iconst 1, 1) := by decide +kernel
theorem dL_law_909 : decode cL_law 909 = .ok (.iadd, 1) := by decide +kernel
theorem dL_law_910 : decode cL_law 910 = .ok (.iaload, 1) := by decide +kernel
theorem dL_law_911 : decode cL_law 911 = .ok (.aload_n 0, 1) := by decide +kernel
theorem dL_law_912 : decode cL_law 912 = .ok (.iload_n 3, 1) := by decide +kernel
theorem dL_law_913 : decode cL_law 913 = .ok (.iconst 2, 1) := by decide +kernel
theorem dL_law_914 : decode cL_law 914 = .ok (.iadd, 1) := by decide +kernel
theorem dL_law_915 : decode cL_law 915 = .ok (.iaload, 1) := by decide +kernel
theorem dL_law_916 : decode cL_law 916 = .ok (.invokevirtual 114, 3) := by decide +kernel
theorem dL_law_919 : decode cL_law 919 = .ok (.if_icmp .eq 468, 3) := by decide +kernel
theorem dL_law_922 : decode cL_law 922 = .ok (.iconst 0, 1) := by decide +kernel
theorem dL_law_923 : decode cL_law 923 = .ok (.ireturn, 1) := by decide +kernel
theorem dL_law_924 : decode cL_law 924 = .ok (.aload_n 1, 1) := by decide +kernel
theorem dL_law_925 : decode cL_law 925 = .ok (.aload_n 0, 1) := by decide +kernel
theorem dL_law_926 : decode cL_law 926 = .ok (.iload_n 3, 1) := by decide +kernel
theorem dL_law_927 : decode cL_law 927 = .ok (.iconst 1, 1) := by decide +kernel
theorem dL_law_928 : decode cL_law 928 = .ok (.iadd, 1) := by decide +kernel
theorem dL_law_929 : decode cL_law 929 = .ok (.iaload, 1) := by decide +kernel
theorem dL_law_930 : decode cL_law 930 = .ok (.invokevirtual 115, 3) := by decide +kernel
theorem dL_law_933 : decode cL_law 933 = .ok (.aload_n 2, 1) := by decide +kernel
theorem dL_law_934 : decode cL_law 934 = .ok (.aload_n 0, 1) := by decide +kernel
theorem dL_law_935 : decode cL_law 935 = .ok (.iload_n 3, 1) := by decide +kernel
theorem dL_law_936 : decode cL_law 936 = .ok (.iconst 1, 1) := by decide +kernel
theorem dL_law_937 : decode cL_law 937 = .ok (.iadd, 1) := by decide +kernel
theorem dL_law_938 : decode cL_law 938 = .ok (.iaload, 1) := by decide +kernel
theorem dL_law_939 : decode cL_law 939 = .ok (.invokevirtual 118, 3) := by decide +kernel
theorem dL_law_942 : decode cL_law 942 = .ok (.if_icmp .eq 445, 3) := by decide +kernel
theorem dL_law_945 : decode cL_law 945 = .ok (.iconst 0, 1) := by decide +kernel
theorem dL_law_946 : decode cL_law 946 = .ok (.ireturn, 1) := by decide +kernel
theorem dL_law_947 : decode cL_law 947 = .ok (.aload_n 1, 1) := by decide +kernel
theorem dL_law_948 : decode cL_law 948 = .ok (.aload_n 0, 1) := by decide +kernel
theorem dL_law_949 : decode cL_law 949 = .ok (.iload_n 3, 1) := by decide +kernel
theorem dL_law_950 : decode cL_law 950 = .ok (.iconst 1, 1) := by decide +kernel
theorem dL_law_951 : decode cL_law 951 = .ok (.iadd, 1) := by decide +kernel
theorem dL_law_952 : decode cL_law 952 = .ok (.iaload, 1) := by decide +kernel
theorem dL_law_953 : decode cL_law 953 = .ok (.aload_n 0, 1) := by decide +kernel
theorem dL_law_954 : decode cL_law 954 = .ok (.iload_n 3, 1) := by decide +kernel
theorem dL_law_955 : decode cL_law 955 = .ok (.iconst 2, 1) := by decide +kernel
theorem dL_law_956 : decode cL_law 956 = .ok (.iadd, 1) := by decide +kernel
theorem dL_law_957 : decode cL_law 957 = .ok (.iaload, 1) := by decide +kernel
theorem dL_law_958 : decode cL_law 958 = .ok (.invokevirtual 119, 3) := by decide +kernel
theorem dL_law_961 : decode cL_law 961 = .ok (.aload_n 2, 1) := by decide +kernel
theorem dL_law_962 : decode cL_law 962 = .ok (.aload_n 0, 1) := by decide +kernel
theorem dL_law_963 : decode cL_law 963 = .ok (.iload_n 3, 1) := by decide +kernel
theorem dL_law_964 : decode cL_law 964 = .ok (.iconst 1, 1) := by decide +kernel
theorem dL_law_965 : decode cL_law 965 = .ok (.iadd, 1) := by decide +kernel
theorem dL_law_966 : decode cL_law 966 = .ok (.iaload, 1) := by decide +kernel
theorem dL_law_967 : decode cL_law 967 = .ok (.aload_n 0, 1) := by decide +kernel
theorem dL_law_968 : decode cL_law 968 = .ok (.iload_n 3, 1) := by decide +kernel
theorem dL_law_969 : decode cL_law 969 = .ok (.iconst 2, 1) := by decide +kernel
theorem dL_law_970 : decode cL_law 970 = .ok (.iadd, 1) := by decide +kernel
theorem dL_law_971 : decode cL_law 971 = .ok (.iaload, 1) := by decide +kernel
theorem dL_law_972 : decode cL_law 972 = .ok (.invokevirtual 122, 3) := by decide +kernel
theorem dL_law_975 : decode cL_law 975 = .ok (.if_icmp .eq 412, 3) := by decide +kernel
theorem dL_law_978 : decode cL_law 978 = .ok (.iconst 0, 1) := by decide +kernel
theorem dL_law_979 : decode cL_law 979 = .ok (.ireturn, 1) := by decide +kernel
theorem dL_law_980 : decode cL_law 980 = .ok (.aload_n 1, 1) := by decide +kernel
theorem dL_law_981 : decode cL_law 981 = .ok (.invokevirtual 123, 3) := by decide +kernel
theorem dL_law_984 : decode cL_law 984 = .ok (.aload_n 2, 1) := by decide +kernel
theorem dL_law_985 : decode cL_law 985 = .ok (.invokevirtual 126, 3) := by decide +kernel
theorem dL_law_988 : decode cL_law 988 = .ok (.if_icmp .eq 399, 3) := by decide +kernel
theorem dL_law_991 : decode cL_law 991 = .ok (.iconst 0, 1) := by decide +kernel
theorem dL_law_992 : decode cL_law 992 = .ok (.ireturn, 1) := by decide +kernel
theorem dL_law_993 : decode cL_law 993 = .ok (.aload_n 1, 1) := by decide +kernel
theorem dL_law_994 : decode cL_law 994 = .ok (.aload_n 0, 1) := by decide +kernel
theorem dL_law_995 : decode cL_law 995 = .ok (.iload_n 3, 1) := by decide +kernel
theorem dL_law_996 : decode cL_law 996 = .ok (.iconst 1, 1) := by decide +kernel
theorem dL_law_997 : decode cL_law 997 = .ok (.iadd, 1) := by decide +kernel
theorem dL_law_998 : decode cL_law 998 = .ok (.iaload, 1) := by decide +kernel
theorem dL_law_999 : decode cL_law 999 = .ok (.aload_n 0, 1) := by decide +kernel
theorem dL_law_1000 : decode cL_law 1000 = .ok (.iload_n 3, 1) := by decide +kernel
theorem dL_law_1001 : decode cL_law 1001 = .ok (.iconst 2, 1) := by decide +kernel
theorem dL_law_1002 : decode cL_law 1002 = .ok (.iadd, 1) := by decide +kernel
theorem dL_law_1003 : decode cL_law 1003 = .ok (.iaload, 1) := by decide +kernel
theorem dL_law_1004 : decode cL_law 1004 = .ok (.invokevirtual 127, 3) := by decide +kernel
theorem dL_law_1007 : decode cL_law 1007 = .ok (.aload_n 2, 1) := by decide +kernel
theorem dL_law_1008 : decode cL_law 1008 = .ok (.aload_n 0, 1) := by decide +kernel
theorem dL_law_1009 : decode cL_law 1009 = .ok (.iload_n 3, 1) := by decide +kernel
theorem dL_law_1010 : decode cL_law 1010 = .ok (.iconst 1, 1) := by decide +kernel
theorem dL_law_1011 : decode cL_law 1011 = .ok (.iadd, 1) := by decide +kernel
theorem dL_law_1012 : decode cL_law 1012 = .ok (.iaload, 1) := by decide +kernel
theorem dL_law_1013 : decode cL_law 1013 = .ok (.aload_n 0, 1) := by decide +kernel
theorem dL_law_1014 : decode cL_law 1014 = .ok (.iload_n 3, 1) := by decide +kernel
theorem dL_law_1015 : decode cL_law 1015 = .ok (.iconst 2, 1) := by decide +kernel
theorem dL_law_1016 : decode cL_law 1016 = .ok (.iadd, 1) := by decide +kernel
theorem dL_law_1017 : decode cL_law 1017 = .ok (.iaload, 1) := by decide +kernel
theorem dL_law_1018 : decode cL_law 1018 = .ok (.invokevirtual 130, 3) := by decide +kernel
theorem dL_law_1021 : decode cL_law 1021 = .ok (.if_icmp .eq 366, 3) := by decide +kernel
theorem dL_law_1024 : decode cL_law 1024 = .ok (.iconst 0, 1) := by decide +kernel
theorem dL_law_1025 : decode cL_law 1025 = .ok (.ireturn, 1) := by decide +kernel
theorem dL_law_1026 : decode cL_law 1026 = .ok (.aload_n 1, 1) := by decide +kernel
theorem dL_law_1027 : decode cL_law 1027 = .ok (.invokevirtual 131, 3) := by decide +kernel
theorem dL_law_1030 : decode cL_law 1030 = .ok (.aload_n 2, 1) := by decide +kernel
theorem dL_law_1031 : decode cL_law 1031 = .ok (.invokevirtual 134, 3) := by decide +kernel
theorem dL_law_1034 : decode cL_law 1034 = .ok (.if_icmp .eq 353, 3) := by decide +kernel
theorem dL_law_1037 : decode cL_law 1037 = .ok (.iconst 0, 1) := by decide +kernel
theorem dL_law_1038 : decode cL_law 1038 = .ok (.ireturn, 1) := by decide +kernel
theorem dL_law_1039 : decode cL_law 1039 = .ok (.aload_n 1, 1) := by decide +kernel
theorem dL_law_1040 : decode cL_law 1040 = .ok (.invokevirtual 135, 3) := by decide +kernel
theorem dL_law_1043 : decode cL_law 1043 = .ok (.aload_n 2, 1) := by decide +kernel
theorem dL_law_1044 : decode cL_law 1044 = .ok (.invokevirtual 138, 3) := by decide +kernel
theorem dL_law_1047 : decode cL_law 1047 = .ok (.if_icmp .eq 340, 3) := by decide +kernel
theorem dL_law_1050 : decode cL_law 1050 = .ok (.iconst 0, 1) := by decide +kernel
theorem dL_law_1051 : decode cL_law 1051 = .ok (.ireturn, 1) := by decide +kernel
theorem dL_law_1052 : decode cL_law 1052 = .ok (.aload_n 1, 1) := by decide +kernel
theorem dL_law_1053 : decode cL_law 1053 = .ok (.aload_n 0, 1) := by decide +kernel
theorem dL_law_1054 : decode cL_law 1054 = .ok (.iload_n 3, 1) := by decide +kernel
theorem dL_law_1055 : decode cL_law 1055 = .ok (.iconst 1, 1) := by decide +kernel
theorem dL_law_1056 : decode cL_law 1056 = .ok (.iadd, 1) := by decide +kernel
theorem dL_law_1057 : decode cL_law 1057 = .ok (.iaload, 1) := by decide +kernel
theorem dL_law_1058 : decode cL_law 1058 = .ok (.aload_n 0, 1) := by decide +kernel
theorem dL_law_1059 : decode cL_law 1059 = .ok (.iload_n 3, 1) := by decide +kernel
theorem dL_law_1060 : decode cL_law 1060 = .ok (.iconst 2, 1) := by decide +kernel
theorem dL_law_1061 : decode cL_law 1061 = .ok (.iadd, 1) := by decide +kernel
theorem dL_law_1062 : decode cL_law 1062 = .ok (.iaload, 1) := by decide +kernel
theorem dL_law_1063 : decode cL_law 1063 = .ok (.aload_n 0, 1) := by decide +kernel
theorem dL_law_1064 : decode cL_law 1064 = .ok (.iload_n 3, 1) := by decide +kernel
theorem dL_law_1065 : decode cL_law 1065 = .ok (.iconst 3, 1) := by decide +kernel
theorem dL_law_1066 : decode cL_law 1066 = .ok (.iadd, 1) := by decide +kernel
theorem dL_law_1067 : decode cL_law 1067 = .ok (.iaload, 1) := by decide +kernel
theorem dL_law_1068 : decode cL_law 1068 = .ok (.invokevirtual 139, 3) := by decide +kernel
theorem dL_law_1071 : decode cL_law 1071 = .ok (.aload_n 2, 1) := by decide +kernel
theorem dL_law_1072 : decode cL_law 1072 = .ok (.aload_n 0, 1) := by decide +kernel
theorem dL_law_1073 : decode cL_law 1073 = .ok (.iload_n 3, 1) := by decide +kernel
theorem dL_law_1074 : decode cL_law 1074 = .ok (.iconst 1, 1) := by decide +kernel
theorem dL_law_1075 : decode cL_law 1075 = .ok (.iadd, 1) := by decide +kernel
theorem dL_law_1076 : decode cL_law 1076 = .ok (.iaload, 1) := by decide +kernel
theorem dL_law_1077 : decode cL_law 1077 = .ok (.aload_n 0, 1) := by decide +kernel
theorem dL_law_1078 : decode cL_law 1078 = .ok (.iload_n 3, 1) := by decide +kernel
theorem dL_law_1079 : decode cL_law 1079 = .ok (.iconst 2, 1) := by decide +kernel
theorem dL_law_1080 : decode cL_law 1080 = .ok (.iadd, 1) := by decide +kernel
theorem dL_law_1081 : decode cL_law 1081 = .ok (.iaload, 1) := by decide +kernel
theorem dL_law_1082 : decode cL_law 1082 = .ok (.aload_n 0, 1) := by decide +kernel
theorem dL_law_1083 : decode cL_law 1083 = .ok (.iload_n 3, 1) := by decide +kernel
theorem dL_law_1084 : decode cL_law 1084 = .ok (.iconst 3, 1) := by decide +kernel
theorem dL_law_1085 : decode cL_law 1085 = .ok (.iadd, 1) := by decide +kernel
theorem dL_law_1086 : decode cL_law 1086 = .ok (.iaload, 1) := by decide +kernel
theorem dL_law_1087 : decode cL_law 1087 = .ok (.invokevirtual 142, 3) := by decide +kernel
theorem dL_law_1090 : decode cL_law 1090 = .ok (.if_icmp .eq 297, 3) := by decide +kernel
theorem dL_law_1093 : decode cL_law 1093 = .ok (.iconst 0, 1) := by decide +kernel
theorem dL_law_1094 : decode cL_law 1094 = .ok (.ireturn, 1) := by decide +kernel
theorem dL_law_1095 : decode cL_law 1095 = .ok (.aload_n 1, 1) := by decide +kernel
theorem dL_law_1096 : decode cL_law 1096 = .ok (.aload_n 0, 1) := by decide +kernel
theorem dL_law_1097 : decode cL_law 1097 = .ok (.iload_n 3, 1) := by decide +kernel
theorem dL_law_1098 : decode cL_law 1098 = .ok (.iconst 1, 1) := by decide +kernel
theorem dL_law_1099 : decode cL_law 1099 = .ok (.iadd, 1) := by decide +kernel
theorem dL_law_1100 : decode cL_law 1100 = .ok (.iaload, 1) := by decide +kernel
theorem dL_law_1101 : decode cL_law 1101 = .ok (.invokevirtual 143, 3) := by decide +kernel
theorem dL_law_1104 : decode cL_law 1104 = .ok (.aload_n 2, 1) := by decide +kernel
theorem dL_law_1105 : decode cL_law 1105 = .ok (.aload_n 0, 1) := by decide +kernel
theorem dL_law_1106 : decode cL_law 1106 = .ok (.iload_n 3, 1) := by decide +kernel
theorem dL_law_1107 : decode cL_law 1107 = .ok (.iconst 1, 1) := by decide +kernel
theorem dL_law_1108 : decode cL_law 1108 = .ok (.iadd, 1) := by decide +kernel
theorem dL_law_1109 : decode cL_law 1109 = .ok (.iaload, 1) := by decide +kernel
theorem dL_law_1110 : decode cL_law 1110 = .ok (.invokevirtual 146, 3) := by decide +kernel
theorem dL_law_1113 : decode cL_law 1113 = .ok (.if_icmp .eq 274, 3) := by decide +kernel
theorem dL_law_1116 : decode cL_law 1116 = .ok (.iconst 0, 1) := by decide +kernel
theorem dL_law_1117 : decode cL_law 1117 = .ok (.ireturn, 1) := by decide +kernel
theorem dL_law_1118 : decode cL_law 1118 = .ok (.aload_n 1, 1) := by decide +kernel
theorem dL_law_1119 : decode cL_law 1119 = .ok (.aload_n 0, 1) := by decide +kernel
theorem dL_law_1120 : decode cL_law 1120 = .ok (.iload_n 3, 1) := by decide +kernel
theorem dL_law_1121 : decode cL_law 1121 = .ok (.iconst 1, 1) := by decide +kernel
theorem dL_law_1122 : decode cL_law 1122 = .ok (.iadd, 1) := by decide +kernel
theorem dL_law_1123 : decode cL_law 1123 = .ok (.iaload, 1) := by decide +kernel
theorem dL_law_1124 : decode cL_law 1124 = .ok (.aload_n 0, 1) := by decide +kernel
theorem dL_law_1125 : decode cL_law 1125 = .ok (.iload_n 3, 1) := by decide +kernel
theorem dL_law_1126 : decode cL_law 1126 = .ok (.iconst 2, 1) := by decide +kernel
theorem dL_law_1127 : decode cL_law 1127 = .ok (.iadd, 1) := by decide +kernel
theorem dL_law_1128 : decode cL_law 1128 = .ok (.iaload, 1) := by decide +kernel
theorem dL_law_1129 : decode cL_law 1129 = .ok (.invokevirtual 147, 3) := by decide +kernel
theorem dL_law_1132 : decode cL_law 1132 = .ok (.aload_n 2, 1) := by decide +kernel
theorem dL_law_1133 : decode cL_law 1133 = .ok (.aload_n 0, 1) := by decide +kernel
theorem dL_law_1134 : decode cL_law 1134 = .ok (.iload_n 3, 1) := by decide +kernel
theorem dL_law_1135 : decode cL_law 1135 = .ok (.iconst 1, 1) := by decide +kernel
theorem dL_law_1136 : decode cL_law 1136 = .ok (.iadd, 1) := by decide +kernel
theorem dL_law_1137 : decode cL_law 1137 = .ok (.iaload, 1) := by decide +kernel
theorem dL_law_1138 : decode cL_law 1138 = .ok (.aload_n 0, 1) := by decide +kernel
theorem dL_law_1139 : decode cL_law 1139 = .ok (.iload_n 3, 1) := by decide +kernel
theorem dL_law_1140 : decode cL_law 1140 = .ok (.iconst 2, 1) := by decide +kernel
theorem dL_law_1141 : decode cL_law 1141 = .ok (.iadd, 1) := by decide +kernel
theorem dL_law_1142 : decode cL_law 1142 = .ok (.iaload, 1) := by decide +kernel
theorem dL_law_1143 : decode cL_law 1143 = .ok (.invokevirtual 150, 3) := by decide +kernel
theorem dL_law_1146 : decode cL_law 1146 = .ok (.if_icmp .eq 241, 3) := by decide +kernel
theorem dL_law_1149 : decode cL_law 1149 = .ok (.iconst 0, 1) := by decide +kernel
theorem dL_law_1150 : decode cL_law 1150 = .ok (.ireturn, 1) := by decide +kernel
theorem dL_law_1151 : decode cL_law 1151 = .ok (.aload_n 1, 1) := by decide +kernel
theorem dL_law_1152 : decode cL_law 1152 = .ok (.aload_n 0, 1) := by decide +kernel
theorem dL_law_1153 : decode cL_law 1153 = .ok (.iload_n 3, 1) := by decide +kernel
theorem dL_law_1154 : decode cL_law 1154 = .ok (.iconst 1, 1) := by decide +kernel
theorem dL_law_1155 : decode cL_law 1155 = .ok (.iadd, 1) := by decide +kernel
theorem dL_law_1156 : decode cL_law 1156 = .ok (.iaload, 1) := by decide +kernel
theorem dL_law_1157 : decode cL_law 1157 = .ok (.invokevirtual 151, 3) := by decide +kernel
theorem dL_law_1160 : decode cL_law 1160 = .ok (.aload_n 2, 1) := by decide +kernel
theorem dL_law_1161 : decode cL_law 1161 = .ok (.aload_n 0, 1) := by decide +kernel
theorem dL_law_1162 : decode cL_law 1162 = .ok (.iload_n 3, 1) := by decide +kernel
theorem dL_law_1163 : decode cL_law 1163 = .ok (.iconst 1, 1) := by decide +kernel
theorem dL_law_1164 : decode cL_law 1164 = .ok (.iadd, 1) := by decide +kernel
theorem dL_law_1165 : decode cL_law 1165 = .ok (.iaload, 1) := by decide +kernel
theorem dL_law_1166 : decode cL_law 1166 = .ok (.invokevirtual 154, 3) := by decide +kernel
theorem dL_law_1169 : decode cL_law 1169 = .ok (.if_icmp .eq 218, 3) := by decide +kernel
theorem dL_law_1172 : decode cL_law 1172 = .ok (.iconst 0, 1) := by decide +kernel
theorem dL_law_1173 : decode cL_law 1173 = .ok (.ireturn, 1) := by decide +kernel
theorem dL_law_1174 : decode cL_law 1174 = .ok (.aload_n 1, 1) := by decide +kernel
theorem dL_law_1175 : decode cL_law 1175 = .ok (.aload_n 0, 1) := by decide +kernel
theorem dL_law_1176 : decode cL_law 1176 = .ok (.iload_n 3, 1) := by decide +kernel
theorem dL_law_1177 : decode cL_law 1177 = .ok (.iconst 1, 1) := by decide +kernel
theorem dL_law_1178 : decode cL_law 1178 = .ok (.iadd, 1) := by decide +kernel
theorem dL_law_1179 : decode cL_law 1179 = .ok (.iaload, 1) := by decide +kernel
theorem dL_law_1180 : decode cL_law 1180 = .ok (.aload_n 0, 1) := by decide +kernel
theorem dL_law_1181 : decode cL_law 1181 = .ok (.iload_n 3, 1) := by decide +kernel
theorem dL_law_1182 : decode cL_law 1182 = .ok (.iconst 2, 1) := by decide +kernel
theorem dL_law_1183 : decode cL_law 1183 = .ok (.iadd, 1) := by decide +kernel
theorem dL_law_1184 : decode cL_law 1184 = .ok (.iaload, 1) := by decide +kernel
theorem dL_law_1185 : decode cL_law 1185 = .ok (.aload_n 0, 1) := by decide +kernel
theorem dL_law_1186 : decode cL_law 1186 = .ok (.iload_n 3, 1) := by decide +kernel
theorem dL_law_1187 : decode cL_law 1187 = .ok (.iconst 3, 1) := by decide +kernel
theorem dL_law_1188 : decode cL_law 1188 = .ok (.iadd, 1) := by decide +kernel
theorem dL_law_1189 : decode cL_law 1189 = .ok (.iaload, 1) := by decide +kernel
theorem dL_law_1190 : decode cL_law 1190 = .ok (.invokevirtual 155, 3) := by decide +kernel
theorem dL_law_1193 : decode cL_law 1193 = .ok (.aload_n 2, 1) := by decide +kernel
theorem dL_law_1194 : decode cL_law 1194 = .ok (.aload_n 0, 1) := by decide +kernel
theorem dL_law_1195 : decode cL_law 1195 = .ok (.iload_n 3, 1) := by decide +kernel
theorem dL_law_1196 : decode cL_law 1196 = .ok (.iconst 1, 1) := by decide +kernel
theorem dL_law_1197 : decode cL_law 1197 = .ok (.iadd, 1) := by decide +kernel
theorem dL_law_1198 : decode cL_law 1198 = .ok (.iaload, 1) := by decide +kernel
theorem dL_law_1199 : decode cL_law 1199 = .ok (.aload_n 0, 1) := by decide +kernel
theorem dL_law_1200 : decode cL_law 1200 = .ok (.iload_n 3, 1) := by decide +kernel
theorem dL_law_1201 : decode cL_law 1201 = .ok (.iconst 2, 1) := by decide +kernel
theorem dL_law_1202 : decode cL_law 1202 = .ok (.iadd, 1) := by decide +kernel
theorem dL_law_1203 : decode cL_law 1203 = .ok (.iaload, 1) := by decide +kernel
theorem dL_law_1204 : decode cL_law 1204 = .ok (.aload_n 0, 1) := by decide +kernel
theorem dL_law_1205 : decode cL_law 1205 = .ok (.iload_n 3, 1) := by decide +kernel
theorem dL_law_1206 : decode cL_law 1206 = .ok (.iconst 3, 1) := by decide +kernel
theorem dL_law_1207 : decode cL_law 1207 = .ok (.iadd, 1) := by decide +kernel
theorem dL_law_1208 : decode cL_law 1208 = .ok (.iaload, 1) := by decide +kernel
theorem dL_law_1209 : decode cL_law 1209 = .ok (.invokevirtual 158, 3) := by decide +kernel
theorem dL_law_1212 : decode cL_law 1212 = .ok (.if_icmp .eq 175, 3) := by decide +kernel
theorem dL_law_1215 : decode cL_law 1215 = .ok (.iconst 0, 1) := by decide +kernel
theorem dL_law_1216 : decode cL_law 1216 = .ok (.ireturn, 1) := by decide +kernel
theorem dL_law_1217 : decode cL_law 1217 = .ok (.aload_n 1, 1) := by decide +kernel
theorem dL_law_1218 : decode cL_law 1218 = .ok (.aload_n 0, 1) := by decide +kernel
theorem dL_law_1219 : decode cL_law 1219 = .ok (.iload_n 3, 1) := by decide +kernel
theorem dL_law_1220 : decode cL_law 1220 = .ok (.iconst 1, 1) := by decide +kernel
theorem dL_law_1221 : decode cL_law 1221 = .ok (.iadd, 1) := by decide +kernel
theorem dL_law_1222 : decode cL_law 1222 = .ok (.iaload, 1) := by decide +kernel
theorem dL_law_1223 : decode cL_law 1223 = .ok (.aload_n 0, 1) := by decide +kernel
theorem dL_law_1224 : decode cL_law 1224 = .ok (.iload_n 3, 1) := by decide +kernel
theorem dL_law_1225 : decode cL_law 1225 = .ok (.iconst 2, 1) := by decide +kernel
theorem dL_law_1226 : decode cL_law 1226 = .ok (.iadd, 1) := by decide +kernel
theorem dL_law_1227 : decode cL_law 1227 = .ok (.iaload, 1) := by decide +kernel
theorem dL_law_1228 : decode cL_law 1228 = .ok (.aload_n 0, 1) := by decide +kernel
theorem dL_law_1229 : decode cL_law 1229 = .ok (.iload_n 3, 1) := by decide +kernel
theorem dL_law_1230 : decode cL_law 1230 = .ok (.iconst 3, 1) := by decide +kernel
theorem dL_law_1231 : decode cL_law 1231 = .ok (.iadd, 1) := by decide +kernel
theorem dL_law_1232 : decode cL_law 1232 = .ok (.iaload, 1) := by decide +kernel
theorem dL_law_1233 : decode cL_law 1233 = .ok (.i2l, 1) := by decide +kernel
theorem dL_law_1234 : decode cL_law 1234 = .ok (.bipush 32, 2) := by decide +kernel
theorem dL_law_1236 : decode cL_law 1236 = .ok (.lshl, 1) := by decide +kernel
theorem dL_law_1237 : decode cL_law 1237 = .ok (.aload_n 0, 1) := by decide +kernel
theorem dL_law_1238 : decode cL_law 1238 = .ok (.iload_n 3, 1) := by decide +kernel
theorem dL_law_1239 : decode cL_law 1239 = .ok (.iconst 4, 1) := by decide +kernel
theorem dL_law_1240 : decode cL_law 1240 = .ok (.iadd, 1) := by decide +kernel
theorem dL_law_1241 : decode cL_law 1241 = .ok (.iaload, 1) := by decide +kernel
theorem dL_law_1242 : decode cL_law 1242 = .ok (.i2l, 1) := by decide +kernel
theorem dL_law_1243 : decode cL_law 1243 = .ok (.ldc2_w 159, 3) := by decide +kernel
theorem dL_law_1246 : decode cL_law 1246 = .ok (.land, 1) := by decide +kernel
theorem dL_law_1247 : decode cL_law 1247 = .ok (.lor, 1) := by decide +kernel
theorem dL_law_1248 : decode cL_law 1248 = .ok (.invokevirtual 161, 3) := by decide +kernel
theorem dL_law_1251 : decode cL_law 1251 = .ok (.aload_n 2, 1) := by decide +kernel
theorem dL_law_1252 : decode cL_law 1252 = .ok (.aload_n 0, 1) := by decide +kernel
theorem dL_law_1253 : decode cL_law 1253 = .ok (.iload_n 3, 1) := by decide +kernel
theorem dL_law_1254 : decode cL_law 1254 = .ok (.iconst 1, 1) := by decide +kernel
theorem dL_law_1255 : decode cL_law 1255 = .ok (.iadd, 1) := by decide +kernel
theorem dL_law_1256 : decode cL_law 1256 = .ok (.iaload, 1) := by decide +kernel
theorem dL_law_1257 : decode cL_law 1257 = .ok (.aload_n 0, 1) := by decide +kernel
theorem dL_law_1258 : decode cL_law 1258 = .ok (.iload_n 3, 1) := by decide +kernel
theorem dL_law_1259 : decode cL_law 1259 = .ok (.iconst 2, 1) := by decide +kernel
theorem dL_law_1260 : decode cL_law 1260 = .ok (.iadd, 1) := by decide +kernel
theorem dL_law_1261 : decode cL_law 1261 = .ok (.iaload, 1) := by decide +kernel
theorem dL_law_1262 : decode cL_law 1262 = .ok (.aload_n 0, 1) := by decide +kernel
theorem dL_law_1263 : decode cL_law 1263 = .ok (.iload_n 3, 1) := by decide +kernel
theorem dL_law_1264 : decode cL_law 1264 = .ok (.iconst 3, 1) := by decide +kernel
theorem dL_law_1265 : decode cL_law 1265 = .ok (.iadd, 1) := by decide +kernel
theorem dL_law_1266 : decode cL_law 1266 = .ok (.iaload, 1) := by decide +kernel
theorem dL_law_1267 : decode cL_law 1267 = .ok (.i2l, 1) := by decide +kernel
theorem dL_law_1268 : decode cL_law 1268 = .ok (.bipush 32, 2) := by decide +kernel
theorem dL_law_1270 : decode cL_law 1270 = .ok (.lshl, 1) := by decide +kernel
theorem dL_law_1271 : decode cL_law 1271 = .ok (.aload_n 0, 1) := by decide +kernel
theorem dL_law_1272 : decode cL_law 1272 = .ok (.iload_n 3, 1) := by decide +kernel
theorem dL_law_1273 : decode cL_law 1273 = .ok (.iconst 4, 1) := by decide +kernel
theorem dL_law_1274 : decode cL_law 1274 = .ok (.iadd, 1) := by decide +kernel
theorem dL_law_1275 : decode cL_law 1275 = .ok (.iaload, 1) := by decide +kernel
theorem dL_law_1276 : decode cL_law 1276 = .ok (.i2l, 1) := by decide +kernel
theorem dL_law_1277 : decode cL_law 1277 = .ok (.ldc2_w 159, 3) := by decide +kernel
theorem dL_law_1280 : decode cL_law 1280 = .ok (.land, 1) := by decide +kernel
theorem dL_law_1281 : decode cL_law 1281 = .ok (.lor, 1) := by decide +kernel
theorem dL_law_1282 : decode cL_law 1282 = .ok (.invokevirtual 165, 3) := by decide +kernel
theorem dL_law_1285 : decode cL_law 1285 = .ok (.if_icmp .eq 102, 3) := by decide +kernel
theorem dL_law_1288 : decode cL_law 1288 = .ok (.iconst 0, 1) := by decide +kernel
theorem dL_law_1289 : decode cL_law 1289 = .ok (.ireturn, 1) := by decide +kernel
theorem dL_law_1290 : decode cL_law 1290 = .ok (.aload_n 1, 1) := by decide +kernel
theorem dL_law_1291 : decode cL_law 1291 = .ok (.aload_n 0, 1) := by decide +kernel
theorem dL_law_1292 : decode cL_law 1292 = .ok (.iload_n 3, 1) := by decide +kernel
theorem dL_law_1293 : decode cL_law 1293 = .ok (.iconst 1, 1) := by decide +kernel
theorem dL_law_1294 : decode cL_law 1294 = .ok (.iadd, 1) := by decide +kernel
theorem dL_law_1295 : decode cL_law 1295 = .ok (.iaload, 1) := by decide +kernel
theorem dL_law_1296 : decode cL_law 1296 = .ok (.aload_n 0, 1) := by decide +kernel
theorem dL_law_1297 : decode cL_law 1297 = .ok (.iload_n 3, 1) := by decide +kernel
theorem dL_law_1298 : decode cL_law 1298 = .ok (.iconst 2, 1) := by decide +kernel
theorem dL_law_1299 : decode cL_law 1299 = .ok (.iadd, 1) := by decide +kernel
theorem dL_law_1300 : decode cL_law 1300 = .ok (.iaload, 1) := by decide +kernel
theorem dL_law_1301 : decode cL_law 1301 = .ok (.invokevirtual 166, 3) := by decide +kernel
theorem dL_law_1304 : decode cL_law 1304 = .ok (.aload_n 2, 1) := by decide +kernel
theorem dL_law_1305 : decode cL_law 1305 = .ok (.aload_n 0, 1) := by decide +kernel
theorem dL_law_1306 : decode cL_law 1306 = .ok (.iload_n 3, 1) := by decide +kernel
theorem dL_law_1307 : decode cL_law 1307 = .ok (.iconst 1, 1) := by decide +kernel
theorem dL_law_1308 : decode cL_law 1308 = .ok (.iadd, 1) := by decide +kernel
theorem dL_law_1309 : decode cL_law 1309 = .ok (.iaload, 1) := by decide +kernel
theorem dL_law_1310 : decode cL_law 1310 = .ok (.aload_n 0, 1) := by decide +kernel
theorem dL_law_1311 : decode cL_law 1311 = .ok (.iload_n 3, 1) := by decide +kernel
theorem dL_law_1312 : decode cL_law 1312 = .ok (.iconst 2, 1) := by decide +kernel
theorem dL_law_1313 : decode cL_law 1313 = .ok (.iadd, 1) := by decide +kernel
theorem dL_law_1314 : decode cL_law 1314 = .ok (.iaload, 1) := by decide +kernel
theorem dL_law_1315 : decode cL_law 1315 = .ok (.invokevirtual 169, 3) := by decide +kernel
theorem dL_law_1318 : decode cL_law 1318 = .ok (.lcmp, 1) := by decide +kernel
theorem dL_law_1319 : decode cL_law 1319 = .ok (.ifCond .eq 68, 3) := by decide +kernel
theorem dL_law_1322 : decode cL_law 1322 = .ok (.iconst 0, 1) := by decide +kernel
theorem dL_law_1323 : decode cL_law 1323 = .ok (.ireturn, 1) := by decide +kernel
theorem dL_law_1324 : decode cL_law 1324 = .ok (.aload_n 1, 1) := by decide +kernel
theorem dL_law_1325 : decode cL_law 1325 = .ok (.aload_n 0, 1) := by decide +kernel
theorem dL_law_1326 : decode cL_law 1326 = .ok (.iload_n 3, 1) := by decide +kernel
theorem dL_law_1327 : decode cL_law 1327 = .ok (.iconst 1, 1) := by decide +kernel
theorem dL_law_1328 : decode cL_law 1328 = .ok (.iadd, 1) := by decide +kernel
theorem dL_law_1329 : decode cL_law 1329 = .ok (.iaload, 1) := by decide +kernel
theorem dL_law_1330 : decode cL_law 1330 = .ok (.aload_n 0, 1) := by decide +kernel
theorem dL_law_1331 : decode cL_law 1331 = .ok (.iload_n 3, 1) := by decide +kernel
theorem dL_law_1332 : decode cL_law 1332 = .ok (.iconst 2, 1) := by decide +kernel
theorem dL_law_1333 : decode cL_law 1333 = .ok (.iadd, 1) := by decide +kernel
theorem dL_law_1334 : decode cL_law 1334 = .ok (.iaload, 1) := by decide +kernel
theorem dL_law_1335 : decode cL_law 1335 = .ok (.aload_n 0, 1) := by decide +kernel
theorem dL_law_1336 : decode cL_law 1336 = .ok (.iload_n 3, 1) := by decide +kernel
theorem dL_law_1337 : decode cL_law 1337 = .ok (.iconst 3, 1) := by decide +kernel
theorem dL_law_1338 : decode cL_law 1338 = .ok (.iadd, 1) := by decide +kernel
theorem dL_law_1339 : decode cL_law 1339 = .ok (.iaload, 1) := by decide +kernel
theorem dL_law_1340 : decode cL_law 1340 = .ok (.aload_n 0, 1) := by decide +kernel
theorem dL_law_1341 : decode cL_law 1341 = .ok (.iload_n 3, 1) := by decide +kernel
theorem dL_law_1342 : decode cL_law 1342 = .ok (.iconst 4, 1) := by decide +kernel
theorem dL_law_1343 : decode cL_law 1343 = .ok (.iadd, 1) := by decide +kernel
theorem dL_law_1344 : decode cL_law 1344 = .ok (.iaload, 1) := by decide +kernel
theorem dL_law_1345 : decode cL_law 1345 = .ok (.aload_n 0, 1) := by decide +kernel
theorem dL_law_1346 : decode cL_law 1346 = .ok (.iload_n 3, 1) := by decide +kernel
theorem dL_law_1347 : decode cL_law 1347 = .ok (.iconst 5, 1) := by decide +kernel
theorem dL_law_1348 : decode cL_law 1348 = .ok (.iadd, 1) := by decide +kernel
theorem dL_law_1349 : decode cL_law 1349 = .ok (.iaload, 1) := by decide +kernel
theorem dL_law_1350 : decode cL_law 1350 = .ok (.invokevirtual 170, 3) := by decide +kernel
theorem dL_law_1353 : decode cL_law 1353 = .ok (.aload_n 2, 1) := by decide +kernel
theorem dL_law_1354 : decode cL_law 1354 = .ok (.aload_n 0, 1) := by decide +kernel
theorem dL_law_1355 : decode cL_law 1355 = .ok (.iload_n 3, 1) := by decide +kernel
theorem dL_law_1356 : decode cL_law 1356 = .ok (.iconst 1, 1) := by decide +kernel
theorem dL_law_1357 : decode cL_law 1357 = .ok (.iadd, 1) := by decide +kernel
theorem dL_law_1358 : decode cL_law 1358 = .ok (.iaload, 1) := by decide +kernel
theorem dL_law_1359 : decode cL_law 1359 = .ok (.aload_n 0, 1) := by decide +kernel
theorem dL_law_1360 : decode cL_law 1360 = .ok (.iload_n 3, 1) := by decide +kernel
theorem dL_law_1361 : decode cL_law 1361 = .ok (.iconst 2, 1) := by decide +kernel
theorem dL_law_1362 : decode cL_law 1362 = .ok (.iadd, 1) := by decide +kernel
theorem dL_law_1363 : decode cL_law 1363 = .ok (.iaload, 1) := by decide +kernel
theorem dL_law_1364 : decode cL_law 1364 = .ok (.aload_n 0, 1) := by decide +kernel
theorem dL_law_1365 : decode cL_law 1365 = .ok (.iload_n 3, 1) := by decide +kernel
theorem dL_law_1366 : decode cL_law 1366 = .ok (.iconst 3, 1) := by decide +kernel
theorem dL_law_1367 : decode cL_law 1367 = .ok (.iadd, 1) := by decide +kernel
theorem dL_law_1368 : decode cL_law 1368 = .ok (.iaload, 1) := by decide +kernel
theorem dL_law_1369 : decode cL_law 1369 = .ok (.aload_n 0, 1) := by decide +kernel
theorem dL_law_1370 : decode cL_law 1370 = .ok (.iload_n 3, 1) := by decide +kernel
theorem dL_law_1371 : decode cL_law 1371 = .ok (.iconst 4, 1) := by decide +kernel
theorem dL_law_1372 : decode cL_law 1372 = .ok (.iadd, 1) := by decide +kernel
theorem dL_law_1373 : decode cL_law 1373 = .ok (.iaload, 1) := by decide +kernel
theorem dL_law_1374 : decode cL_law 1374 = .ok (.aload_n 0, 1) := by decide +kernel
theorem dL_law_1375 : decode cL_law 1375 = .ok (.iload_n 3, 1) := by decide +kernel
theorem dL_law_1376 : decode cL_law 1376 = .ok (.iconst 5, 1) := by decide +kernel
theorem dL_law_1377 : decode cL_law 1377 = .ok (.iadd, 1) := by decide +kernel
theorem dL_law_1378 : decode cL_law 1378 = .ok (.iaload, 1) := by decide +kernel
theorem dL_law_1379 : decode cL_law 1379 = .ok (.invokevirtual 174, 3) := by decide +kernel
theorem dL_law_1382 : decode cL_law 1382 = .ok (.if_icmp .eq 5, 3) := by decide +kernel
theorem dL_law_1385 : decode cL_law 1385 = .ok (.iconst 0, 1) := by decide +kernel
theorem dL_law_1386 : decode cL_law 1386 = .ok (.ireturn, 1) := by decide +kernel
theorem dL_law_1387 : decode cL_law 1387 = .ok (.iinc 3 6, 3) := by decide +kernel
theorem dL_law_1390 : decode cL_law 1390 = .ok (.goto (-1372), 3) := by decide +kernel
theorem dL_law_1393 : decode cL_law 1393 = .ok (.iconst 1, 1) := by decide +kernel
theorem dL_law_1394 : decode cL_law 1394 = .ok (.ireturn, 1) := by decide +kernel
theorem dJ0_length_8abf5_0 : decode cJ0_length_8abf5 0 = .ok (.aload_n 0, 1) := by decide +kernel
theorem dJ0_length_8abf5_1 : decode cJ0_length_8abf5 1 = .ok (.getfield 9, 3) := by decide +kernel
theorem dJ0_length_8abf5_4 : decode cJ0_length_8abf5 4 = .ok (.arraylength, 1) := by decide +kernel
theorem dJ0_length_8abf5_5 : decode cJ0_length_8abf5 5 = .ok (.aload_n 0, 1) := by decide +kernel
theorem dJ0_length_8abf5_6 : decode cJ0_length_8abf5 6 = .ok (.invokevirtual 335, 3) := by decide +kernel
theorem dJ0_length_8abf5_9 : decode cJ0_length_8abf5 9 = .ok (.ishr, 1) := by decide +kernel
theorem dJ0_length_8abf5_10 : decode cJ0_length_8abf5 10 = .ok (.ireturn, 1) := by decide +kernel
theorem dJ0_charAt_5068e_0 : decode cJ0_charAt_5068e 0 = .ok (.aload_n 0, 1) := by decide +kernel
theorem dJ0_charAt_5068e_1 : decode cJ0_charAt_5068e 1 = .ok (.invokevirtual 492, 3) := by decide +kernel
theorem dJ0_charAt_5068e_4 : decode cJ0_charAt_5068e 4 = .ok (.ifCond .eq 12, 3) := by decide +kernel
theorem dJ0_charAt_5068e_7 : decode cJ0_charAt_5068e 7 = .ok (.aload_n 0, 1) := by decide +kernel
theorem dJ0_charAt_5068e_8 : decode cJ0_charAt_5068e 8 = .ok (.getfield 9, 3) := by decide +kernel
theorem dJ0_charAt_5068e_11 : decode cJ0_charAt_5068e 11 = .ok (.iload_n 1, 1) := by decide +kernel
theorem dJ0_charAt_5068e_12 : decode cJ0_charAt_5068e 12 = .ok (.invokestatic 495, 3) := by decide +kernel
theorem dJ0_charAt_5068e_15 : decode cJ0_charAt_5068e 15 = .ok (.ireturn, 1) := by decide +kernel
theorem dJ0_charAt_5068e_16 : decode cJ0_charAt_5068e 16 = .ok (.aload_n 0, 1) := by decide +kernel
theorem dJ0_charAt_5068e_17 : decode cJ0_charAt_5068e 17 = .ok (.getfield 9, 3) := by decide +kernel
theorem dJ0_charAt_5068e_20 : decode cJ0_charAt_5068e 20 = .ok (.iload_n 1, 1) := by decide +kernel
theorem dJ0_charAt_5068e_21 : decode cJ0_charAt_5068e 21 = .ok (.invokestatic 498, 3) := by decide +kernel
theorem dJ0_charAt_5068e_24 : decode cJ0_charAt_5068e 24 = .ok (.ireturn, 1) := by decide +kernel
theorem dJ0_indexOf_0f7a4_0 : decode cJ0_indexOf_0f7a4 0 = .ok (.aload_n 0, 1) := by decide +kernel
theorem dJ0_indexOf_0f7a4_1 : decode cJ0_indexOf_0f7a4 1 = .ok (.iload_n 1, 1) := by decide +kernel
theorem dJ0_indexOf_0f7a4_2 : decode cJ0_indexOf_0f7a4 2 = .ok (.iconst 0, 1) := by decide +kernel
theorem dJ0_indexOf_0f7a4_3 : decode cJ0_indexOf_0f7a4 3 = .ok (.invokevirtual 633, 3) := by decide +kernel
theorem dJ0_indexOf_0f7a4_6 : decode cJ0_indexOf_0f7a4 6 = .ok (.ireturn, 1) := by decide +kernel
theorem dJ0_indexOf_7cf53_0 : decode cJ0_indexOf_7cf53 0 = .ok (.aload_n 0, 1) := by decide +kernel
theorem dJ0_indexOf_7cf53_1 : decode cJ0_indexOf_7cf53 1 = .ok (.invokevirtual 492, 3) := by decide +kernel
theorem dJ0_indexOf_7cf53_4 : decode cJ0_indexOf_7cf53 4 = .ok (.ifCond .eq 19, 3) := by decide +kernel
theorem dJ0_indexOf_7cf53_7 : decode cJ0_indexOf_7cf53 7 = .ok (.aload_n 0, 1) := by decide +kernel
theorem dJ0_indexOf_7cf53_8 : decode cJ0_indexOf_7cf53 8 = .ok (.getfield 9, 3) := by decide +kernel
theorem dJ0_indexOf_7cf53_11 : decode cJ0_indexOf_7cf53 11 = .ok (.iload_n 1, 1) := by decide +kernel
theorem dJ0_indexOf_7cf53_12 : decode cJ0_indexOf_7cf53 12 = .ok (.iload_n 2, 1) := by decide +kernel
theorem dJ0_indexOf_7cf53_13 : decode cJ0_indexOf_7cf53 13 = .ok (.aload_n 0, 1) := by decide +kernel
theorem dJ0_indexOf_7cf53_14 : decode cJ0_indexOf_7cf53 14 = .ok (.invokevirtual 505, 3) := by decide +kernel
theorem dJ0_indexOf_7cf53_17 : decode cJ0_indexOf_7cf53 17 = .ok (.invokestatic 637, 3) := by decide +kernel
theorem dJ0_indexOf_7cf53_20 : decode cJ0_indexOf_7cf53 20 = .ok (.goto 16, 3) := by decide +kernel
theorem dJ0_indexOf_7cf53_23 : decode cJ0_indexOf_7cf53 23 = .ok (.aload_n 0, 1) := by decide +kernel
theorem dJ0_indexOf_7cf53_24 : decode cJ0_indexOf_7cf53 24 = .ok (.getfield 9, 3) := by decide +kernel
theorem dJ0_indexOf_7cf53_27 : decode cJ0_indexOf_7cf53 27 = .ok (.iload_n 1, 1) := by decide +kernel
theorem dJ0_indexOf_7cf53_28 : decode cJ0_indexOf_7cf53 28 = .ok (.iload_n 2, 1) := by decide +kernel
theorem dJ0_indexOf_7cf53_29 : decode cJ0_indexOf_7cf53 29 = .ok (.aload_n 0, 1) := by decide +kernel
theorem dJ0_indexOf_7cf53_30 : decode cJ0_indexOf_7cf53 30 = .ok (.invokevirtual 505, 3) := by decide +kernel
theorem dJ0_indexOf_7cf53_33 : decode cJ0_indexOf_7cf53 33 = .ok (.invokestatic 640, 3) := by decide +kernel
theorem dJ0_indexOf_7cf53_36 : decode cJ0_indexOf_7cf53 36 = .ok (.ireturn, 1) := by decide +kernel
theorem dJ0_coder_7d493_0 : decode cJ0_coder_7d493 0 = .ok (.getstatic 38, 3) := by decide +kernel
theorem dJ0_coder_7d493_3 : decode cJ0_coder_7d493 3 = .ok (.ifCond .eq 10, 3) := by decide +kernel
theorem dJ0_coder_7d493_6 : decode cJ0_coder_7d493 6 = .ok (.aload_n 0, 1) := by decide +kernel
theorem dJ0_coder_7d493_7 : decode cJ0_coder_7d493 7 = .ok (.getfield 15, 3) := by decide +kernel
theorem dJ0_coder_7d493_10 : decode cJ0_coder_7d493 10 = .ok (.goto 4, 3) := by decide +kernel
theorem dJ0_coder_7d493_13 : decode cJ0_coder_7d493 13 = .ok (.iconst 1, 1) := by decide +kernel
theorem dJ0_coder_7d493_14 : decode cJ0_coder_7d493 14 = .ok (.ireturn, 1) := by decide +kernel
theorem dJ0_isLatin1_aae02_0 : decode cJ0_isLatin1_aae02 0 = .ok (.getstatic 38, 3) := by decide +kernel
theorem dJ0_isLatin1_aae02_3 : decode cJ0_isLatin1_aae02 3 = .ok (.ifCond .eq 14, 3) := by decide +kernel
theorem dJ0_isLatin1_aae02_6 : decode cJ0_isLatin1_aae02 6 = .ok (.aload_n 0, 1) := by decide +kernel
theorem dJ0_isLatin1_aae02_7 : decode cJ0_isLatin1_aae02 7 = .ok (.getfield 15, 3) := by decide +kernel
theorem dJ0_isLatin1_aae02_10 : decode cJ0_isLatin1_aae02 10 = .ok (.ifCond .ne 7, 3) := by decide +kernel
theorem dJ0_isLatin1_aae02_13 : decode cJ0_isLatin1_aae02 13 = .ok (.iconst 1, 1) := by decide +kernel
theorem dJ0_isLatin1_aae02_14 : decode cJ0_isLatin1_aae02 14 = .ok (.goto 4, 3) := by decide +kernel
theorem dJ0_isLatin1_aae02_17 : decode cJ0_isLatin1_aae02 17 = .ok (.iconst 0, 1) := by decide +kernel
theorem dJ0_isLatin1_aae02_18 : decode cJ0_isLatin1_aae02 18 = .ok (.ireturn, 1) := by decide +kernel
theorem dJ0_checkIndex_df160_0 : decode cJ0_checkIndex_df160 0 = .ok (.iload_n 0, 1) := by decide +kernel
theorem dJ0_checkIndex_df160_1 : decode cJ0_checkIndex_df160 1 = .ok (.iload_n 1, 1) := by decide +kernel
theorem dJ0_checkIndex_df160_2 : decode cJ0_checkIndex_df160 2 = .ok (.getstatic 1053, 3) := by decide +kernel
theorem dJ0_checkIndex_df160_5 : decode cJ0_checkIndex_df160 5 = .ok (.invokestatic 1059, 3) := by decide +kernel
theorem dJ0_checkIndex_df160_8 : decode cJ0_checkIndex_df160 8 = .ok (.pop, 1) := by decide +kernel
theorem dJ0_checkIndex_df160_9 : decode cJ0_checkIndex_df160 9 = .ok (.return_, 1) := by decide +kernel
theorem dJ0_checkBoundsBeginEnd_23922_0 : decode cJ0_checkBoundsBeginEnd_23922 0 = .ok (.iload_n 0, 1) := by decide +kernel
theorem dJ0_checkBoundsBeginEnd_23922_1 : decode cJ0_checkBoundsBeginEnd_23922 1 = .ok (.iload_n 1, 1) := by decide +kernel
theorem dJ0_checkBoundsBeginEnd_23922_2 : decode cJ0_checkBoundsBeginEnd_23922 2 = .ok (.iload_n 2, 1) := by decide +kernel
theorem dJ0_checkBoundsBeginEnd_23922_3 : decode cJ0_checkBoundsBeginEnd_23922 3 = .ok (.getstatic 1053, 3) := by decide +kernel
theorem dJ0_checkBoundsBeginEnd_23922_6 : decode cJ0_checkBoundsBeginEnd_23922 6 = .ok (.invokestatic 1062, 3) := by decide +kernel
theorem dJ0_checkBoundsBeginEnd_23922_9 : decode cJ0_checkBoundsBeginEnd_23922 9 = .ok (.pop, 1) := by decide +kernel
theorem dJ0_checkBoundsBeginEnd_23922_10 : decode cJ0_checkBoundsBeginEnd_23922 10 = .ok (.return_, 1) := by decide +kernel
theorem dJ1_charAt_3b067_0 : decode cJ1_charAt_3b067 0 = .ok (.iload_n 1, 1) := by decide +kernel
theorem dJ1_charAt_3b067_1 : decode cJ1_charAt_3b067 1 = .ok (.aload_n 0, 1) := by decide +kernel
theorem dJ1_charAt_3b067_2 : decode cJ1_charAt_3b067 2 = .ok (.arraylength, 1) := by decide +kernel
theorem dJ1_charAt_3b067_3 : decode cJ1_charAt_3b067 3 = .ok (.invokestatic 9, 3) := by decide +kernel
theorem dJ1_charAt_3b067_6 : decode cJ1_charAt_3b067 6 = .ok (.aload_n 0, 1) := by decide +kernel
theorem dJ1_charAt_3b067_7 : decode cJ1_charAt_3b067 7 = .ok (.iload_n 1, 1) := by decide +kernel
theorem dJ1_charAt_3b067_8 : decode cJ1_charAt_3b067 8 = .ok (.baload, 1) := by decide +kernel
theorem dJ1_charAt_3b067_9 : decode cJ1_charAt_3b067 9 = .ok (.sipush 255, 3) := by decide +kernel
theorem dJ1_charAt_3b067_12 : decode cJ1_charAt_3b067 12 = .ok (.iand, 1) := by decide +kernel
theorem dJ1_charAt_3b067_13 : decode cJ1_charAt_3b067 13 = .ok (.i2c, 1) := by decide +kernel
theorem dJ1_charAt_3b067_14 : decode cJ1_charAt_3b067 14 = .ok (.ireturn, 1) := by decide +kernel
theorem dJ1_canEncode_9a6ad_0 : decode cJ1_canEncode_9a6ad 0 = .ok (.iload_n 0, 1) := by decide +kernel
theorem dJ1_canEncode_9a6ad_1 : decode cJ1_canEncode_9a6ad 1 = .ok (.ifCond .lt 14, 3) := by decide +kernel
theorem dJ1_canEncode_9a6ad_4 : decode cJ1_canEncode_9a6ad 4 = .ok (.iload_n 0, 1) := by decide +kernel
theorem dJ1_canEncode_9a6ad_5 : decode cJ1_canEncode_9a6ad 5 = .ok (.sipush 255, 3) := by decide +kernel
theorem dJ1_canEncode_9a6ad_8 : decode cJ1_canEncode_9a6ad 8 = .ok (.if_icmp .gt 7, 3) := by decide +kernel
theorem dJ1_canEncode_9a6ad_11 : decode cJ1_canEncode_9a6ad 11 = .ok (.iconst 1, 1) := by decide +kernel
theorem dJ1_canEncode_9a6ad_12 : decode cJ1_canEncode_9a6ad 12 = .ok (.goto 4, 3) := by decide +kernel
theorem dJ1_canEncode_9a6ad_15 : decode cJ1_canEncode_9a6ad 15 = .ok (.iconst 0, 1) := by decide +kernel
theorem dJ1_canEncode_9a6ad_16 : decode cJ1_canEncode_9a6ad 16 = .ok (.ireturn, 1) := by decide +kernel
theorem dJ1_indexOf_4cfef_0 : decode cJ1_indexOf_4cfef 0 = .ok (.iload_n 1, 1) := by decide +kernel
theorem dJ1_indexOf_4cfef_1 : decode cJ1_indexOf_4cfef 1 = .ok (.invokestatic 88, 3) := by decide +kernel
theorem dJ1_indexOf_4cfef_4 : decode cJ1_indexOf_4cfef 4 = .ok (.ifCond .ne 5, 3) := by decide +kernel
theorem dJ1_indexOf_4cfef_7 : decode cJ1_indexOf_4cfef 7 = .ok (.iconst (-1), 1) := by decide +kernel
theorem dJ1_indexOf_4cfef_8 : decode cJ1_indexOf_4cfef 8 = .ok (.ireturn, 1) := by decide +kernel
theorem dJ1_indexOf_4cfef_9 : decode cJ1_indexOf_4cfef 9 = .ok (.iload_n 2, 1) := by decide +kernel
theorem dJ1_indexOf_4cfef_10 : decode cJ1_indexOf_4cfef 10 = .ok (.iconst 0, 1) := by decide +kernel
theorem dJ1_indexOf_4cfef_11 : decode cJ1_indexOf_4cfef 11 = .ok (.invokestatic 92, 3) := by decide +kernel
theorem dJ1_indexOf_4cfef_14 : decode cJ1_indexOf_4cfef 14 = .ok (.istore_n 2, 1) := by decide +kernel
theorem dJ1_indexOf_4cfef_15 : decode cJ1_indexOf_4cfef 15 = .ok (.iload_n 3, 1) := by decide +kernel
theorem dJ1_indexOf_4cfef_16 : decode cJ1_indexOf_4cfef 16 = .ok (.aload_n 0, 1) := by decide +kernel
theorem dJ1_indexOf_4cfef_17 : decode cJ1_indexOf_4cfef 17 = .ok (.arraylength, 1) := by decide +kernel
theorem dJ1_indexOf_4cfef_18 : decode cJ1_indexOf_4cfef 18 = .ok (.invokestatic 38, 3) := by decide +kernel
theorem dJ1_indexOf_4cfef_21 : decode cJ1_indexOf_4cfef 21 = .ok (.istore_n 3, 1) := by decide +kernel
theorem dJ1_indexOf_4cfef_22 : decode cJ1_indexOf_4cfef 22 = .ok (.iload_n 2, 1) := by decide +kernel
theorem dJ1_indexOf_4cfef_23 : decode cJ1_indexOf_4cfef 23 = .ok (.iload_n 3, 1) := by decide +kernel
theorem dJ1_indexOf_4cfef_24 : decode cJ1_indexOf_4cfef 24 = .ok (.if_icmp .lt 5, 3) := by decide +kernel
theorem dJ1_indexOf_4cfef_27 : decode cJ1_indexOf_4cfef 27 = .ok (.iconst (-1), 1) := by decide +kernel
theorem dJ1_indexOf_4cfef_28 : decode cJ1_indexOf_4cfef 28 = .ok (.ireturn, 1) := by decide +kernel
theorem dJ1_indexOf_4cfef_29 : decode cJ1_indexOf_4cfef 29 = .ok (.aload_n 0, 1) := by decide +kernel
theorem dJ1_indexOf_4cfef_30 : decode cJ1_indexOf_4cfef 30 = .ok (.iload_n 1, 1) := by decide +kernel
theorem dJ1_indexOf_4cfef_31 : decode cJ1_indexOf_4cfef 31 = .ok (.iload_n 2, 1) := by decide +kernel
theorem dJ1_indexOf_4cfef_32 : decode cJ1_indexOf_4cfef 32 = .ok (.iload_n 3, 1) := by decide +kernel
theorem dJ1_indexOf_4cfef_33 : decode cJ1_indexOf_4cfef 33 = .ok (.invokestatic 95, 3) := by decide +kernel
theorem dJ1_indexOf_4cfef_36 : decode cJ1_indexOf_4cfef 36 = .ok (.ireturn, 1) := by decide +kernel
theorem dJ1_indexOfChar_4cfef_0 : decode cJ1_indexOfChar_4cfef 0 = .ok (.iload_n 1, 1) := by decide +kernel
theorem dJ1_indexOfChar_4cfef_1 : decode cJ1_indexOfChar_4cfef 1 = .ok (.i2b, 1) := by decide +kernel
theorem dJ1_indexOfChar_4cfef_2 : decode cJ1_indexOfChar_4cfef 2 = .ok (.istore 4, 2) := by decide +kernel
theorem dJ1_indexOfChar_4cfef_4 : decode cJ1_indexOfChar_4cfef 4 = .ok (.iload_n 2, 1) := by decide +kernel
theorem dJ1_indexOfChar_4cfef_5 : decode cJ1_indexOfChar_4cfef 5 = .ok (.istore 5, 2) := by decide +kernel
theorem dJ1_indexOfChar_4cfef_7 : decode cJ1_indexOfChar_4cfef 7 = .ok (.iload 5, 2) := by decide +kernel
theorem dJ1_indexOfChar_4cfef_9 : decode cJ1_indexOfChar_4cfef 9 = .ok (.iload_n 3, 1) := by decide +kernel
theorem dJ1_indexOfChar_4cfef_10 : decode cJ1_indexOfChar_4cfef 10 = .ok (.if_icmp .ge 21, 3) := by decide +kernel
theorem dJ1_indexOfChar_4cfef_13 : decode cJ1_indexOfChar_4cfef 13 = .ok (.aload_n 0, 1) := by decide +kernel
theorem dJ1_indexOfChar_4cfef_14 : decode cJ1_indexOfChar_4cfef 14 = .ok (.iload 5, 2) := by decide +kernel
theorem dJ1_indexOfChar_4cfef_16 : decode cJ1_indexOfChar_4cfef 16 = .ok (.baload, 1) := by decide +kernel
theorem dJ1_indexOfChar_4cfef_17 : decode cJ1_indexOfChar_4cfef 17 = .ok (.iload 4, 2) := by decide +kernel
theorem dJ1_indexOfChar_4cfef_19 : decode cJ1_indexOfChar_4cfef 19 = .ok (.if_icmp .ne 6, 3) := by decide +kernel
theorem dJ1_indexOfChar_4cfef_22 : decode cJ1_indexOfChar_4cfef 22 = .ok (.iload 5, 2) := by decide +kernel
theorem dJ1_indexOfChar_4cfef_24 : decode cJ1_indexOfChar_4cfef 24 = .ok (.ireturn, 1) := by decide +kernel
theorem dJ1_indexOfChar_4cfef_25 : decode cJ1_indexOfChar_4cfef 25 = .ok (.iinc 5 1, 3) := by decide +kernel
theorem dJ1_indexOfChar_4cfef_28 : decode cJ1_indexOfChar_4cfef 28 = .ok (.goto (-21), 3) := by decide +kernel
theorem dJ1_indexOfChar_4cfef_31 : decode cJ1_indexOfChar_4cfef 31 = .ok (.iconst (-1), 1) := by decide +kernel
theorem dJ1_indexOfChar_4cfef_32 : decode cJ1_indexOfChar_4cfef 32 = .ok (.ireturn, 1) := by decide +kernel
theorem dJ11_isValidCodePoint_9a6ad_0 : decode cJ11_isValidCodePoint_9a6ad 0 = .ok (.iload_n 0, 1) := by decide +kernel
theorem dJ11_isValidCodePoint_9a6ad_1 : decode cJ11_isValidCodePoint_9a6ad 1 = .ok (.bipush 16, 2) := by decide +kernel
theorem dJ11_isValidCodePoint_9a6ad_3 : decode cJ11_isValidCodePoint_9a6ad 3 = .ok (.iushr, 1) := by decide +kernel
theorem dJ11_isValidCodePoint_9a6ad_4 : decode cJ11_isValidCodePoint_9a6ad 4 = .ok (.istore_n 1, 1) := by decide +kernel
theorem dJ11_isValidCodePoint_9a6ad_5 : decode cJ11_isValidCodePoint_9a6ad 5 = .ok (.iload_n 1, 1) := by decide +kernel
theorem dJ11_isValidCodePoint_9a6ad_6 : decode cJ11_isValidCodePoint_9a6ad 6 = .ok (.bipush 17, 2) := by decide +kernel
theorem dJ11_isValidCodePoint_9a6ad_8 : decode cJ11_isValidCodePoint_9a6ad 8 = .ok (.if_icmp .ge 7, 3) := by decide +kernel
theorem dJ11_isValidCodePoint_9a6ad_11 : decode cJ11_isValidCodePoint_9a6ad 11 = .ok (.iconst 1, 1) := by decide +kernel
theorem dJ11_isValidCodePoint_9a6ad_12 : decode cJ11_isValidCodePoint_9a6ad 12 = .ok (.goto 4, 3) := by decide +kernel
theorem dJ11_isValidCodePoint_9a6ad_15 : decode cJ11_isValidCodePoint_9a6ad 15 = .ok (.iconst 0, 1) := by decide +kernel
theorem dJ11_isValidCodePoint_9a6ad_16 : decode cJ11_isValidCodePoint_9a6ad 16 = .ok (.ireturn, 1) := by decide +kernel
theorem dJ11_highSurrogate_5068e_0 : decode cJ11_highSurrogate_5068e 0 = .ok (.iload_n 0, 1) := by decide +kernel
theorem dJ11_highSurrogate_5068e_1 : decode cJ11_highSurrogate_5068e 1 = .ok (.bipush 10, 2) := by decide +kernel
theorem dJ11_highSurrogate_5068e_3 : decode cJ11_highSurrogate_5068e 3 = .ok (.iushr, 1) := by decide +kernel
theorem dJ11_highSurrogate_5068e_4 : decode cJ11_highSurrogate_5068e 4 = .ok (.ldc 110, 2) := by decide +kernel
theorem dJ11_highSurrogate_5068e_6 : decode cJ11_highSurrogate_5068e 6 = .ok (.iadd, 1) := by decide +kernel
theorem dJ11_highSurrogate_5068e_7 : decode cJ11_highSurrogate_5068e 7 = .ok (.i2c, 1) := by decide +kernel
theorem dJ11_highSurrogate_5068e_8 : decode cJ11_highSurrogate_5068e 8 = .ok (.ireturn, 1) := by decide +kernel
theorem dJ11_lowSurrogate_5068e_0 : decode cJ11_lowSurrogate_5068e 0 = .ok (.iload_n 0, 1) := by decide +kernel
theorem dJ11_lowSurrogate_5068e_1 : decode cJ11_lowSurrogate_5068e 1 = .ok (.sipush 1023, 3) := by decide +kernel
theorem dJ11_lowSurrogate_5068e_4 : decode cJ11_lowSurrogate_5068e 4 = .ok (.iand, 1) := by decide +kernel
theorem dJ11_lowSurrogate_5068e_5 : decode cJ11_lowSurrogate_5068e 5 = .ok (.ldc 76, 2) := by decide +kernel
theorem dJ11_lowSurrogate_5068e_7 : decode cJ11_lowSurrogate_5068e 7 = .ok (.iadd, 1) := by decide +kernel
theorem dJ11_lowSurrogate_5068e_8 : decode cJ11_lowSurrogate_5068e 8 = .ok (.i2c, 1) := by decide +kernel
theorem dJ11_lowSurrogate_5068e_9 : decode cJ11_lowSurrogate_5068e 9 = .ok (.ireturn, 1) := by decide +kernel
theorem dJ2_getChar_3b067_0 : decode cJ2_getChar_3b067 0 = .ok (.getstatic 44, 3) := by decide +kernel
theorem dJ2_getChar_3b067_3 : decode cJ2_getChar_3b067 3 = .ok (.ifCond .ne 25, 3) := by decide +kernel
theorem dJ2_getChar_3b067_6 : decode cJ2_getChar_3b067 6 = .ok (.iload_n 1, 1) := by decide +kernel
theorem dJ2_getChar_3b067_7 : decode cJ2_getChar_3b067 7 = .ok (.ifCond .lt 11, 3) := by decide +kernel
theorem dJ2_getChar_3b067_10 : decode cJ2_getChar_3b067 10 = .ok (.iload_n 1, 1) := by decide +kernel
theorem dJ2_getChar_3b067_11 : decode cJ2_getChar_3b067 11 = .ok (.aload_n 0, 1) := by decide +kernel
theorem dJ2_getChar_3b067_12 : decode cJ2_getChar_3b067 12 = .ok (.invokestatic 48, 3) := by decide +kernel
theorem dJ2_getChar_3b067_15 : decode cJ2_getChar_3b067 15 = .ok (.if_icmp .lt 13, 3) := by decide +kernel
theorem dJ2_getChar_3b067_18 : decode cJ2_getChar_3b067 18 = .ok (.new 52, 3) := by decide +kernel
theorem dJ2_getChar_3b067_21 : decode cJ2_getChar_3b067 21 = .ok (.dup, 1) := by decide +kernel
theorem dJ2_getChar_3b067_22 : decode cJ2_getChar_3b067 22 = .ok (.ldc 54, 2) := by decide +kernel
theorem dJ2_getChar_3b067_24 : decode cJ2_getChar_3b067 24 = .ok (.invokespecial 56, 3) := by decide +kernel
theorem dJ2_getChar_3b067_27 : decode cJ2_getChar_3b067 27 = .ok (.athrow, 1) := by decide +kernel
theorem dJ2_getChar_3b067_28 : decode cJ2_getChar_3b067 28 = .ok (.iload_n 1, 1) := by decide +kernel
theorem dJ2_getChar_3b067_29 : decode cJ2_getChar_3b067 29 = .ok (.iconst 1, 1) := by decide +kernel
theorem dJ2_getChar_3b067_30 : decode cJ2_getChar_3b067 30 = .ok (.ishl, 1) := by decide +kernel
theorem dJ2_getChar_3b067_31 : decode cJ2_getChar_3b067 31 = .ok (.istore_n 1, 1) := by decide +kernel
theorem dJ2_getChar_3b067_32 : decode cJ2_getChar_3b067 32 = .ok (.aload_n 0, 1) := by decide +kernel
theorem dJ2_getChar_3b067_33 : decode cJ2_getChar_3b067 33 = .ok (.iload_n 1, 1) := by decide +kernel
theorem dJ2_getChar_3b067_34 : decode cJ2_getChar_3b067 34 = .ok (.iinc 1 1, 3) := by decide +kernel
theorem dJ2_getChar_3b067_37 : decode cJ2_getChar_3b067 37 = .ok (.baload, 1) := by decide +kernel
theorem dJ2_getChar_3b067_38 : decode cJ2_getChar_3b067 38 = .ok (.sipush 255, 3) := by decide +kernel
theorem dJ2_getChar_3b067_41 : decode cJ2_getChar_3b067 41 = .ok (.iand, 1) := by decide +kernel
theorem dJ2_getChar_3b067_42 : decode cJ2_getChar_3b067 42 = .ok (.getstatic 59, 3) := by decide +kernel
theorem dJ2_getChar_3b067_45 : decode cJ2_getChar_3b067 45 = .ok (.ishl, 1) := by decide +kernel
theorem dJ2_getChar_3b067_46 : decode cJ2_getChar_3b067 46 = .ok (.aload_n 0, 1) := by decide +kernel
theorem dJ2_getChar_3b067_47 : decode cJ2_getChar_3b067 47 = .ok (.iload_n 1, 1) := by decide +kernel
theorem dJ2_getChar_3b067_48 : decode cJ2_getChar_3b067 48 = .ok (.baload, 1) := by decide +kernel
theorem dJ2_getChar_3b067_49 : decode cJ2_getChar_3b067 49 = .ok (.sipush 255, 3) := by decide +kernel
theorem dJ2_getChar_3b067_52 : decode cJ2_getChar_3b067 52 = .ok (.iand, 1) := by decide +kernel
theorem dJ2_getChar_3b067_53 : decode cJ2_getChar_3b067 53 = .ok (.getstatic 63, 3) := by decide +kernel
theorem dJ2_getChar_3b067_56 : decode cJ2_getChar_3b067 56 = .ok (.ishl, 1) := by decide +kernel
theorem dJ2_getChar_3b067_57 : decode cJ2_getChar_3b067 57 = .ok (.ior, 1) := by decide +kernel
theorem dJ2_getChar_3b067_58 : decode cJ2_getChar_3b067 58 = .ok (.i2c, 1) := by decide +kernel
theorem dJ2_getChar_3b067_59 : decode cJ2_getChar_3b067 59 = .ok (.ireturn, 1) := by decide +kernel
theorem dJ2_length_9d52b_0 : decode cJ2_length_9d52b 0 = .ok (.aload_n 0, 1) := by decide +kernel
theorem dJ2_length_9d52b_1 : decode cJ2_length_9d52b 1 = .ok (.arraylength, 1) := by decide +kernel
theorem dJ2_length_9d52b_2 : decode cJ2_length_9d52b 2 = .ok (.iconst 1, 1) := by decide +kernel
theorem dJ2_length_9d52b_3 : decode cJ2_length_9d52b 3 = .ok (.ishr, 1) := by decide +kernel
theorem dJ2_length_9d52b_4 : decode cJ2_length_9d52b 4 = .ok (.ireturn, 1) := by decide +kernel
theorem dJ2_indexOf_4cfef_0 : decode cJ2_indexOf_4cfef 0 = .ok (.iload_n 2, 1) := by decide +kernel
theorem dJ2_indexOf_4cfef_1 : decode cJ2_indexOf_4cfef 1 = .ok (.iconst 0, 1) := by decide +kernel
theorem dJ2_indexOf_4cfef_2 : decode cJ2_indexOf_4cfef 2 = .ok (.invokestatic 224, 3) := by decide +kernel
theorem dJ2_indexOf_4cfef_5 : decode cJ2_indexOf_4cfef 5 = .ok (.istore_n 2, 1) := by decide +kernel
theorem dJ2_indexOf_4cfef_6 : decode cJ2_indexOf_4cfef 6 = .ok (.iload_n 3, 1) := by decide +kernel
theorem dJ2_indexOf_4cfef_7 : decode cJ2_indexOf_4cfef 7 = .ok (.aload_n 0, 1) := by decide +kernel
theorem dJ2_indexOf_4cfef_8 : decode cJ2_indexOf_4cfef 8 = .ok (.arraylength, 1) := by decide +kernel
theorem dJ2_indexOf_4cfef_9 : decode cJ2_indexOf_4cfef 9 = .ok (.iconst 1, 1) := by decide +kernel
theorem dJ2_indexOf_4cfef_10 : decode cJ2_indexOf_4cfef 10 = .ok (.ishr, 1) := by decide +kernel
theorem dJ2_indexOf_4cfef_11 : decode cJ2_indexOf_4cfef 11 = .ok (.invokestatic 183, 3) := by decide +kernel
theorem dJ2_indexOf_4cfef_14 : decode cJ2_indexOf_4cfef 14 = .ok (.istore_n 3, 1) := by decide +kernel
theorem dJ2_indexOf_4cfef_15 : decode cJ2_indexOf_4cfef 15 = .ok (.iload_n 2, 1) := by decide +kernel
theorem dJ2_indexOf_4cfef_16 : decode cJ2_indexOf_4cfef 16 = .ok (.iload_n 3, 1) := by decide +kernel
theorem dJ2_indexOf_4cfef_17 : decode cJ2_indexOf_4cfef 17 = .ok (.if_icmp .lt 5, 3) := by decide +kernel
theorem dJ2_indexOf_4cfef_20 : decode cJ2_indexOf_4cfef 20 = .ok (.iconst (-1), 1) := by decide +kernel
theorem dJ2_indexOf_4cfef_21 : decode cJ2_indexOf_4cfef 21 = .ok (.ireturn, 1) := by decide +kernel
theorem dJ2_indexOf_4cfef_22 : decode cJ2_indexOf_4cfef 22 = .ok (.iload_n 1, 1) := by decide +kernel
theorem dJ2_indexOf_4cfef_23 : decode cJ2_indexOf_4cfef 23 = .ok (.ldc 227, 2) := by decide +kernel
theorem dJ2_indexOf_4cfef_25 : decode cJ2_indexOf_4cfef 25 = .ok (.if_icmp .ge 11, 3) := by decide +kernel
theorem dJ2_indexOf_4cfef_28 : decode cJ2_indexOf_4cfef 28 = .ok (.aload_n 0, 1) := by decide +kernel
theorem dJ2_indexOf_4cfef_29 : decode cJ2_indexOf_4cfef 29 = .ok (.iload_n 1, 1) := by decide +kernel
theorem dJ2_indexOf_4cfef_30 : decode cJ2_indexOf_4cfef 30 = .ok (.iload_n 2, 1) := by decide +kernel
theorem dJ2_indexOf_4cfef_31 : decode cJ2_indexOf_4cfef 31 = .ok (.iload_n 3, 1) := by decide +kernel
theorem dJ2_indexOf_4cfef_32 : decode cJ2_indexOf_4cfef 32 = .ok (.invokestatic 228, 3) := by decide +kernel
theorem dJ2_indexOf_4cfef_35 : decode cJ2_indexOf_4cfef 35 = .ok (.ireturn, 1) := by decide +kernel
theorem dJ2_indexOf_4cfef_36 : decode cJ2_indexOf_4cfef 36 = .ok (.aload_n 0, 1) := by decide +kernel
theorem dJ2_indexOf_4cfef_37 : decode cJ2_indexOf_4cfef 37 = .ok (.iload_n 1, 1) := by decide +kernel
theorem dJ2_indexOf_4cfef_38 : decode cJ2_indexOf_4cfef 38 = .ok (.iload_n 2, 1) := by decide +kernel
theorem dJ2_indexOf_4cfef_39 : decode cJ2_indexOf_4cfef 39 = .ok (.iload_n 3, 1) := by decide +kernel
theorem dJ2_indexOf_4cfef_40 : decode cJ2_indexOf_4cfef 40 = .ok (.invokestatic 232, 3) := by decide +kernel
theorem dJ2_indexOf_4cfef_43 : decode cJ2_indexOf_4cfef 43 = .ok (.ireturn, 1) := by decide +kernel
theorem dJ2_indexOfChar_4cfef_0 : decode cJ2_indexOfChar_4cfef 0 = .ok (.iload_n 2, 1) := by decide +kernel
theorem dJ2_indexOfChar_4cfef_1 : decode cJ2_indexOfChar_4cfef 1 = .ok (.iload_n 3, 1) := by decide +kernel
theorem dJ2_indexOfChar_4cfef_2 : decode cJ2_indexOfChar_4cfef 2 = .ok (.aload_n 0, 1) := by decide +kernel
theorem dJ2_indexOfChar_4cfef_3 : decode cJ2_indexOfChar_4cfef 3 = .ok (.invokestatic 96, 3) := by decide +kernel
theorem dJ2_indexOfChar_4cfef_6 : decode cJ2_indexOfChar_4cfef 6 = .ok (.aload_n 0, 1) := by decide +kernel
theorem dJ2_indexOfChar_4cfef_7 : decode cJ2_indexOfChar_4cfef 7 = .ok (.iload_n 1, 1) := by decide +kernel
theorem dJ2_indexOfChar_4cfef_8 : decode cJ2_indexOfChar_4cfef 8 = .ok (.iload_n 2, 1) := by decide +kernel
theorem dJ2_indexOfChar_4cfef_9 : decode cJ2_indexOfChar_4cfef 9 = .ok (.iload_n 3, 1) := by decide +kernel
theorem dJ2_indexOfChar_4cfef_10 : decode cJ2_indexOfChar_4cfef 10 = .ok (.invokestatic 244, 3) := by decide +kernel
theorem dJ2_indexOfChar_4cfef_13 : decode cJ2_indexOfChar_4cfef 13 = .ok (.ireturn, 1) := by decide +kernel
theorem dJ2_indexOfCharUnsafe_4cfef_0 : decode cJ2_indexOfCharUnsafe_4cfef 0 = .ok (.iload_n 2, 1) := by decide +kernel
theorem dJ2_indexOfCharUnsafe_4cfef_1 : decode cJ2_indexOfCharUnsafe_4cfef 1 = .ok (.istore 4, 2) := by decide +kernel
theorem dJ2_indexOfCharUnsafe_4cfef_3 : decode cJ2_indexOfCharUnsafe_4cfef 3 = .ok (.iload 4, 2) := by decide +kernel
theorem dJ2_indexOfCharUnsafe_4cfef_5 : decode cJ2_indexOfCharUnsafe_4cfef 5 = .ok (.iload_n 3, 1) := by decide +kernel
theorem dJ2_indexOfCharUnsafe_4cfef_6 : decode cJ2_indexOfCharUnsafe_4cfef 6 = .ok (.if_icmp .ge 22, 3) := by decide +kernel
theorem dJ2_indexOfCharUnsafe_4cfef_9 : decode cJ2_indexOfCharUnsafe_4cfef 9 = .ok (.aload_n 0, 1) := by decide +kernel
theorem dJ2_indexOfCharUnsafe_4cfef_10 : decode cJ2_indexOfCharUnsafe_4cfef 10 = .ok (.iload 4, 2) := by decide +kernel
theorem dJ2_indexOfCharUnsafe_4cfef_12 : decode cJ2_indexOfCharUnsafe_4cfef 12 = .ok (.invokestatic 71, 3) := by decide +kernel
theorem dJ2_indexOfCharUnsafe_4cfef_15 : decode cJ2_indexOfCharUnsafe_4cfef 15 = .ok (.iload_n 1, 1) := by decide +kernel
theorem dJ2_indexOfCharUnsafe_4cfef_16 : decode cJ2_indexOfCharUnsafe_4cfef 16 = .ok (.if_icmp .ne 6, 3) := by decide +kernel
theorem dJ2_indexOfCharUnsafe_4cfef_19 : decode cJ2_indexOfCharUnsafe_4cfef 19 = .ok (.iload 4, 2) := by decide +kernel
theorem dJ2_indexOfCharUnsafe_4cfef_21 : decode cJ2_indexOfCharUnsafe_4cfef 21 = .ok (.ireturn, 1) := by decide +kernel
theorem dJ2_indexOfCharUnsafe_4cfef_22 : decode cJ2_indexOfCharUnsafe_4cfef 22 = .ok (.iinc 4 1, 3) := by decide +kernel
theorem dJ2_indexOfCharUnsafe_4cfef_25 : decode cJ2_indexOfCharUnsafe_4cfef 25 = .ok (.goto (-22), 3) := by decide +kernel
theorem dJ2_indexOfCharUnsafe_4cfef_28 : decode cJ2_indexOfCharUnsafe_4cfef 28 = .ok (.iconst (-1), 1) := by decide +kernel
theorem dJ2_indexOfCharUnsafe_4cfef_29 : decode cJ2_indexOfCharUnsafe_4cfef 29 = .ok (.ireturn, 1) := by decide +kernel
theorem dJ2_indexOfSupplementary_4cfef_0 : decode cJ2_indexOfSupplementary_4cfef 0 = .ok (.iload_n 1, 1) := by decide +kernel
theorem dJ2_indexOfSupplementary_4cfef_1 : decode cJ2_indexOfSupplementary_4cfef 1 = .ok (.invokestatic 164, 3) := by decide +kernel
theorem dJ2_indexOfSupplementary_4cfef_4 : decode cJ2_indexOfSupplementary_4cfef 4 = .ok (.ifCond .eq 65, 3) := by decide +kernel
theorem dJ2_indexOfSupplementary_4cfef_7 : decode cJ2_indexOfSupplementary_4cfef 7 = .ok (.iload_n 1, 1) := by decide +kernel
theorem dJ2_indexOfSupplementary_4cfef_8 : decode cJ2_indexOfSupplementary_4cfef 8 = .ok (.invokestatic 157, 3) := by decide +kernel
theorem dJ2_indexOfSupplementary_4cfef_11 : decode cJ2_indexOfSupplementary_4cfef 11 = .ok (.istore 4, 2) := by decide +kernel
theorem dJ2_indexOfSupplementary_4cfef_13 : decode cJ2_indexOfSupplementary_4cfef 13 = .ok (.iload_n 1, 1) := by decide +kernel
theorem dJ2_indexOfSupplementary_4cfef_14 : decode cJ2_indexOfSupplementary_4cfef 14 = .ok (.invokestatic 161, 3) := by decide +kernel
theorem dJ2_indexOfSupplementary_4cfef_17 : decode cJ2_indexOfSupplementary_4cfef 17 = .ok (.istore 5, 2) := by decide +kernel
theorem dJ2_indexOfSupplementary_4cfef_19 : decode cJ2_indexOfSupplementary_4cfef 19 = .ok (.iload_n 2, 1) := by decide +kernel
theorem dJ2_indexOfSupplementary_4cfef_20 : decode cJ2_indexOfSupplementary_4cfef 20 = .ok (.iload_n 3, 1) := by decide +kernel
theorem dJ2_indexOfSupplementary_4cfef_21 : decode cJ2_indexOfSupplementary_4cfef 21 = .ok (.aload_n 0, 1) := by decide +kernel
theorem dJ2_indexOfSupplementary_4cfef_22 : decode cJ2_indexOfSupplementary_4cfef 22 = .ok (.invokestatic 96, 3) := by decide +kernel
theorem dJ2_indexOfSupplementary_4cfef_25 : decode cJ2_indexOfSupplementary_4cfef 25 = .ok (.iload_n 2, 1) := by decide +kernel
theorem dJ2_indexOfSupplementary_4cfef_26 : decode cJ2_indexOfSupplementary_4cfef 26 = .ok (.istore 6, 2) := by decide +kernel
theorem dJ2_indexOfSupplementary_4cfef_28 : decode cJ2_indexOfSupplementary_4cfef 28 = .ok (.iload 6, 2) := by decide +kernel
theorem dJ2_indexOfSupplementary_4cfef_30 : decode cJ2_indexOfSupplementary_4cfef 30 = .ok (.iload_n 3, 1) := by decide +kernel
theorem dJ2_indexOfSupplementary_4cfef_31 : decode cJ2_indexOfSupplementary_4cfef 31 = .ok (.iconst 1, 1) := by decide +kernel
theorem dJ2_indexOfSupplementary_4cfef_32 : decode cJ2_indexOfSupplementary_4cfef 32 = .ok (.isub, 1) := by decide +kernel
theorem dJ2_indexOfSupplementary_4cfef_33 : decode cJ2_indexOfSupplementary_4cfef 33 = .ok (.if_icmp .ge 36, 3) := by decide +kernel
theorem dJ2_indexOfSupplementary_4cfef_36 : decode cJ2_indexOfSupplementary_4cfef 36 = .ok (.aload_n 0, 1) := by decide +kernel
theorem dJ2_indexOfSupplementary_4cfef_37 : decode cJ2_indexOfSupplementary_4cfef 37 = .ok (.iload 6, 2) := by decide +kernel
theorem dJ2_indexOfSupplementary_4cfef_39 : decode cJ2_indexOfSupplementary_4cfef 39 = .ok (.invokestatic 71, 3) := by decide +kernel
theorem dJ2_indexOfSupplementary_4cfef_42 : decode cJ2_indexOfSupplementary_4cfef 42 = .ok (.iload 4, 2) := by decide +kernel
theorem dJ2_indexOfSupplementary_4cfef_44 : decode cJ2_indexOfSupplementary_4cfef 44 = .ok (.if_icmp .ne 19, 3) := by decide +kernel
theorem dJ2_indexOfSupplementary_4cfef_47 : decode cJ2_indexOfSupplementary_4cfef 47 = .ok (.aload_n 0, 1) := by decide +kernel
theorem dJ2_indexOfSupplementary_4cfef_48 : decode cJ2_indexOfSupplementary_4cfef 48 = .ok (.iload 6, 2) := by decide +kernel
theorem dJ2_indexOfSupplementary_4cfef_50 : decode cJ2_indexOfSupplementary_4cfef 50 = .ok (.iconst 1, 1) := by decide +kernel
theorem dJ2_indexOfSupplementary_4cfef_51 : decode cJ2_indexOfSupplementary_4cfef 51 = .ok (.iadd, 1) := by decide +kernel
theorem dJ2_indexOfSupplementary_4cfef_52 : decode cJ2_indexOfSupplementary_4cfef 52 = .ok (.invokestatic 71, 3) := by decide +kernel
theorem dJ2_indexOfSupplementary_4cfef_55 : decode cJ2_indexOfSupplementary_4cfef 55 = .ok (.iload 5, 2) := by decide +kernel
theorem dJ2_indexOfSupplementary_4cfef_57 : decode cJ2_indexOfSupplementary_4cfef 57 = .ok (.if_icmp .ne 6, 3) := by decide +kernel
theorem dJ2_indexOfSupplementary_4cfef_60 : decode cJ2_indexOfSupplementary_4cfef 60 = .ok (.iload 6, 2) := by decide +kernel
theorem dJ2_indexOfSupplementary_4cfef_62 : decode cJ2_indexOfSupplementary_4cfef 62 = .ok (.ireturn, 1) := by decide +kernel
theorem dJ2_indexOfSupplementary_4cfef_63 : decode cJ2_indexOfSupplementary_4cfef 63 = .ok (.iinc 6 1, 3) := by decide +kernel
theorem dJ2_indexOfSupplementary_4cfef_66 : decode cJ2_indexOfSupplementary_4cfef 66 = .ok (.goto (-38), 3) := by decide +kernel
theorem dJ2_indexOfSupplementary_4cfef_69 : decode cJ2_indexOfSupplementary_4cfef 69 = .ok (.iconst (-1), 1) := by decide +kernel
theorem dJ2_indexOfSupplementary_4cfef_70 : decode cJ2_indexOfSupplementary_4cfef 70 = .ok (.ireturn, 1) := by decide +kernel
theorem dJ2_charAt_3b067_0 : decode cJ2_charAt_3b067 0 = .ok (.iload_n 1, 1) := by decide +kernel
theorem dJ2_charAt_3b067_1 : decode cJ2_charAt_3b067 1 = .ok (.aload_n 0, 1) := by decide +kernel
theorem dJ2_charAt_3b067_2 : decode cJ2_charAt_3b067 2 = .ok (.invokestatic 67, 3) := by decide +kernel
theorem dJ2_charAt_3b067_5 : decode cJ2_charAt_3b067 5 = .ok (.aload_n 0, 1) := by decide +kernel
theorem dJ2_charAt_3b067_6 : decode cJ2_charAt_3b067 6 = .ok (.iload_n 1, 1) := by decide +kernel
theorem dJ2_charAt_3b067_7 : decode cJ2_charAt_3b067 7 = .ok (.invokestatic 71, 3) := by decide +kernel
theorem dJ2_charAt_3b067_10 : decode cJ2_charAt_3b067 10 = .ok (.ireturn, 1) := by decide +kernel
theorem dJ2_checkIndex_2214a_0 : decode cJ2_checkIndex_2214a 0 = .ok (.iload_n 0, 1) := by decide +kernel
theorem dJ2_checkIndex_2214a_1 : decode cJ2_checkIndex_2214a 1 = .ok (.aload_n 1, 1) := by decide +kernel
theorem dJ2_checkIndex_2214a_2 : decode cJ2_checkIndex_2214a 2 = .ok (.invokestatic 48, 3) := by decide +kernel
theorem dJ2_checkIndex_2214a_5 : decode cJ2_checkIndex_2214a 5 = .ok (.invokestatic 414, 3) := by decide +kernel
theorem dJ2_checkIndex_2214a_8 : decode cJ2_checkIndex_2214a 8 = .ok (.return_, 1) := by decide +kernel
theorem dJ2_checkBoundsBeginEnd_d044e_0 : decode cJ2_checkBoundsBeginEnd_d044e 0 = .ok (.iload_n 0, 1) := by decide +kernel
theorem dJ2_checkBoundsBeginEnd_d044e_1 : decode cJ2_checkBoundsBeginEnd_d044e 1 = .ok (.iload_n 1, 1) := by decide +kernel
theorem dJ2_checkBoundsBeginEnd_d044e_2 : decode cJ2_checkBoundsBeginEnd_d044e 2 = .ok (.aload_n 2, 1) := by decide +kernel
theorem dJ2_checkBoundsBeginEnd_d044e_3 : decode cJ2_checkBoundsBeginEnd_d044e 3 = .ok (.invokestatic 48, 3) := by decide +kernel
theorem dJ2_checkBoundsBeginEnd_d044e_6 : decode cJ2_checkBoundsBeginEnd_d044e 6 = .ok (.invokestatic 241, 3) := by decide +kernel
theorem dJ2_checkBoundsBeginEnd_d044e_9 : decode cJ2_checkBoundsBeginEnd_d044e 9 = .ok (.return_, 1) := by decide +kernel
theorem dJ3_checkIndex_8e157_0 : decode cJ3_checkIndex_8e157 0 = .ok (.iload_n 0, 1) := by decide +kernel
theorem dJ3_checkIndex_8e157_1 : decode cJ3_checkIndex_8e157 1 = .ok (.ifCond .lt 8, 3) := by decide +kernel
theorem dJ3_checkIndex_8e157_4 : decode cJ3_checkIndex_8e157 4 = .ok (.iload_n 0, 1) := by decide +kernel
theorem dJ3_checkIndex_8e157_5 : decode cJ3_checkIndex_8e157 5 = .ok (.iload_n 1, 1) := by decide +kernel
theorem dJ3_checkIndex_8e157_6 : decode cJ3_checkIndex_8e157 6 = .ok (.if_icmp .lt 10, 3) := by decide +kernel
theorem dJ3_checkIndex_8e157_9 : decode cJ3_checkIndex_8e157 9 = .ok (.aload_n 2, 1) := by decide +kernel
theorem dJ3_checkIndex_8e157_10 : decode cJ3_checkIndex_8e157 10 = .ok (.iload_n 0, 1) := by decide +kernel
theorem dJ3_checkIndex_8e157_11 : decode cJ3_checkIndex_8e157 11 = .ok (.iload_n 1, 1) := by decide +kernel
theorem dJ3_checkIndex_8e157_12 : decode cJ3_checkIndex_8e157 12 = .ok (.invokestatic 95, 3) := by decide +kernel
theorem dJ3_checkIndex_8e157_15 : decode cJ3_checkIndex_8e157 15 = .ok (.athrow, 1) := by decide +kernel
theorem dJ3_checkIndex_8e157_16 : decode cJ3_checkIndex_8e157 16 = .ok (.iload_n 0, 1) := by decide +kernel
theorem dJ3_checkIndex_8e157_17 : decode cJ3_checkIndex_8e157 17 = .ok (.ireturn, 1) := by decide +kernel
theorem dJ3_checkFromToIndex_8c36e_0 : decode cJ3_checkFromToIndex_8c36e 0 = .ok (.iload_n 0, 1) := by decide +kernel
theorem dJ3_checkFromToIndex_8c36e_1 : decode cJ3_checkFromToIndex_8c36e 1 = .ok (.ifCond .lt 13, 3) := by decide +kernel
theorem dJ3_checkFromToIndex_8c36e_4 : decode cJ3_checkFromToIndex_8c36e 4 = .ok (.iload_n 0, 1) := by decide +kernel
theorem dJ3_checkFromToIndex_8c36e_5 : decode cJ3_checkFromToIndex_8c36e 5 = .ok (.iload_n 1, 1) := by decide +kernel
theorem dJ3_checkFromToIndex_8c36e_6 : decode cJ3_checkFromToIndex_8c36e 6 = .ok (.if_icmp .gt 8, 3) := by decide +kernel
theorem dJ3_checkFromToIndex_8c36e_9 : decode cJ3_checkFromToIndex_8c36e 9 = .ok (.iload_n 1, 1) := by decide +kernel
theorem dJ3_checkFromToIndex_8c36e_10 : decode cJ3_checkFromToIndex_8c36e 10 = .ok (.iload_n 2, 1) := by decide +kernel
theorem dJ3_checkFromToIndex_8c36e_11 : decode cJ3_checkFromToIndex_8c36e 11 = .ok (.if_icmp .le 11, 3) := by decide +kernel
theorem dJ3_checkFromToIndex_8c36e_14 : decode cJ3_checkFromToIndex_8c36e 14 = .ok (.aload_n 3, 1) := by decide +kernel
theorem dJ3_checkFromToIndex_8c36e_15 : decode cJ3_checkFromToIndex_8c36e 15 = .ok (.iload_n 0, 1) := by decide +kernel
theorem dJ3_checkFromToIndex_8c36e_16 : decode cJ3_checkFromToIndex_8c36e 16 = .ok (.iload_n 1, 1) := by decide +kernel
theorem dJ3_checkFromToIndex_8c36e_17 : decode cJ3_checkFromToIndex_8c36e 17 = .ok (.iload_n 2, 1) := by decide +kernel
theorem dJ3_checkFromToIndex_8c36e_18 : decode cJ3_checkFromToIndex_8c36e 18 = .ok (.invokestatic 99, 3) := by decide +kernel
theorem dJ3_checkFromToIndex_8c36e_21 : decode cJ3_checkFromToIndex_8c36e 21 = .ok (.athrow, 1) := by decide +kernel
theorem dJ3_checkFromToIndex_8c36e_22 : decode cJ3_checkFromToIndex_8c36e 22 = .ok (.iload_n 0, 1) := by decide +kernel
theorem dJ3_checkFromToIndex_8c36e_23 : decode cJ3_checkFromToIndex_8c36e 23 = .ok (.ireturn, 1) := by decide +kernel
theorem dJ6_compare_7cf53_0 : decode cJ6_compare_7cf53 0 = .ok (.iload_n 0, 1) := by decide +kernel
theorem dJ6_compare_7cf53_1 : decode cJ6_compare_7cf53 1 = .ok (.iload_n 1, 1) := by decide +kernel
theorem dJ6_compare_7cf53_2 : decode cJ6_compare_7cf53 2 = .ok (.if_icmp .ge 7, 3) := by decide +kernel
theorem dJ6_compare_7cf53_5 : decode cJ6_compare_7cf53 5 = .ok (.iconst (-1), 1) := by decide +kernel
theorem dJ6_compare_7cf53_6 : decode cJ6_compare_7cf53 6 = .ok (.goto 13, 3) := by decide +kernel
theorem dJ6_compare_7cf53_9 : decode cJ6_compare_7cf53 9 = .ok (.iload_n 0, 1) := by decide +kernel
theorem dJ6_compare_7cf53_10 : decode cJ6_compare_7cf53 10 = .ok (.iload_n 1, 1) := by decide +kernel
theorem dJ6_compare_7cf53_11 : decode cJ6_compare_7cf53 11 = .ok (.if_icmp .ne 7, 3) := by decide +kernel
theorem dJ6_compare_7cf53_14 : decode cJ6_compare_7cf53 14 = .ok (.iconst 0, 1) := by decide +kernel
theorem dJ6_compare_7cf53_15 : decode cJ6_compare_7cf53 15 = .ok (.goto 4, 3) := by decide +kernel
theorem dJ6_compare_7cf53_18 : decode cJ6_compare_7cf53 18 = .ok (.iconst 1, 1) := by decide +kernel
theorem dJ6_compare_7cf53_19 : decode cJ6_compare_7cf53 19 = .ok (.ireturn, 1) := by decide +kernel
theorem dJ6_bitCount_0f7a4_0 : decode cJ6_bitCount_0f7a4 0 = .ok (.iload_n 0, 1) := by decide +kernel
theorem dJ6_bitCount_0f7a4_1 : decode cJ6_bitCount_0f7a4 1 = .ok (.iload_n 0, 1) := by decide +kernel
theorem dJ6_bitCount_0f7a4_2 : decode cJ6_bitCount_0f7a4 2 = .ok (.iconst 1, 1) := by decide +kernel
theorem dJ6_bitCount_0f7a4_3 : decode cJ6_bitCount_0f7a4 3 = .ok (.iushr, 1) := by decide +kernel
theorem dJ6_bitCount_0f7a4_4 : decode cJ6_bitCount_0f7a4 4 = .ok (.ldc_w 265, 3) := by decide +kernel
theorem dJ6_bitCount_0f7a4_7 : decode cJ6_bitCount_0f7a4 7 = .ok (.iand, 1) := by decide +kernel
theorem dJ6_bitCount_0f7a4_8 : decode cJ6_bitCount_0f7a4 8 = .ok (.isub, 1) := by decide +kernel
theorem dJ6_bitCount_0f7a4_9 : decode cJ6_bitCount_0f7a4 9 = .ok (.istore_n 0, 1) := by decide +kernel
theorem dJ6_bitCount_0f7a4_10 : decode cJ6_bitCount_0f7a4 10 = .ok (.iload_n 0, 1) := by decide +kernel
theorem dJ6_bitCount_0f7a4_11 : decode cJ6_bitCount_0f7a4 11 = .ok (.ldc_w 266, 3) := by decide +kernel
theorem dJ6_bitCount_0f7a4_14 : decode cJ6_bitCount_0f7a4 14 = .ok (.iand, 1) := by decide +kernel
theorem dJ6_bitCount_0f7a4_15 : decode cJ6_bitCount_0f7a4 15 = .ok (.iload_n 0, 1) := by decide +kernel
theorem dJ6_bitCount_0f7a4_16 : decode cJ6_bitCount_0f7a4 16 = .ok (.iconst 2, 1) := by decide +kernel
theorem dJ6_bitCount_0f7a4_17 : decode cJ6_bitCount_0f7a4 17 = .ok (.iushr, 1) := by decide +kernel
theorem dJ6_bitCount_0f7a4_18 : decode cJ6_bitCount_0f7a4 18 = .ok (.ldc_w 266, 3) := by decide +kernel
theorem dJ6_bitCount_0f7a4_21 : decode cJ6_bitCount_0f7a4 21 = .ok (.iand, 1) := by decide +kernel
theorem dJ6_bitCount_0f7a4_22 : decode cJ6_bitCount_0f7a4 22 = .ok (.iadd, 1) := by decide +kernel
theorem dJ6_bitCount_0f7a4_23 : decode cJ6_bitCount_0f7a4 23 = .ok (.istore_n 0, 1) := by decide +kernel
theorem dJ6_bitCount_0f7a4_24 : decode cJ6_bitCount_0f7a4 24 = .ok (.iload_n 0, 1) := by decide +kernel
theorem dJ6_bitCount_0f7a4_25 : decode cJ6_bitCount_0f7a4 25 = .ok (.iload_n 0, 1) := by decide +kernel
theorem dJ6_bitCount_0f7a4_26 : decode cJ6_bitCount_0f7a4 26 = .ok (.iconst 4, 1) := by decide +kernel
theorem dJ6_bitCount_0f7a4_27 : decode cJ6_bitCount_0f7a4 27 = .ok (.iushr, 1) := by decide +kernel
theorem dJ6_bitCount_0f7a4_28 : decode cJ6_bitCount_0f7a4 28 = .ok (.iadd, 1) := by decide +kernel
theorem dJ6_bitCount_0f7a4_29 : decode cJ6_bitCount_0f7a4 29 = .ok (.ldc_w 267, 3) := by decide +kernel
theorem dJ6_bitCount_0f7a4_32 : decode cJ6_bitCount_0f7a4 32 = .ok (.iand, 1) := by decide +kernel
theorem dJ6_bitCount_0f7a4_33 : decode cJ6_bitCount_0f7a4 33 = .ok (.istore_n 0, 1) := by decide +kernel
theorem dJ6_bitCount_0f7a4_34 : decode cJ6_bitCount_0f7a4 34 = .ok (.iload_n 0, 1) := by decide +kernel
theorem dJ6_bitCount_0f7a4_35 : decode cJ6_bitCount_0f7a4 35 = .ok (.iload_n 0, 1) := by decide +kernel
theorem dJ6_bitCount_0f7a4_36 : decode cJ6_bitCount_0f7a4 36 = .ok (.bipush 8, 2) := by decide +kernel
theorem dJ6_bitCount_0f7a4_38 : decode cJ6_bitCount_0f7a4 38 = .ok (.iushr, 1) := by decide +kernel
theorem dJ6_bitCount_0f7a4_39 : decode cJ6_bitCount_0f7a4 39 = .ok (.iadd, 1) := by decide +kernel
theorem dJ6_bitCount_0f7a4_40 : decode cJ6_bitCount_0f7a4 40 = .ok (.istore_n 0, 1) := by decide +kernel
theorem dJ6_bitCount_0f7a4_41 : decode cJ6_bitCount_0f7a4 41 = .ok (.iload_n 0, 1) := by decide +kernel
theorem dJ6_bitCount_0f7a4_42 : decode cJ6_bitCount_0f7a4 42 = .ok (.iload_n 0, 1) := by decide +kernel
theorem dJ6_bitCount_0f7a4_43 : decode cJ6_bitCount_0f7a4 43 = .ok (.bipush 16, 2) := by decide +kernel
theorem dJ6_bitCount_0f7a4_45 : decode cJ6_bitCount_0f7a4 45 = .ok (.iushr, 1) := by decide +kernel
theorem dJ6_bitCount_0f7a4_46 : decode cJ6_bitCount_0f7a4 46 = .ok (.iadd, 1) := by decide +kernel
theorem dJ6_bitCount_0f7a4_47 : decode cJ6_bitCount_0f7a4 47 = .ok (.istore_n 0, 1) := by decide +kernel
theorem dJ6_bitCount_0f7a4_48 : decode cJ6_bitCount_0f7a4 48 = .ok (.iload_n 0, 1) := by decide +kernel
theorem dJ6_bitCount_0f7a4_49 : decode cJ6_bitCount_0f7a4 49 = .ok (.bipush 63, 2) := by decide +kernel
theorem dJ6_bitCount_0f7a4_51 : decode cJ6_bitCount_0f7a4 51 = .ok (.iand, 1) := by decide +kernel
theorem dJ6_bitCount_0f7a4_52 : decode cJ6_bitCount_0f7a4 52 = .ok (.ireturn, 1) := by decide +kernel
theorem dJ9_abs_0f7a4_0 : decode cJ9_abs_0f7a4 0 = .ok (.iload_n 0, 1) := by decide +kernel
theorem dJ9_abs_0f7a4_1 : decode cJ9_abs_0f7a4 1 = .ok (.ifCond .ge 8, 3) := by decide +kernel
theorem dJ9_abs_0f7a4_4 : decode cJ9_abs_0f7a4 4 = .ok (.iload_n 0, 1) := by decide +kernel
theorem dJ9_abs_0f7a4_5 : decode cJ9_abs_0f7a4 5 = .ok (.ineg, 1) := by decide +kernel
theorem dJ9_abs_0f7a4_6 : decode cJ9_abs_0f7a4 6 = .ok (.goto 4, 3) := by decide +kernel
theorem dJ9_abs_0f7a4_9 : decode cJ9_abs_0f7a4 9 = .ok (.iload_n 0, 1) := by decide +kernel
theorem dJ9_abs_0f7a4_10 : decode cJ9_abs_0f7a4 10 = .ok (.ireturn, 1) := by decide +kernel
theorem dJ9_max_7cf53_0 : decode cJ9_max_7cf53 0 = .ok (.iload_n 0, 1) := by decide +kernel
theorem dJ9_max_7cf53_1 : decode cJ9_max_7cf53 1 = .ok (.iload_n 1, 1) := by decide +kernel
theorem dJ9_max_7cf53_2 : decode cJ9_max_7cf53 2 = .ok (.if_icmp .lt 7, 3) := by decide +kernel
theorem dJ9_max_7cf53_5 : decode cJ9_max_7cf53 5 = .ok (.iload_n 0, 1) := by decide +kernel
theorem dJ9_max_7cf53_6 : decode cJ9_max_7cf53 6 = .ok (.goto 4, 3) := by decide +kernel
theorem dJ9_max_7cf53_9 : decode cJ9_max_7cf53 9 = .ok (.iload_n 1, 1) := by decide +kernel
theorem dJ9_max_7cf53_10 : decode cJ9_max_7cf53 10 = .ok (.ireturn, 1) := by decide +kernel
theorem dJ9_min_7cf53_0 : decode cJ9_min_7cf53 0 = .ok (.iload_n 0, 1) := by decide +kernel
theorem dJ9_min_7cf53_1 : decode cJ9_min_7cf53 1 = .ok (.iload_n 1, 1) := by decide +kernel
theorem dJ9_min_7cf53_2 : decode cJ9_min_7cf53 2 = .ok (.if_icmp .gt 7, 3) := by decide +kernel
theorem dJ9_min_7cf53_5 : decode cJ9_min_7cf53 5 = .ok (.iload_n 0, 1) := by decide +kernel
theorem dJ9_min_7cf53_6 : decode cJ9_min_7cf53 6 = .ok (.goto 4, 3) := by decide +kernel
theorem dJ9_min_7cf53_9 : decode cJ9_min_7cf53 9 = .ok (.iload_n 1, 1) := by decide +kernel
theorem dJ9_min_7cf53_10 : decode cJ9_min_7cf53 10 = .ok (.ireturn, 1) := by decide +kernel
end
section
/-! THE LIGHT MACHINE: whole numbers as Int, cells by their order of making; every kit row once, over it -/
abbrev AV : Type := Int ⊕ (Int ⊕ (Int ⊕ Nat))
abbrev Shp : Type := Nat × Nat
abbrev Mem : Type := Int → Int → Int
abbrev aI (z : Int) : AV := Sum.inl z
abbrev aJ (z : Int) : AV := Sum.inr (Sum.inl z)
abbrev aR (z : Int) : AV := Sum.inr (Sum.inr (Sum.inl z))
abbrev aF (k : Nat) : AV := Sum.inr (Sum.inr (Sum.inr k))
def i32 (z : Int) : Prop := -2147483648 ≤ z ∧ z ≤ 2147483647
def i64 (z : Int) : Prop := -9223372036854775808 ≤ z ∧ z ≤ 9223372036854775807
def w32 (z : Int) : Int := (z + 2147483648) % 4294967296 - 2147483648
def w64 (z : Int) : Int := (z + 9223372036854775808) % 18446744073709551616 - 9223372036854775808
theorem w32_in (z : Int) : i32 (w32 z) := by unfold i32 w32; omega
theorem w32_id {z : Int} (h : i32 z) : w32 z = z := by unfold i32 at h; unfold w32; omega
theorem w32_ok {z : Int} (h1 : -2147483648 ≤ z) (h2 : z ≤ 2147483647) : w32 z = z := w32_id ⟨h1, h2⟩
theorem w32_cong {x y : Int} (h : x % 4294967296 = y % 4294967296) : w32 x = w32 y := by unfold w32; omega
theorem w32_mod (x : Int) : w32 x % 4294967296 = x % 4294967296 := by unfold w32; omega
theorem bmod_w32 (z : Int) : z.bmod 4294967296 = w32 z := by
  unfold w32 Int.bmod
  simp only [show ((4294967296 : Nat) : Int) = 4294967296 from rfl, show ((4294967296 : Int) + 1) / 2 = 2147483648 from rfl]
  split <;> omega
theorem bmod_w64 (z : Int) : z.bmod 18446744073709551616 = w64 z := by
  unfold w64 Int.bmod
  simp only [show ((18446744073709551616 : Nat) : Int) = 18446744073709551616 from rfl, show ((18446744073709551616 : Int) + 1) / 2 = 9223372036854775808 from rfl]
  split <;> omega
theorem tI {z : Int} (h : i32 z) : (Int32.ofInt z).toInt = z := Int32.toInt_ofInt_of_le (by simpa using h.1) (by have := h.2; omega)
theorem tJ {z : Int} (h : i64 z) : (Int64.ofInt z).toInt = z := Int64.toInt_ofInt_of_le (by simpa using h.1) (by have := h.2; omega)
theorem nT (x : Int32) : i32 x.toInt := ⟨by have := x.le_toInt; omega, by have := x.toInt_lt; omega⟩
theorem nTJ (x : Int64) : i64 x.toInt := ⟨by have := x.le_toInt; omega, by have := x.toInt_lt; omega⟩
theorem w64_id {z : Int} (h : i64 z) : w64 z = z := by unfold i64 at h; unfold w64; omega
theorem i64_of {z : Int} (h : i32 z) : i64 z := by unfold i32 at h; unfold i64; omega
theorem ofI_w (z : Int) : Int32.ofInt (w32 z) = Int32.ofInt z := Int32.toInt_inj.mp (by
  rw [Int32.toInt_ofInt, Int32.toInt_ofInt]
  show (w32 z).bmod 4294967296 = z.bmod 4294967296
  rw [bmod_w32, bmod_w32]; exact w32_id (w32_in z))
theorem o_add {a b : Int} (ha : i32 a) (hb : i32 b) : Int32.ofInt a + Int32.ofInt b = Int32.ofInt (w32 (a + b)) := Int32.toInt_inj.mp (by
  rw [Int32.toInt_add, tI ha, tI hb, tI (w32_in _)]; exact bmod_w32 _)
theorem o_sub {a b : Int} (ha : i32 a) (hb : i32 b) : Int32.ofInt a - Int32.ofInt b = Int32.ofInt (w32 (a - b)) := Int32.toInt_inj.mp (by
  rw [Int32.toInt_sub, tI ha, tI hb, tI (w32_in _)]; exact bmod_w32 _)
theorem o_mul {a b : Int} (ha : i32 a) (hb : i32 b) : Int32.ofInt a * Int32.ofInt b = Int32.ofInt (w32 (a * b)) := Int32.toInt_inj.mp (by
  rw [Int32.toInt_mul, tI ha, tI hb, tI (w32_in _)]; exact bmod_w32 _)
theorem o_neg {a : Int} (ha : i32 a) : -Int32.ofInt a = Int32.ofInt (w32 (-a)) := Int32.toInt_inj.mp (by
  rw [Int32.toInt_neg, tI ha, tI (w32_in _)]; exact bmod_w32 _)
theorem o_div {a b : Int} (ha : i32 a) (hb : i32 b) : Int32.ofInt a / Int32.ofInt b = Int32.ofInt (w32 (a.tdiv b)) := Int32.toInt_inj.mp (by
  rw [Int32.toInt_div, tI ha, tI hb, tI (w32_in _)]; exact bmod_w32 _)
theorem o_ne {b : Int} (hb : i32 b) (h : ¬ b = 0) : ¬ Int32.ofInt b = 0 := fun e => h (by
  have := congrArg Int32.toInt e
  rwa [tI hb, Int32.toInt_zero] at this)
theorem o_rem {a b : Int} (ha : i32 a) (hb : i32 b) (h : ¬ b = 0) : Int32.ofInt a - Int32.ofInt a / Int32.ofInt b * Int32.ofInt b = Int32.ofInt (a.tmod b) := by
  rw [o_div ha hb, o_mul (w32_in _) hb, o_sub ha (w32_in _)]
  have e : w32 (a - w32 (w32 (a.tdiv b) * b)) = w32 (a.tmod b) := by
    apply w32_cong
    rw [Int.sub_emod, w32_mod, ← Int.sub_emod, Int.tmod_def, Int.sub_emod, Int.mul_emod, w32_mod, ← Int.mul_emod, ← Int.sub_emod, Int.mul_comm]
  rw [e, ofI_w]
theorem i32_rem {a b : Int} (ha : i32 a) (h : ¬ b = 0) : i32 (a.tmod b) := by
  unfold i32 at ha ⊢
  have h1 : (a.tmod b).natAbs ≤ a.natAbs := by
    rw [Int.natAbs_tmod]
    exact Nat.mod_le _ _
  rcases Int.le_total 0 a with q | q
  · have := Int.tmod_nonneg b q
    omega
  · have h2 := Int.tmod_nonneg b (a := -a) (by omega)
    rw [Int.neg_tmod] at h2
    omega
def or32 (a b : Int) : Int := (Int32.ofInt a ||| Int32.ofInt b).toInt
def and32 (a b : Int) : Int := (Int32.ofInt a &&& Int32.ofInt b).toInt
def xor32 (a b : Int) : Int := (Int32.ofInt a ^^^ Int32.ofInt b).toInt
def shl32 (a b : Int) : Int := (Int32.ofInt a <<< (Int32.ofInt b &&& 31)).toInt
def shr32 (a b : Int) : Int := (Int32.ofInt a >>> (Int32.ofInt b &&& 31)).toInt
def ushr32 (a b : Int) : Int := ((Int32.ofInt a).toUInt32 >>> ((Int32.ofInt b).toUInt32 &&& Int32.toUInt32 31)).toInt32.toInt
def shl64 (a s : Int) : Int := (Int64.ofInt a <<< ((Int32.ofInt s).toInt64 &&& 63)).toInt
def or64 (a b : Int) : Int := (Int64.ofInt a ||| Int64.ofInt b).toInt
def and64 (a b : Int) : Int := (Int64.ofInt a &&& Int64.ofInt b).toInt
def w8 (z : Int) : Int := (z + 128) % 256 - 128
def w16 (z : Int) : Int := (z + 32768) % 65536 - 32768
def cmp64 (a b : Int) : Int := if b < a then 1 else if a = b then 0 else -1
theorem o_i2l {a : Int} (ha : i32 a) : (Int32.ofInt a).toInt64 = Int64.ofInt a := Int64.toInt_inj.mp (by
  rw [Int32.toInt_toInt64, tI ha, tJ (i64_of ha)])
theorem o_l2i {a : Int} (ha : i64 a) : (Int64.ofInt a).toInt32 = Int32.ofInt (w32 a) := Int32.toInt_inj.mp (by
  rw [Int64.toInt_toInt32, tJ ha, tI (w32_in _)]; exact bmod_w32 _)
theorem bmod_w8 (z : Int) : z.bmod 256 = w8 z := by
  unfold w8 Int.bmod
  simp only [show ((256 : Nat) : Int) = 256 from rfl, show ((256 : Int) + 1) / 2 = 128 from rfl]
  split <;> omega
theorem bmod_w16 (z : Int) : z.bmod 65536 = w16 z := by
  unfold w16 Int.bmod
  simp only [show ((65536 : Nat) : Int) = 65536 from rfl, show ((65536 : Int) + 1) / 2 = 32768 from rfl]
  split <;> omega
theorem i32_w8 (z : Int) : i32 (w8 z) := by unfold i32 w8; omega
theorem i32_w16 (z : Int) : i32 (w16 z) := by unfold i32 w16; omega
theorem o_i2b {a : Int} (ha : i32 a) : (Int32.ofInt a).toInt8.toInt32 = Int32.ofInt (w8 a) := Int32.toInt_inj.mp (by
  rw [Int8.toInt_toInt32, Int32.toInt_toInt8, tI ha, tI (i32_w8 _)]; exact bmod_w8 _)
theorem o_i2s {a : Int} (ha : i32 a) : (Int32.ofInt a).toInt16.toInt32 = Int32.ofInt (w16 a) := Int32.toInt_inj.mp (by
  rw [Int16.toInt_toInt32, Int32.toInt_toInt16, tI ha, tI (i32_w16 _)]; exact bmod_w16 _)
theorem o_lcmp {a b : Int} (ha : i64 a) (hb : i64 b) : lg_cmp (Int64.ofInt a) (Int64.ofInt b) = Int32.ofInt (cmp64 a b) := by
  unfold lg_cmp cmp64
  have h1 : (Int64.ofInt a > Int64.ofInt b) ↔ b < a := by
    show Int64.ofInt b < Int64.ofInt a ↔ _
    rw [Int64.lt_iff_toInt_lt, tJ ha, tJ hb]
  have h2 : (Int64.ofInt a = Int64.ofInt b) ↔ a = b := ⟨fun e => by have := congrArg Int64.toInt e; rwa [tJ ha, tJ hb] at this, fun e => by rw [e]⟩
  by_cases c1 : b < a
  · rw [if_pos (h1.mpr c1), if_pos c1]; rfl
  · rw [if_neg (fun q => c1 (h1.mp q)), if_neg c1]
    by_cases c2 : a = b
    · rw [if_pos (h2.mpr c2), if_pos c2]; rfl
    · rw [if_neg (fun q => c2 (h2.mp q)), if_neg c2]; rfl
theorem o_lt {a b : Int} (ha : i32 a) (hb : i32 b) : Int32.ofInt a < Int32.ofInt b ↔ a < b := by rw [Int32.lt_iff_toInt_lt, tI ha, tI hb]
theorem o_le {a b : Int} (ha : i32 a) (hb : i32 b) : Int32.ofInt a ≤ Int32.ofInt b ↔ a ≤ b := by rw [Int32.le_iff_toInt_le, tI ha, tI hb]
theorem o_eq {a b : Int} (ha : i32 a) (hb : i32 b) : Int32.ofInt a = Int32.ofInt b ↔ a = b := ⟨fun e => by have := congrArg Int32.toInt e; rwa [tI ha, tI hb] at this, fun e => by rw [e]⟩
theorem o_z : (0 : Int32) = Int32.ofInt 0 := rfl
theorem i32_0 : i32 0 := ⟨by decide, by decide⟩
theorem o_in {z : Int} {n : Nat} (h : i32 z) (h0 : 0 ≤ z) (h1 : z < n) : vp_in (Int32.ofInt z) n := vp_in_iff.mpr (by rw [tI h]; exact ⟨h0, h1⟩)
theorem o_cl {z : Int} (h : i32 z) (h0 : 0 ≤ z) : (Int32.ofInt z).toNatClampNeg = z.toNat := by
  show (Int32.ofInt z).toInt.toNat = _
  rw [tI h]
/-! values, locals -/
def cV (b : Nat) (fa : Nat → Nat) : AV → Value
  | .inl z => .int (Int32.ofInt z)
  | .inr (.inl z) => .long (Int64.ofInt z)
  | .inr (.inr (.inl i)) => .ref (b + i.toNat)
  | .inr (.inr (.inr 0)) => if fa 0 = 0 then .null else .ref (fa 0 - 1)
  | .inr (.inr (.inr (k + 1))) => .ref (fa (k + 1))
def nV : AV → Prop
  | .inl z => i32 z
  | .inr (.inl z) => i64 z
  | .inr (.inr (.inl i)) => 0 ≤ i
  | .inr (.inr (.inr _)) => True
def nVs (st : List AV) : Prop := ∀ v ∈ st, nV v
def LV (b : Nat) (fa : Nat → Nat) (nL : Nat) (ls : List (Option AV)) (la : Array Slot) : Prop :=
  la.size = nL ∧ lv_wf la ∧ ls.length = nL ∧ ∀ (i : Nat) (v : AV), ls[i]? = some (some v) → la[i]? = some (.val (cV b fa v)) ∧ nV v
def isJ : AV → Bool
  | .inr (.inl _) => true
  | _ => false
theorem cV_cat {b : Nat} {fa : Nat → Nat} (v : AV) : (cV b fa v).category = if isJ v = true then 2 else 1 := by
  rcases v with z | z | z | z
  · rfl
  · rfl
  · rfl
  · cases z with
    | zero =>
      show (if fa 0 = 0 then Value.null else Value.ref (fa 0 - 1)).category = 1
      split <;> rfl
    | succ k => rfl
/-- a store of one slot spoils no long -/
def okS (ls : List (Option AV)) : Nat → Bool
  | 0 => true
  | i + 1 => match ls[i]? with
    | some (some v) => !isJ v
    | _ => true
def LL (b : Nat) (fa : Nat → Nat) (ls : List (Option AV)) : List (Nat × Value) := (List.range ls.length).filterMap (fun i => match ls[i]? with
  | some (some v) => some (i, cV b fa v)
  | _ => none)
theorem LL_mem {b : Nat} {fa : Nat → Nat} {ls : List (Option AV)} {q : Nat × Value} : q ∈ LL b fa ls ↔ ∃ v, ls[q.1]? = some (some v) ∧ q.2 = cV b fa v := by
  unfold LL
  rw [List.mem_filterMap]
  constructor
  · rintro ⟨i, hi, h⟩
    split at h
    · rename_i v hv
      cases h
      exact ⟨v, hv, rfl⟩
    · cases h
  · rintro ⟨v, hv, h⟩
    refine ⟨q.1, List.mem_range.mpr (List.getElem?_eq_some_iff.mp hv).1, ?_⟩
    rw [hv]
    show some (q.1, cV b fa v) = some q
    rw [← h]
theorem LV_has {b : Nat} {fa : Nat → Nat} {nL : Nat} {ls : List (Option AV)} {la : Array Slot} (h : LV b fa nL ls la) : lv_has la nL (LL b fa ls) := by
  refine ⟨h.1, h.2.1, fun q hq => ?_⟩
  obtain ⟨v, hv, e⟩ := LL_mem.mp hq
  rw [e]
  exact (h.2.2.2 _ _ hv).1
theorem LV_set {b : Nat} {fa : Nat → Nat} {nL i : Nat} {ls : List (Option AV)} {la la' : Array Slot} {v : AV} (h : LV b fa nL ls la) (hn : nV v) (hi : i < nL) (ho : okS ls i = true)
    (h' : lv_has la' nL ((i, cV b fa v) :: (LL b fa ls).filter (fun q => !(q.1 == i) && !(q.1 + 1 == i && q.2.category == 2)))) : LV b fa nL (ls.set i (some v)) la' := by
  refine ⟨h'.1, h'.2.1, by rw [List.length_set]; exact h.2.2.1, fun j w hw => ?_⟩
  by_cases hj : j = i
  · subst hj
    rw [List.getElem?_set_self (by rw [h.2.2.1]; exact hi)] at hw
    cases hw
    exact ⟨h'.2.2 (j, cV b fa v) List.mem_cons_self, hn⟩
  · rw [List.getElem?_set_ne (Ne.symm hj)] at hw
    refine ⟨h'.2.2 (j, cV b fa w) (List.mem_cons_of_mem _ (List.mem_filter.mpr ⟨LL_mem.mpr ⟨w, hw, rfl⟩, ?_⟩)), (h.2.2.2 _ _ hw).2⟩
    have hc : (!(j + 1 == i && (cV b fa w).category == 2)) = true := by
      by_cases he : j + 1 = i
      · subst he
        simp only [okS, hw] at ho
        have e2 := cV_cat (b := b) (fa := fa) w
        have : isJ w = false := by simpa using ho
        rw [this] at e2
        rw [e2]
        simp
      · simp [he]
    simp [hj]
    simpa using hc
end
section
/-! the world: cells by the order of making -/
/-- where the world begins, its classes, its rows' classes, where the cells that are not its own lie; whether it is still being made -/
abbrev BX : Type := Nat × (va_G × ((Nat → ClassId) × ((Nat → Nat) × Bool)))
def nFl (c : Nat) : Nat := [5, 12, 4, 10, 3, 4, 12, 10, 68].getD c 0
def tyFl (c k : Nat) : FieldType := match c with
  | 0 => tyX0 k
  | 1 => tyX1 k
  | 2 => tyX2 k
  | 3 => tyX3 k
  | 4 => tyX4 k
  | 5 => tyX5 k
  | 6 => tyX6 k
  | 7 => tyX7 k
  | _ => tyX8 k
def isRT : FieldType → Bool
  | .array _ => true
  | .object _ => true
  | _ => false
def mkR (b : Nat) (z : Int) : Value := if z < 0 then .null else .ref (b + z.toNat)
def mkF (b : Nat) (ty : FieldType) (z : Int) : Value := if isRT ty = true then mkR b z else .int (Int32.ofInt z)
def flds (b c : Nat) (m : Int → Int) : List Value := (List.range (nFl c)).map (fun k => mkF b (tyFl c k) (m (k : Int)))
def cellE (b : Nat) (cA : Nat → ClassId) (sh : Shp) (m : Int → Int) : va_E :=
  if sh.1 < 3 then .inl (cA sh.1, sh.2, .inl (fun k => Int32.ofInt (m (k : Int))))
  else if sh.1 = 3 then .inl (cA 3, sh.2, .inr (.inl (fun k => Int64.ofInt (m (k : Int)))))
  else if sh.1 < 10 then .inl (cA sh.1, sh.2, .inr (.inr (.inr (.inr (fun k => if m (k : Int) < 0 then none else some (b + (m (k : Int)).toNat))))))
  else .inr (sh.1 - 10, flds b (sh.1 - 10) m)
def wld (b : Nat) (cA : Nat → ClassId) (S : List Shp) (M : Mem) : va_W := (List.range S.length).map (fun i => (b + i, cellE b cA (S.getD i (0, 0)) (M (i : Int))))
def shp (S : List Shp) (i : Int) : Option Shp := if i < 0 then none else S[i.toNat]?
def stM (M : Mem) (i k v : Int) : Mem := fun j => if j = i then (fun q => if q = k then v else M i q) else M j
def Nrm (S : List Shp) (M : Mem) : Prop := ∀ (i k : Int) (sh : Shp), shp S i = some sh → (sh.1 = 3 → i64 (M i k)) ∧ (sh.1 ≠ 3 → i32 (M i k)) ∧ (sh.1 = 2 → M i k = 0 ∨ M i k = 1)
def tysL (cA : Nat → ClassId) : List (ClassId × FieldType) := [(cA 0, .int), (cA 1, .byte), (cA 2, .boolean), (cA 3, .long), (cA 4, .object RX3), (cA 5, .object RX4)]
def WR (B : BX) (S : List Shp) (M : Mem) (H : Heap) : Prop := va_P B.2.1 vwCl (wld B.1 B.2.2.1 S M) H ∧ (B.2.2.2.2 = true → H.size = B.1 + S.length) ∧ Nrm S M
theorem shp_at {S : List Shp} {i : Int} {sh : Shp} (h : shp S i = some sh) : 0 ≤ i ∧ i.toNat < S.length ∧ S[i.toNat]? = some sh ∧ ((i.toNat : Nat) : Int) = i := by
  unfold shp at h
  split at h
  · cases h
  · rename_i h0
    exact ⟨by omega, (List.getElem?_eq_some_iff.mp h).1, h, by omega⟩
theorem wld_len (b : Nat) (cA : Nat → ClassId) (S : List Shp) (M : Mem) : (wld b cA S M).length = S.length := by simp [wld]
theorem wld_get {b : Nat} {cA : Nat → ClassId} {S : List Shp} {M : Mem} {k : Nat} : (wld b cA S M)[k]? = if k < S.length then some (b + k, cellE b cA (S.getD k (0, 0)) (M (k : Int))) else none := by
  unfold wld
  rw [List.getElem?_map]
  by_cases hk : k < S.length
  · rw [List.getElem?_range hk, if_pos hk]; rfl
  · rw [List.getElem?_eq_none (by simp; omega), if_neg hk]; rfl
theorem wld_at {b : Nat} {cA : Nat → ClassId} {S : List Shp} {M : Mem} {i : Int} {sh : Shp} (h : shp S i = some sh) : (wld b cA S M)[i.toNat]? = some (b + i.toNat, cellE b cA sh (M i)) := by
  obtain ⟨h0, h1, h2, h3⟩ := shp_at h
  rw [wld_get, if_pos h1, h3, List.getD_eq_getElem?_getD, h2]
  rfl
theorem stM_self {M : Mem} {i k v : Int} : stM M i k v i = fun q => if q = k then v else M i q := by unfold stM; rw [if_pos rfl]
theorem stM_ne {M : Mem} {i k v j : Int} (h : j ≠ i) : stM M i k v j = M j := by unfold stM; rw [if_neg h]
theorem wld_set {b : Nat} {cA : Nat → ClassId} {S : List Shp} {M M' : Mem} {i : Int} {sh : Shp} {e : va_E} (h : shp S i = some sh) (he : e = cellE b cA sh (M' i)) (hM : ∀ j, j ≠ i → M' j = M j) : (wld b cA S M).set i.toNat (b + i.toNat, e) = wld b cA S M' := by
  obtain ⟨h0, h1, h2, h3⟩ := shp_at h
  apply List.ext_getElem?
  intro k
  by_cases hk : k = i.toNat
  · subst hk
    rw [List.getElem?_set_self (by rw [wld_len]; exact h1), wld_at h, he]
  · rw [List.getElem?_set_ne (Ne.symm hk), wld_get, wld_get]
    split
    · rw [hM (k : Int) (by omega)]
    · rfl
theorem wld_D (b : Nat) (cA : Nat → ClassId) (S : List Shp) (M : Mem) : va_D (fun q => b ≤ q) (wld b cA S M) := by
  refine ⟨fun i j p q hi hj hpq => ?_, fun k q hk => ?_⟩
  · rw [wld_get] at hi hj
    split at hi <;> split at hj <;> simp_all
    rw [← hi, ← hj] at hpq
    simpa using hpq
  · rw [wld_get] at hk
    split at hk
    · cases hk
      show b ≤ b + k
      omega
    · cases hk
theorem wld_push {b : Nat} {cA : Nat → ClassId} {S : List Shp} {M M' : Mem} {sh : Shp} {e : va_E} (he : e = cellE b cA sh (M' (S.length : Int))) (hM : ∀ j, j ≠ (S.length : Int) → M' j = M j) : wld b cA S M ++ [(b + S.length, e)] = wld b cA (S ++ [sh]) M' := by
  apply List.ext_getElem?
  intro k
  rw [wld_get]
  by_cases hk : k < S.length
  · rw [List.getElem?_append_left (by rw [wld_len]; exact hk), wld_get, if_pos hk, if_pos (by simp; omega), hM (k : Int) (by omega)]
    have : (S ++ [sh]).getD k (0, 0) = S.getD k (0, 0) := by
      rw [List.getD_eq_getElem?_getD, List.getD_eq_getElem?_getD, List.getElem?_append_left hk]
    rw [this]
  · rw [List.getElem?_append_right (by rw [wld_len]; omega), wld_len]
    by_cases hk2 : k = S.length
    · subst hk2
      rw [if_pos (by simp), Nat.sub_self]
      have : (S ++ [sh]).getD S.length (0, 0) = sh := by
        rw [List.getD_eq_getElem?_getD, List.getElem?_append_right (Nat.le_refl _), Nat.sub_self]; rfl
      rw [this, he]
      rfl
    · rw [if_neg (by simp; omega)]
      rw [List.getElem?_eq_none (by simp; omega)]
theorem Nrm_st {S : List Shp} {M : Mem} {i k v : Int} (h : Nrm S M) {sh : Shp} (hs : shp S i = some sh) (hv : (sh.1 = 3 → i64 v) ∧ (sh.1 ≠ 3 → i32 v) ∧ (sh.1 = 2 → v = 0 ∨ v = 1)) : Nrm S (stM M i k v) := by
  intro j q sh' h'
  unfold stM
  by_cases hj : j = i
  · rw [if_pos hj]
    subst hj
    cases hs.symm.trans h'
    show _ ∧ _
    by_cases hq : q = k
    · rw [if_pos hq]; exact hv
    · rw [if_neg hq]; exact h j q sh hs
  · rw [if_neg hj]
    exact h j q sh' h'
theorem flds_get {b c : Nat} {m : Int → Int} {k : Nat} (hk : k < nFl c) : (flds b c m)[k]? = some (mkF b (tyFl c k) (m (k : Int))) := by
  unfold flds
  rw [List.getElem?_map, List.getElem?_range hk]
  rfl
theorem flds_len (b c : Nat) (m : Int → Int) : (flds b c m).length = nFl c := by simp [flds]
theorem flds_set {b c : Nat} {m m' : Int → Int} {k : Nat} {v : Value} (hk : k < nFl c) (hv : v = mkF b (tyFl c k) (m' (k : Int))) (hm : ∀ j : Nat, j ≠ k → m' (j : Int) = m (j : Int)) : (flds b c m).set k v = flds b c m' := by
  apply List.ext_getElem?
  intro j
  by_cases hj : j = k
  · subst hj
    rw [List.getElem?_set_self (by rw [flds_len]; exact hk), flds_get hk, hv]
  · rw [List.getElem?_set_ne (Ne.symm hj)]
    by_cases hl : j < nFl c
    · rw [flds_get hl, flds_get hl, hm j hj]
    · rw [List.getElem?_eq_none (by rw [flds_len]; omega), List.getElem?_eq_none (by rw [flds_len]; omega)]
/-! what the class's static row, its text constants and its nest mates are, at a state -/
def tabA : List Int := [-1, 0, 0, 0, 1, 2, 3]
def sLen : List Nat := [20, 6, 3, 10]
def sByt : List (List Int32) := [[108, 111, 117, 100, 115, 111, 102, 116, 119, 97, 108, 108, 99, 97, 108, 109, 119, 101, 97, 114], [115, 104, 107, 118, 108, 121], [60, 61, 62], [48, 49, 50, 51, 52, 53, 54, 55, 56, 57]]
def nests : List Cond := [.methodLinkNest "SqueakShop" 13 yX5_init "SqueakShop", .methodLinkNest "SqueakShop" 26 yX6_init "SqueakShop", .methodLinkNest "SqueakShop" 33 yX0_init "SqueakShop", .methodLinkNest "SqueakShop" 60 yX4_init "SqueakShop", .methodLinkNest "SqueakShop$Ways" 115 yX7_isHouse "SqueakShop"]
def isNest : Cond → Bool
  | .methodLinkNest .. => true
  | _ => false
def FO (B : BX) (s : State) : Prop :=
  va_Z "SqueakShop" "ABOVE" "[I" (.ref (B.2.2.2.1 1)) (fun q => B.1 ≤ q) s s.heap ∧ va_T .int (B.2.2.2.1 1) 7 (fun j => .int (Int32.ofInt (tabA.getD j 0))) (fun q => B.1 ≤ q) s s.heap ∧
  vk_S 4 sLen sByt (fun i => B.2.2.2.1 (2 + i)) (fun i => B.2.2.2.1 (10 + i)) (fun q => B.1 ≤ q) s s.heap ∧
  vk_R "SqueakShop$Text" 63 "loudsoftwallcalmwear" (B.2.2.2.1 2) s ∧ vk_R "SqueakShop$Text" 90 "shkvly" (B.2.2.2.1 3) s ∧ vk_R "SqueakShop$Text" 96 "<=>" (B.2.2.2.1 4) s ∧ vk_R "SqueakShop$Text" 98 "0123456789" (B.2.2.2.1 5) s ∧
  va_Zq "jdk/internal/util/Preconditions" "SIOOBE_FORMATTER" "Ljava/util/function/BiFunction;" (fun q => B.1 ≤ q) s s.heap ∧ va_Z "java/lang/String" "COMPACT_STRINGS" "Z" (.int 1) (fun q => B.1 ≤ q) s s.heap ∧
  ∀ w ∈ nests, va_Nw w s
theorem FO_moved {B : BX} {s U : State} {H : Heap} {locs : List Loc} (h : FO B s) (hS : va_S (fun q => B.1 ≤ q) s.heap H locs) (hU : U.heap = H) (hW : s.WarmedH U.vm) : FO B U := by
  obtain ⟨h1, h2, h3, h4, h5, h6, h7, h8, h8b, h9⟩ := h
  subst hU
  refine ⟨(h1.moved hW.alike).kept hS.2.1, (h2.moved hW.alike).kept hS.2.1, (h3.moved hW.alike).kept hS.2.1, h4.warm hW, h5.warm hW, h6.warm hW, h7.warm hW, (h8.moved hW.alike).kept hS.2.1, (h8b.moved hW.alike).kept hS.2.1, fun w hw => ?_⟩
  have hn : isNest w = true := by
    have : nests.all isNest = true := by decide
    exact List.all_eq_true.mp this w hw
  cases w <;> simp [isNest] at hn
  exact va_Nw.warmM hW (h9 _ hw)
theorem FO_same {B : BX} {s U : State} (h : FO B s) (hH : U.heap = s.heap) (hv : U.vm = s.vm) : FO B U := by
  obtain ⟨h1, h2, h3, h4, h5, h6, h7, h8, h8b, h9⟩ := h
  have ha : s.vm.Alike U.vm := by rw [hv]; exact Vm.Alike.refl _
  have hq : ∀ a : Nat, a < s.heap.size → ¬ (B.1 ≤ a) → U.heap[a]? = s.heap[a]? := fun a _ _ => by rw [hH]
  refine ⟨(h1.moved ha).kept hq, (h2.moved ha).kept hq, (h3.moved ha).kept hq, h4.same hv, h5.same hv, h6.same hv, h7.same hv, (h8.moved ha).kept hq, (h8b.moved ha).kept hq, fun w hw => ?_⟩
  have hn : isNest w = true := by
    have : nests.all isNest = true := by decide
    exact List.all_eq_true.mp this w hw
  cases w <;> simp [isNest] at hn
  exact va_Nw.same rfl hv.symm (h9 _ hw)
/-! the good words -/
def BIG : List Cond := lw_tbl.filter goodWord
theorem big_of {w : Cond} (i : Nat) (h : lw_tbl[i]? = some w) (hg : goodWord w = true) : w ∈ BIG := List.mem_filter.mpr ⟨List.mem_of_getElem? h, hg⟩
theorem big_good {ws : List Cond} (h : ∀ w ∈ ws, w ∈ BIG) : GoodIn BIG ws := fun w hw => ⟨h w hw, good_of_word (List.mem_filter.mp (h w hw)).2⟩
end
section
/-! the rules of the light machine: each is a kit row, said over it -/
abbrev KX : Type := Program × (Launch × (Env × (Room × (State × (MethodId × (Array Value × (List Frame × (Method × Code))))))))
def Wx (K : KX) (B : BX) (Z : State → Prop) (cs ss : Nat) (S : List Shp) (nL : Nat) (M : Mem) (pc : Nat) (ls : List (Option AV)) (st : List AV) : Prop :=
  ∀ (H : Heap) (locs : List Loc) (la : Array Slot), WR B S M H → va_S (fun q => B.1 ≤ q) K.2.2.2.2.1.heap H locs → LV B.1 B.2.2.2.1 nL ls la → nVs st →
    W K.1 K.2.1 K.2.2.1 K.2.2.2.1 K.2.2.2.2.1 K.2.2.2.2.2.1 K.2.2.2.2.2.2.1 K.2.2.2.2.2.2.2.1 K.2.2.2.2.2.2.2.2.1 K.2.2.2.2.2.2.2.2.2 H locs cs ss Z (F0 K.2.2.2.2.2.1 pc la (st.map (cV B.1 B.2.2.2.1)))
/-- what holds all through a method's run -/
def Cx (K : KX) (B : BX) (ph : Bool) (y : MethodName) (cc : ByteArray) (nL : Nat) (ret : Option FieldType) (d mc ms : Nat) : Prop :=
  K.1.tables.exec = Jvm.exec ∧ K.2.2.2.2.2.2.2.2.2.code = cc ∧ K.2.2.2.2.2.2.2.2.2.maxLocals = nL ∧ K.2.2.2.2.1.vm.findClass y.cls = some K.2.2.2.2.2.1.cls ∧ (∀ w ∈ BIG, w.before K.2.2.2.2.2.2.1 K.2.2.2.2.1 = true) ∧
  va_K B.2.1 vwCl (tysL B.2.2.1) K.2.2.2.2.1 ∧ FO B K.2.2.2.2.1 ∧ B.1 ≤ K.2.2.2.2.1.heap.size ∧ K.2.2.2.2.2.2.2.2.1.locks = false ∧ K.2.2.2.2.2.2.2.2.1.sig.returnType = ret ∧ K.2.2.2.2.2.2.2.2.1.name = y.name ∧
  B.2.2.2.2 = ph ∧ (d ≤ K.2.2.2.1.frames ∧ 40 * d ≤ K.2.2.2.1.locals ∧ mc ≤ K.2.2.2.1.cells ∧ ms ≤ K.2.2.2.1.slots)
theorem nVs_tl {v : AV} {st : List AV} (h : nVs (v :: st)) : nVs st := fun w hw => h w (List.mem_cons_of_mem _ hw)
theorem nVs_hd {v : AV} {st : List AV} (h : nVs (v :: st)) : nV v := h v List.mem_cons_self
theorem nVs_cn {v : AV} {st : List AV} (h1 : nV v) (h2 : nVs st) : nVs (v :: st) := fun w hw => by
  rcases List.mem_cons.mp hw with e | e
  · rw [e]; exact h1
  · exact h2 w e
theorem catSum (b : Nat) (fa : Nat → Nat) (st : List AV) : ((st.map (cV b fa)).map fun v => v.category).sum ≤ 2 * st.length := by
  induction st with
  | nil => exact Nat.le_refl 0
  | cons v l ih =>
    have := cV_cat (b := b) (fa := fa) v
    simp only [List.map_cons, List.sum_cons, List.length_cons]
    split at this <;> omega
theorem i32_cmp (a b : Int) : i32 (cmp64 a b) := by
  unfold cmp64 i32
  by_cases h : b < a
  · rw [if_pos h]; omega
  · rw [if_neg h]
    by_cases h2 : a = b
    · rw [if_pos h2]; omega
    · rw [if_neg h2]; omega
section MX
variable {K : KX} {B : BX} {Z : State → Prop} {cs ss : Nat} {S : List Shp} {nL : Nat} {M : Mem} {pc : Nat} {ls : List (Option AV)} {rest : List AV} {y : MethodName} {cc : ByteArray} {ret : Option FieldType} {d mc ms : Nat} {ph : Bool}

theorem mx_iconst (C : Cx K B ph y cc nL ret d mc ms) {n z : Int} (hd : decode cc pc = .ok (.iconst n, 1)) (hz : Int32.ofInt n = Int32.ofInt z) (hi : i32 z) (k : Wx K B Z cs ss S nL M (pc + 1) ls (aI z :: rest)) : Wx K B Z cs ss S nL M pc ls rest := by
  obtain ⟨p, l, e, R, s, m, args, below, meth, c⟩ := K
  intro H locs la hW hS hL hn
  exact lv_iconst C.1 C.2.1 hd hz (k H locs la hW hS hL (nVs_cn hi hn))

theorem mx_bipush (C : Cx K B ph y cc nL ret d mc ms) {n z : Int} (hd : decode cc pc = .ok (.bipush n, 2)) (hz : (Int8.ofInt n).toInt32 = Int32.ofInt z) (hi : i32 z) (k : Wx K B Z cs ss S nL M (pc + 2) ls (aI z :: rest)) : Wx K B Z cs ss S nL M pc ls rest := by
  obtain ⟨p, l, e, R, s, m, args, below, meth, c⟩ := K
  intro H locs la hW hS hL hn
  exact lv_bipush C.1 C.2.1 hd hz (k H locs la hW hS hL (nVs_cn hi hn))

theorem mx_sipush (C : Cx K B ph y cc nL ret d mc ms) {n z : Int} (hd : decode cc pc = .ok (.sipush n, 3)) (hz : (Int16.ofInt n).toInt32 = Int32.ofInt z) (hi : i32 z) (k : Wx K B Z cs ss S nL M (pc + 3) ls (aI z :: rest)) : Wx K B Z cs ss S nL M pc ls rest := by
  obtain ⟨p, l, e, R, s, m, args, below, meth, c⟩ := K
  intro H locs la hW hS hL hn
  exact lv_sipush C.1 C.2.1 hd hz (k H locs la hW hS hL (nVs_cn hi hn))

theorem mx_lconst (C : Cx K B ph y cc nL ret d mc ms) {n : Fin 2} {z : Int} (hd : decode cc pc = .ok (.lconst n, 1)) (hz : Int64.ofNat (n : Nat) = Int64.ofInt z) (hi : i64 z) (k : Wx K B Z cs ss S nL M (pc + 1) ls (aJ z :: rest)) : Wx K B Z cs ss S nL M pc ls rest := by
  obtain ⟨p, l, e, R, s, m, args, below, meth, c⟩ := K
  intro H locs la hW hS hL hn
  exact lv_lconst C.1 C.2.1 hd hz (k H locs la hW hS hL (nVs_cn hi hn))

theorem mx_ldc (C : Cx K B ph y cc nL ret d mc ms) {idx : Nat} {z : Int} (hd : decode cc pc = .ok (.ldc idx, 2)) (hw : Cond.constant y.cls idx (Int32.ofInt z) ∈ BIG) (hi : i32 z) (k : Wx K B Z cs ss S nL M (pc + 2) ls (aI z :: rest)) : Wx K B Z cs ss S nL M pc ls rest := by
  obtain ⟨p, l, e, R, s, m, args, below, meth, c⟩ := K
  intro H locs la hW hS hL hn
  exact lv_ldc C.1 C.2.1 C.2.2.2.1 (C.2.2.2.2.1 _ hw) hd (k H locs la hW hS hL (nVs_cn hi hn))

theorem mx_ldcw (C : Cx K B ph y cc nL ret d mc ms) {idx : Nat} {z : Int} (hd : decode cc pc = .ok (.ldc_w idx, 3)) (hw : Cond.constant y.cls idx (Int32.ofInt z) ∈ BIG) (hi : i32 z) (k : Wx K B Z cs ss S nL M (pc + 3) ls (aI z :: rest)) : Wx K B Z cs ss S nL M pc ls rest := by
  obtain ⟨p, l, e, R, s, m, args, below, meth, c⟩ := K
  intro H locs la hW hS hL hn
  exact lv_ldcw C.1 C.2.1 C.2.2.2.1 (C.2.2.2.2.1 _ hw) hd (k H locs la hW hS hL (nVs_cn hi hn))

theorem mx_ldc2 (C : Cx K B ph y cc nL ret d mc ms) {idx : Nat} {z : Int} (hd : decode cc pc = .ok (.ldc2_w idx, 3)) (hw : Cond.constantLong y.cls idx (Int64.ofInt z) ∈ BIG) (hi : i64 z) (k : Wx K B Z cs ss S nL M (pc + 3) ls (aJ z :: rest)) : Wx K B Z cs ss S nL M pc ls rest := by
  obtain ⟨p, l, e, R, s, m, args, below, meth, c⟩ := K
  intro H locs la hW hS hL hn
  exact lv_ldc2 C.1 C.2.1 C.2.2.2.1 (C.2.2.2.2.1 _ hw) hd (k H locs la hW hS hL (nVs_cn hi hn))

theorem mx_iload_n (C : Cx K B ph y cc nL ret d mc ms) {q : Fin 4} {z : Int} (hd : decode cc pc = .ok (.iload_n q, 1)) (hl : ls[(q : Nat)]? = some (some (aI z))) (k : Wx K B Z cs ss S nL M (pc + 1) ls (aI z :: rest)) : Wx K B Z cs ss S nL M pc ls rest := by
  obtain ⟨p, l, e, R, s, m, args, below, meth, c⟩ := K
  intro H locs la hW hS hL hn
  exact lv_iload_n C.1 C.2.1 hd rfl (hL.2.2.2 _ _ hl).1 (k H locs la hW hS hL (nVs_cn (hL.2.2.2 _ _ hl).2 hn))

theorem mx_iload (C : Cx K B ph y cc nL ret d mc ms) {i : Nat} {z : Int} (hd : decode cc pc = .ok (.iload i, 2)) (hl : ls[i]? = some (some (aI z))) (k : Wx K B Z cs ss S nL M (pc + 2) ls (aI z :: rest)) : Wx K B Z cs ss S nL M pc ls rest := by
  obtain ⟨p, l, e, R, s, m, args, below, meth, c⟩ := K
  intro H locs la hW hS hL hn
  exact lv_iload C.1 C.2.1 hd (hL.2.2.2 _ _ hl).1 (k H locs la hW hS hL (nVs_cn (hL.2.2.2 _ _ hl).2 hn))

theorem mx_lload_n (C : Cx K B ph y cc nL ret d mc ms) {q : Fin 4} {z : Int} (hd : decode cc pc = .ok (.lload_n q, 1)) (hl : ls[(q : Nat)]? = some (some (aJ z))) (k : Wx K B Z cs ss S nL M (pc + 1) ls (aJ z :: rest)) : Wx K B Z cs ss S nL M pc ls rest := by
  obtain ⟨p, l, e, R, s, m, args, below, meth, c⟩ := K
  intro H locs la hW hS hL hn
  exact lv_lload_n C.1 C.2.1 hd rfl (hL.2.2.2 _ _ hl).1 (k H locs la hW hS hL (nVs_cn (hL.2.2.2 _ _ hl).2 hn))

theorem mx_aload_n (C : Cx K B ph y cc nL ret d mc ms) {q : Fin 4} {z : Int} (hd : decode cc pc = .ok (.aload_n q, 1)) (hl : ls[(q : Nat)]? = some (some (aR z))) (k : Wx K B Z cs ss S nL M (pc + 1) ls (aR z :: rest)) : Wx K B Z cs ss S nL M pc ls rest := by
  obtain ⟨p, l, e, R, s, m, args, below, meth, c⟩ := K
  intro H locs la hW hS hL hn
  exact lv_aload_n C.1 C.2.1 hd rfl (hL.2.2.2 _ _ hl).1 (k H locs la hW hS hL (nVs_cn (hL.2.2.2 _ _ hl).2 hn))

theorem mx_aload (C : Cx K B ph y cc nL ret d mc ms) {i : Nat} {z : Int} (hd : decode cc pc = .ok (.aload i, 2)) (hl : ls[i]? = some (some (aR z))) (k : Wx K B Z cs ss S nL M (pc + 2) ls (aR z :: rest)) : Wx K B Z cs ss S nL M pc ls rest := by
  obtain ⟨p, l, e, R, s, m, args, below, meth, c⟩ := K
  intro H locs la hW hS hL hn
  exact lv_aload C.1 C.2.1 hd (hL.2.2.2 _ _ hl).1 (k H locs la hW hS hL (nVs_cn (hL.2.2.2 _ _ hl).2 hn))

theorem mx_fload_n (C : Cx K B ph y cc nL ret d mc ms) {q : Fin 4} {z : Nat} (hd : decode cc pc = .ok (.aload_n q, 1)) (hl : ls[(q : Nat)]? = some (some (aF (z + 1)))) (k : Wx K B Z cs ss S nL M (pc + 1) ls (aF (z + 1) :: rest)) : Wx K B Z cs ss S nL M pc ls rest := by
  obtain ⟨p, l, e, R, s, m, args, below, meth, c⟩ := K
  intro H locs la hW hS hL hn
  exact lv_aload_n C.1 C.2.1 hd rfl (hL.2.2.2 _ _ hl).1 (k H locs la hW hS hL (nVs_cn (hL.2.2.2 _ _ hl).2 hn))

theorem mx_fload (C : Cx K B ph y cc nL ret d mc ms) {i : Nat} {z : Nat} (hd : decode cc pc = .ok (.aload i, 2)) (hl : ls[i]? = some (some (aF (z + 1)))) (k : Wx K B Z cs ss S nL M (pc + 2) ls (aF (z + 1) :: rest)) : Wx K B Z cs ss S nL M pc ls rest := by
  obtain ⟨p, l, e, R, s, m, args, below, meth, c⟩ := K
  intro H locs la hW hS hL hn
  exact lv_aload C.1 C.2.1 hd (hL.2.2.2 _ _ hl).1 (k H locs la hW hS hL (nVs_cn (hL.2.2.2 _ _ hl).2 hn))

theorem mx_istore_n (C : Cx K B ph y cc nL ret d mc ms) {q : Fin 4} {z : Int} {ls' : List (Option AV)} (hd : decode cc pc = .ok (.istore_n q, 1)) (hi : (q : Nat) < nL) (ho : okS ls (q : Nat) = true) (hl : ls.set (q : Nat) (some (aI z)) = ls') (k : Wx K B Z cs ss S nL M (pc + 1) ls' rest) : Wx K B Z cs ss S nL M pc ls (aI z :: rest) := by
  obtain ⟨p, l, e, R, s, m, args, below, meth, c⟩ := K
  intro H locs la hW hS hL hn
  subst hl
  refine lv_istore_n C.1 C.2.1 hd rfl (LV_has hL) hi rfl (fun la' h' => ?_)
  exact k H locs la' hW hS (LV_set (v := aI z) hL (nVs_hd hn) hi ho h') (nVs_tl hn)

theorem mx_istore (C : Cx K B ph y cc nL ret d mc ms) {i : Nat} {z : Int} {ls' : List (Option AV)} (hd : decode cc pc = .ok (.istore i, 2)) (hi : i < nL) (ho : okS ls i = true) (hl : ls.set i (some (aI z)) = ls') (k : Wx K B Z cs ss S nL M (pc + 2) ls' rest) : Wx K B Z cs ss S nL M pc ls (aI z :: rest) := by
  obtain ⟨p, l, e, R, s, m, args, below, meth, c⟩ := K
  intro H locs la hW hS hL hn
  subst hl
  refine lv_istore C.1 C.2.1 hd (LV_has hL) hi rfl (fun la' h' => ?_)
  exact k H locs la' hW hS (LV_set (v := aI z) hL (nVs_hd hn) hi ho h') (nVs_tl hn)

theorem mx_astore_n (C : Cx K B ph y cc nL ret d mc ms) {q : Fin 4} {z : Int} {ls' : List (Option AV)} (hd : decode cc pc = .ok (.astore_n q, 1)) (hi : (q : Nat) < nL) (ho : okS ls (q : Nat) = true) (hl : ls.set (q : Nat) (some (aR z)) = ls') (k : Wx K B Z cs ss S nL M (pc + 1) ls' rest) : Wx K B Z cs ss S nL M pc ls (aR z :: rest) := by
  obtain ⟨p, l, e, R, s, m, args, below, meth, c⟩ := K
  intro H locs la hW hS hL hn
  subst hl
  refine lv_astore_n C.1 C.2.1 hd rfl (LV_has hL) hi rfl (fun la' h' => ?_)
  exact k H locs la' hW hS (LV_set (v := aR z) hL (nVs_hd hn) hi ho h') (nVs_tl hn)

theorem mx_astore (C : Cx K B ph y cc nL ret d mc ms) {i : Nat} {z : Int} {ls' : List (Option AV)} (hd : decode cc pc = .ok (.astore i, 2)) (hi : i < nL) (ho : okS ls i = true) (hl : ls.set i (some (aR z)) = ls') (k : Wx K B Z cs ss S nL M (pc + 2) ls' rest) : Wx K B Z cs ss S nL M pc ls (aR z :: rest) := by
  obtain ⟨p, l, e, R, s, m, args, below, meth, c⟩ := K
  intro H locs la hW hS hL hn
  subst hl
  refine lv_astore C.1 C.2.1 hd (LV_has hL) hi rfl (fun la' h' => ?_)
  exact k H locs la' hW hS (LV_set (v := aR z) hL (nVs_hd hn) hi ho h') (nVs_tl hn)

theorem mx_iinc (C : Cx K B ph y cc nL ret d mc ms) {i : Nat} {n z v : Int} {ls' : List (Option AV)} (hd : decode cc pc = .ok (.iinc i n, 3)) (hg : ls[i]? = some (some (aI z))) (hi : i < nL) (ho : okS ls i = true) (hn0 : i32 n) (hv : w32 (z + n) = v) (hl : ls.set i (some (aI v)) = ls') (k : Wx K B Z cs ss S nL M (pc + 3) ls' rest) : Wx K B Z cs ss S nL M pc ls rest := by
  obtain ⟨p, l, e, R, s, m, args, below, meth, c⟩ := K
  intro H locs la hW hS hL hn
  subst hl
  have hg2 := hL.2.2.2 _ _ hg
  have hm : (i, cV B.1 B.2.2.2.1 (aI z)) ∈ LL B.1 B.2.2.2.1 ls := LL_mem.mpr ⟨_, hg, rfl⟩
  obtain ⟨kk, hkk⟩ := List.getElem?_of_mem hm
  refine lv_iinc (v := Int32.ofInt v) C.1 C.2.1 hd (LV_has hL) (k := kk) hkk (by rw [← hv]; exact o_add hg2.2 hn0) hi rfl (fun la' h' => ?_)
  exact k H locs la' hW hS (LV_set (v := aI v) hL (show i32 v by rw [← hv]; exact w32_in _) hi ho h') hn

theorem mx_iadd (C : Cx K B ph y cc nL ret d mc ms) {a b : Int} (hd : decode cc pc = .ok (.iadd, 1)) (k : Wx K B Z cs ss S nL M (pc + 1) ls (aI (w32 (a + b)) :: rest)) : Wx K B Z cs ss S nL M pc ls (aI b :: aI a :: rest) := by
  obtain ⟨p, l, e, R, s, m, args, below, meth, c⟩ := K
  intro H locs la hW hS hL hn
  refine lv_iadd C.1 C.2.1 hd ?_
  rw [o_add (nVs_hd (nVs_tl hn)) (nVs_hd hn)]
  exact k H locs la hW hS hL (nVs_cn (w32_in _) (nVs_tl (nVs_tl hn)))

theorem mx_isub (C : Cx K B ph y cc nL ret d mc ms) {a b : Int} (hd : decode cc pc = .ok (.isub, 1)) (k : Wx K B Z cs ss S nL M (pc + 1) ls (aI (w32 (a - b)) :: rest)) : Wx K B Z cs ss S nL M pc ls (aI b :: aI a :: rest) := by
  obtain ⟨p, l, e, R, s, m, args, below, meth, c⟩ := K
  intro H locs la hW hS hL hn
  refine lv_isub C.1 C.2.1 hd ?_
  rw [o_sub (nVs_hd (nVs_tl hn)) (nVs_hd hn)]
  exact k H locs la hW hS hL (nVs_cn (w32_in _) (nVs_tl (nVs_tl hn)))

theorem mx_imul (C : Cx K B ph y cc nL ret d mc ms) {a b : Int} (hd : decode cc pc = .ok (.imul, 1)) (k : Wx K B Z cs ss S nL M (pc + 1) ls (aI (w32 (a * b)) :: rest)) : Wx K B Z cs ss S nL M pc ls (aI b :: aI a :: rest) := by
  obtain ⟨p, l, e, R, s, m, args, below, meth, c⟩ := K
  intro H locs la hW hS hL hn
  refine lv_imul C.1 C.2.1 hd ?_
  rw [o_mul (nVs_hd (nVs_tl hn)) (nVs_hd hn)]
  exact k H locs la hW hS hL (nVs_cn (w32_in _) (nVs_tl (nVs_tl hn)))

theorem mx_ineg (C : Cx K B ph y cc nL ret d mc ms) {a : Int} (hd : decode cc pc = .ok (.ineg, 1)) (k : Wx K B Z cs ss S nL M (pc + 1) ls (aI (w32 (-a)) :: rest)) : Wx K B Z cs ss S nL M pc ls (aI a :: rest) := by
  obtain ⟨p, l, e, R, s, m, args, below, meth, c⟩ := K
  intro H locs la hW hS hL hn
  refine lv_ineg C.1 C.2.1 hd ?_
  rw [o_neg (nVs_hd hn)]
  exact k H locs la hW hS hL (nVs_cn (w32_in _) (nVs_tl hn))
theorem mx_idiv (C : Cx K B ph y cc nL ret d mc ms) {a b : Int} (hd : decode cc pc = .ok (.idiv, 1)) (hb : ¬ b = 0) (k : Wx K B Z cs ss S nL M (pc + 1) ls (aI (w32 (a.tdiv b)) :: rest)) : Wx K B Z cs ss S nL M pc ls (aI b :: aI a :: rest) := by
  obtain ⟨p, l, e, R, s, m, args, below, meth, c⟩ := K
  intro H locs la hW hS hL hn
  refine lv_idiv C.1 C.2.1 hd (o_ne (nVs_hd hn) hb) ?_
  rw [o_div (nVs_hd (nVs_tl hn)) (nVs_hd hn)]
  exact k H locs la hW hS hL (nVs_cn (w32_in _) (nVs_tl (nVs_tl hn)))
theorem mx_irem (C : Cx K B ph y cc nL ret d mc ms) {a b : Int} (hd : decode cc pc = .ok (.irem, 1)) (hb : ¬ b = 0) (k : Wx K B Z cs ss S nL M (pc + 1) ls (aI (a.tmod b) :: rest)) : Wx K B Z cs ss S nL M pc ls (aI b :: aI a :: rest) := by
  obtain ⟨p, l, e, R, s, m, args, below, meth, c⟩ := K
  intro H locs la hW hS hL hn
  refine lv_irem C.1 C.2.1 hd (o_ne (nVs_hd hn) hb) ?_
  rw [o_rem (nVs_hd (nVs_tl hn)) (nVs_hd hn) hb]
  exact k H locs la hW hS hL (nVs_cn (i32_rem (nVs_hd (nVs_tl hn)) hb) (nVs_tl (nVs_tl hn)))

theorem mx_ior (C : Cx K B ph y cc nL ret d mc ms) {a b : Int} (hd : decode cc pc = .ok (.ior, 1)) (k : Wx K B Z cs ss S nL M (pc + 1) ls (aI (or32 a b) :: rest)) : Wx K B Z cs ss S nL M pc ls (aI b :: aI a :: rest) := by
  obtain ⟨p, l, e, R, s, m, args, below, meth, c⟩ := K
  intro H locs la hW hS hL hn
  have h := k H locs la hW hS hL (nVs_cn (nT _) (nVs_tl (nVs_tl hn)))
  simp only [List.map_cons, cV, or32, Int32.ofInt_toInt] at h
  exact lv_ior C.1 C.2.1 hd h

theorem mx_iand (C : Cx K B ph y cc nL ret d mc ms) {a b : Int} (hd : decode cc pc = .ok (.iand, 1)) (k : Wx K B Z cs ss S nL M (pc + 1) ls (aI (and32 a b) :: rest)) : Wx K B Z cs ss S nL M pc ls (aI b :: aI a :: rest) := by
  obtain ⟨p, l, e, R, s, m, args, below, meth, c⟩ := K
  intro H locs la hW hS hL hn
  have h := k H locs la hW hS hL (nVs_cn (nT _) (nVs_tl (nVs_tl hn)))
  simp only [List.map_cons, cV, and32, Int32.ofInt_toInt] at h
  exact lv_iand C.1 C.2.1 hd h

theorem mx_ixor (C : Cx K B ph y cc nL ret d mc ms) {a b : Int} (hd : decode cc pc = .ok (.ixor, 1)) (k : Wx K B Z cs ss S nL M (pc + 1) ls (aI (xor32 a b) :: rest)) : Wx K B Z cs ss S nL M pc ls (aI b :: aI a :: rest) := by
  obtain ⟨p, l, e, R, s, m, args, below, meth, c⟩ := K
  intro H locs la hW hS hL hn
  have h := k H locs la hW hS hL (nVs_cn (nT _) (nVs_tl (nVs_tl hn)))
  simp only [List.map_cons, cV, xor32, Int32.ofInt_toInt] at h
  exact lv_ixor C.1 C.2.1 hd h

theorem mx_ishl (C : Cx K B ph y cc nL ret d mc ms) {a b : Int} (hd : decode cc pc = .ok (.ishl, 1)) (k : Wx K B Z cs ss S nL M (pc + 1) ls (aI (shl32 a b) :: rest)) : Wx K B Z cs ss S nL M pc ls (aI b :: aI a :: rest) := by
  obtain ⟨p, l, e, R, s, m, args, below, meth, c⟩ := K
  intro H locs la hW hS hL hn
  have h := k H locs la hW hS hL (nVs_cn (nT _) (nVs_tl (nVs_tl hn)))
  simp only [List.map_cons, cV, shl32, Int32.ofInt_toInt] at h
  exact lv_ishl C.1 C.2.1 hd h

theorem mx_ishr (C : Cx K B ph y cc nL ret d mc ms) {a b : Int} (hd : decode cc pc = .ok (.ishr, 1)) (k : Wx K B Z cs ss S nL M (pc + 1) ls (aI (shr32 a b) :: rest)) : Wx K B Z cs ss S nL M pc ls (aI b :: aI a :: rest) := by
  obtain ⟨p, l, e, R, s, m, args, below, meth, c⟩ := K
  intro H locs la hW hS hL hn
  have h := k H locs la hW hS hL (nVs_cn (nT _) (nVs_tl (nVs_tl hn)))
  simp only [List.map_cons, cV, shr32, Int32.ofInt_toInt] at h
  exact lv_ishr C.1 C.2.1 hd h

theorem mx_iushr (C : Cx K B ph y cc nL ret d mc ms) {a b : Int} (hd : decode cc pc = .ok (.iushr, 1)) (k : Wx K B Z cs ss S nL M (pc + 1) ls (aI (ushr32 a b) :: rest)) : Wx K B Z cs ss S nL M pc ls (aI b :: aI a :: rest) := by
  obtain ⟨p, l, e, R, s, m, args, below, meth, c⟩ := K
  intro H locs la hW hS hL hn
  have h := k H locs la hW hS hL (nVs_cn (nT _) (nVs_tl (nVs_tl hn)))
  simp only [List.map_cons, cV, ushr32, Int32.ofInt_toInt] at h
  exact lv_iushr C.1 C.2.1 hd rfl h

theorem mx_lor (C : Cx K B ph y cc nL ret d mc ms) {a b : Int} (hd : decode cc pc = .ok (.lor, 1)) (k : Wx K B Z cs ss S nL M (pc + 1) ls (aJ (or64 a b) :: rest)) : Wx K B Z cs ss S nL M pc ls (aJ b :: aJ a :: rest) := by
  obtain ⟨p, l, e, R, s, m, args, below, meth, c⟩ := K
  intro H locs la hW hS hL hn
  have h := k H locs la hW hS hL (nVs_cn (nTJ _) (nVs_tl (nVs_tl hn)))
  simp only [List.map_cons, cV, or64, Int64.ofInt_toInt] at h
  exact lv_lor C.1 C.2.1 hd h

theorem mx_land (C : Cx K B ph y cc nL ret d mc ms) {a b : Int} (hd : decode cc pc = .ok (.land, 1)) (k : Wx K B Z cs ss S nL M (pc + 1) ls (aJ (and64 a b) :: rest)) : Wx K B Z cs ss S nL M pc ls (aJ b :: aJ a :: rest) := by
  obtain ⟨p, l, e, R, s, m, args, below, meth, c⟩ := K
  intro H locs la hW hS hL hn
  have h := k H locs la hW hS hL (nVs_cn (nTJ _) (nVs_tl (nVs_tl hn)))
  simp only [List.map_cons, cV, and64, Int64.ofInt_toInt] at h
  exact lv_land C.1 C.2.1 hd h

theorem mx_lshl (C : Cx K B ph y cc nL ret d mc ms) {a b : Int} (hd : decode cc pc = .ok (.lshl, 1)) (k : Wx K B Z cs ss S nL M (pc + 1) ls (aJ (shl64 a b) :: rest)) : Wx K B Z cs ss S nL M pc ls (aI b :: aJ a :: rest) := by
  obtain ⟨p, l, e, R, s, m, args, below, meth, c⟩ := K
  intro H locs la hW hS hL hn
  have h := k H locs la hW hS hL (nVs_cn (nTJ _) (nVs_tl (nVs_tl hn)))
  simp only [List.map_cons, cV, shl64, Int64.ofInt_toInt] at h
  exact lv_lshl C.1 C.2.1 hd rfl h
theorem mx_i2l (C : Cx K B ph y cc nL ret d mc ms) {a : Int} (hd : decode cc pc = .ok (.i2l, 1)) (k : Wx K B Z cs ss S nL M (pc + 1) ls (aJ a :: rest)) : Wx K B Z cs ss S nL M pc ls (aI a :: rest) := by
  obtain ⟨p, l, e, R, s, m, args, below, meth, c⟩ := K
  intro H locs la hW hS hL hn
  exact lv_i2l C.1 C.2.1 hd (o_i2l (nVs_hd hn)) (k H locs la hW hS hL (nVs_cn (i64_of (nVs_hd hn)) (nVs_tl hn)))
theorem mx_l2i (C : Cx K B ph y cc nL ret d mc ms) {a : Int} (hd : decode cc pc = .ok (.l2i, 1)) (k : Wx K B Z cs ss S nL M (pc + 1) ls (aI (w32 a) :: rest)) : Wx K B Z cs ss S nL M pc ls (aJ a :: rest) := by
  obtain ⟨p, l, e, R, s, m, args, below, meth, c⟩ := K
  intro H locs la hW hS hL hn
  exact lv_l2i C.1 C.2.1 hd (o_l2i (nVs_hd hn)) (k H locs la hW hS hL (nVs_cn (w32_in _) (nVs_tl hn)))
theorem mx_i2b (C : Cx K B ph y cc nL ret d mc ms) {a : Int} (hd : decode cc pc = .ok (.i2b, 1)) (k : Wx K B Z cs ss S nL M (pc + 1) ls (aI (w8 a) :: rest)) : Wx K B Z cs ss S nL M pc ls (aI a :: rest) := by
  obtain ⟨p, l, e, R, s, m, args, below, meth, c⟩ := K
  intro H locs la hW hS hL hn
  exact lv_i2b C.1 C.2.1 hd (o_i2b (nVs_hd hn)) (k H locs la hW hS hL (nVs_cn (i32_w8 _) (nVs_tl hn)))
theorem mx_i2s (C : Cx K B ph y cc nL ret d mc ms) {a : Int} (hd : decode cc pc = .ok (.i2s, 1)) (k : Wx K B Z cs ss S nL M (pc + 1) ls (aI (w16 a) :: rest)) : Wx K B Z cs ss S nL M pc ls (aI a :: rest) := by
  obtain ⟨p, l, e, R, s, m, args, below, meth, c⟩ := K
  intro H locs la hW hS hL hn
  exact lv_i2s C.1 C.2.1 hd (o_i2s (nVs_hd hn)) (k H locs la hW hS hL (nVs_cn (i32_w16 _) (nVs_tl hn)))
theorem mx_lcmp (C : Cx K B ph y cc nL ret d mc ms) {a b : Int} (hd : decode cc pc = .ok (.lcmp, 1)) (k : Wx K B Z cs ss S nL M (pc + 1) ls (aI (cmp64 a b) :: rest)) : Wx K B Z cs ss S nL M pc ls (aJ b :: aJ a :: rest) := by
  obtain ⟨p, l, e, R, s, m, args, below, meth, c⟩ := K
  intro H locs la hW hS hL hn
  refine W.lcmp C.1 C.2.1 hd ?_
  rw [o_lcmp (nVs_hd (nVs_tl hn)) (nVs_hd hn)]
  exact k H locs la hW hS hL (nVs_cn (i32_cmp a b) (nVs_tl (nVs_tl hn)))
theorem mx_dup (C : Cx K B ph y cc nL ret d mc ms) {v : AV} (hd : decode cc pc = .ok (.dup, 1)) (hv : isJ v = false) (k : Wx K B Z cs ss S nL M (pc + 1) ls (v :: v :: rest)) : Wx K B Z cs ss S nL M pc ls (v :: rest) := by
  obtain ⟨p, l, e, R, s, m, args, below, meth, c⟩ := K
  intro H locs la hW hS hL hn
  exact lv_dup C.1 C.2.1 hd (by rw [cV_cat, hv]; rfl) (k H locs la hW hS hL (nVs_cn (nVs_hd hn) hn))
theorem mx_dup2 (C : Cx K B ph y cc nL ret d mc ms) {v u : AV} (hd : decode cc pc = .ok (.dup2, 1)) (hv : isJ v = false) (hu : isJ u = false) (k : Wx K B Z cs ss S nL M (pc + 1) ls (v :: u :: v :: u :: rest)) : Wx K B Z cs ss S nL M pc ls (v :: u :: rest) := by
  obtain ⟨p, l, e, R, s, m, args, below, meth, c⟩ := K
  intro H locs la hW hS hL hn
  exact lv_dup2_11 C.1 C.2.1 hd (by rw [cV_cat, hv]; rfl) (by rw [cV_cat, hu]; rfl) (k H locs la hW hS hL (nVs_cn (nVs_hd hn) (nVs_cn (nVs_hd (nVs_tl hn)) hn)))
theorem mx_pop (C : Cx K B ph y cc nL ret d mc ms) {v : AV} (hd : decode cc pc = .ok (.pop, 1)) (hv : isJ v = false) (k : Wx K B Z cs ss S nL M (pc + 1) ls rest) : Wx K B Z cs ss S nL M pc ls (v :: rest) := by
  obtain ⟨p, l, e, R, s, m, args, below, meth, c⟩ := K
  intro H locs la hW hS hL hn
  exact lv_pop C.1 C.2.1 hd (by rw [cV_cat, hv]; rfl) (k H locs la hW hS hL (nVs_tl hn))
theorem mx_goto (C : Cx K B ph y cc nL ret d mc ms) {off : Int} {tgt : Nat} (hd : decode cc pc = .ok (.goto off, 3)) (ht : (pc : Int) + off = (tgt : Int)) (k : Wx K B Z cs ss S nL M tgt ls rest) : Wx K B Z cs ss S nL M pc ls rest := by
  obtain ⟨p, l, e, R, s, m, args, below, meth, c⟩ := K
  intro H locs la hW hS hL hn
  exact lv_goto C.1 C.2.1 hd ht (k H locs la hW hS hL hn)

theorem mx_if_eq (C : Cx K B ph y cc nL ret d mc ms) {a : Int} {off : Int} {tgt : Nat} (hd : decode cc pc = .ok (.ifCond .eq off, 3)) (ht : (pc : Int) + off = (tgt : Int)) (kt : a = 0 → Wx K B Z cs ss S nL M tgt ls rest) (kf : ¬ (a = 0) → Wx K B Z cs ss S nL M (pc + 3) ls rest) : Wx K B Z cs ss S nL M pc ls (aI a :: rest) := by
  obtain ⟨p, l, e, R, s, m, args, below, meth, c⟩ := K
  intro H locs la hW hS hL hn
  exact lv_if_eq C.1 C.2.1 hd ht (fun h => kt ((o_eq (nVs_hd hn) i32_0).mp h) H locs la hW hS hL (nVs_tl hn)) (fun h => kf (fun q => h ((o_eq (nVs_hd hn) i32_0).mpr q)) H locs la hW hS hL (nVs_tl hn))

theorem mx_icmp_eq (C : Cx K B ph y cc nL ret d mc ms) {a b : Int} {off : Int} {tgt : Nat} (hd : decode cc pc = .ok (.if_icmp .eq off, 3)) (ht : (pc : Int) + off = (tgt : Int)) (kt : a = b → Wx K B Z cs ss S nL M tgt ls rest) (kf : ¬ (a = b) → Wx K B Z cs ss S nL M (pc + 3) ls rest) : Wx K B Z cs ss S nL M pc ls (aI b :: aI a :: rest) := by
  obtain ⟨p, l, e, R, s, m, args, below, meth, c⟩ := K
  intro H locs la hW hS hL hn
  exact lv_icmp_eq C.1 C.2.1 hd ht (fun h => kt ((o_eq (nVs_hd (nVs_tl hn)) (nVs_hd hn)).mp h) H locs la hW hS hL (nVs_tl (nVs_tl hn))) (fun h => kf (fun q => h ((o_eq (nVs_hd (nVs_tl hn)) (nVs_hd hn)).mpr q)) H locs la hW hS hL (nVs_tl (nVs_tl hn)))

theorem mx_if_ne (C : Cx K B ph y cc nL ret d mc ms) {a : Int} {off : Int} {tgt : Nat} (hd : decode cc pc = .ok (.ifCond .ne off, 3)) (ht : (pc : Int) + off = (tgt : Int)) (kt : ¬ a = 0 → Wx K B Z cs ss S nL M tgt ls rest) (kf : a = 0 → Wx K B Z cs ss S nL M (pc + 3) ls rest) : Wx K B Z cs ss S nL M pc ls (aI a :: rest) := by
  obtain ⟨p, l, e, R, s, m, args, below, meth, c⟩ := K
  intro H locs la hW hS hL hn
  exact lv_if_ne C.1 C.2.1 hd ht (fun h => kt (fun q => h ((o_eq (nVs_hd hn) i32_0).mpr q)) H locs la hW hS hL (nVs_tl hn)) (fun h => kf ((o_eq (nVs_hd hn) i32_0).mp h) H locs la hW hS hL (nVs_tl hn))

theorem mx_icmp_ne (C : Cx K B ph y cc nL ret d mc ms) {a b : Int} {off : Int} {tgt : Nat} (hd : decode cc pc = .ok (.if_icmp .ne off, 3)) (ht : (pc : Int) + off = (tgt : Int)) (kt : ¬ a = b → Wx K B Z cs ss S nL M tgt ls rest) (kf : a = b → Wx K B Z cs ss S nL M (pc + 3) ls rest) : Wx K B Z cs ss S nL M pc ls (aI b :: aI a :: rest) := by
  obtain ⟨p, l, e, R, s, m, args, below, meth, c⟩ := K
  intro H locs la hW hS hL hn
  exact lv_icmp_ne C.1 C.2.1 hd ht (fun h => kt (fun q => h ((o_eq (nVs_hd (nVs_tl hn)) (nVs_hd hn)).mpr q)) H locs la hW hS hL (nVs_tl (nVs_tl hn))) (fun h => kf ((o_eq (nVs_hd (nVs_tl hn)) (nVs_hd hn)).mp h) H locs la hW hS hL (nVs_tl (nVs_tl hn)))

theorem mx_if_lt (C : Cx K B ph y cc nL ret d mc ms) {a : Int} {off : Int} {tgt : Nat} (hd : decode cc pc = .ok (.ifCond .lt off, 3)) (ht : (pc : Int) + off = (tgt : Int)) (kt : a < 0 → Wx K B Z cs ss S nL M tgt ls rest) (kf : ¬ (a < 0) → Wx K B Z cs ss S nL M (pc + 3) ls rest) : Wx K B Z cs ss S nL M pc ls (aI a :: rest) := by
  obtain ⟨p, l, e, R, s, m, args, below, meth, c⟩ := K
  intro H locs la hW hS hL hn
  exact lv_if_lt C.1 C.2.1 hd ht (fun h => kt ((o_lt (nVs_hd hn) i32_0).mp h) H locs la hW hS hL (nVs_tl hn)) (fun h => kf (fun q => h ((o_lt (nVs_hd hn) i32_0).mpr q)) H locs la hW hS hL (nVs_tl hn))

theorem mx_icmp_lt (C : Cx K B ph y cc nL ret d mc ms) {a b : Int} {off : Int} {tgt : Nat} (hd : decode cc pc = .ok (.if_icmp .lt off, 3)) (ht : (pc : Int) + off = (tgt : Int)) (kt : a < b → Wx K B Z cs ss S nL M tgt ls rest) (kf : ¬ (a < b) → Wx K B Z cs ss S nL M (pc + 3) ls rest) : Wx K B Z cs ss S nL M pc ls (aI b :: aI a :: rest) := by
  obtain ⟨p, l, e, R, s, m, args, below, meth, c⟩ := K
  intro H locs la hW hS hL hn
  exact lv_icmp_lt C.1 C.2.1 hd ht (fun h => kt ((o_lt (nVs_hd (nVs_tl hn)) (nVs_hd hn)).mp h) H locs la hW hS hL (nVs_tl (nVs_tl hn))) (fun h => kf (fun q => h ((o_lt (nVs_hd (nVs_tl hn)) (nVs_hd hn)).mpr q)) H locs la hW hS hL (nVs_tl (nVs_tl hn)))

theorem mx_if_le (C : Cx K B ph y cc nL ret d mc ms) {a : Int} {off : Int} {tgt : Nat} (hd : decode cc pc = .ok (.ifCond .le off, 3)) (ht : (pc : Int) + off = (tgt : Int)) (kt : a ≤ 0 → Wx K B Z cs ss S nL M tgt ls rest) (kf : ¬ (a ≤ 0) → Wx K B Z cs ss S nL M (pc + 3) ls rest) : Wx K B Z cs ss S nL M pc ls (aI a :: rest) := by
  obtain ⟨p, l, e, R, s, m, args, below, meth, c⟩ := K
  intro H locs la hW hS hL hn
  exact lv_if_le C.1 C.2.1 hd ht (fun h => kt ((o_le (nVs_hd hn) i32_0).mp h) H locs la hW hS hL (nVs_tl hn)) (fun h => kf (fun q => h ((o_le (nVs_hd hn) i32_0).mpr q)) H locs la hW hS hL (nVs_tl hn))

theorem mx_icmp_le (C : Cx K B ph y cc nL ret d mc ms) {a b : Int} {off : Int} {tgt : Nat} (hd : decode cc pc = .ok (.if_icmp .le off, 3)) (ht : (pc : Int) + off = (tgt : Int)) (kt : a ≤ b → Wx K B Z cs ss S nL M tgt ls rest) (kf : ¬ (a ≤ b) → Wx K B Z cs ss S nL M (pc + 3) ls rest) : Wx K B Z cs ss S nL M pc ls (aI b :: aI a :: rest) := by
  obtain ⟨p, l, e, R, s, m, args, below, meth, c⟩ := K
  intro H locs la hW hS hL hn
  exact lv_icmp_le C.1 C.2.1 hd ht (fun h => kt ((o_le (nVs_hd (nVs_tl hn)) (nVs_hd hn)).mp h) H locs la hW hS hL (nVs_tl (nVs_tl hn))) (fun h => kf (fun q => h ((o_le (nVs_hd (nVs_tl hn)) (nVs_hd hn)).mpr q)) H locs la hW hS hL (nVs_tl (nVs_tl hn)))

theorem mx_if_ge (C : Cx K B ph y cc nL ret d mc ms) {a : Int} {off : Int} {tgt : Nat} (hd : decode cc pc = .ok (.ifCond .ge off, 3)) (ht : (pc : Int) + off = (tgt : Int)) (kt : 0 ≤ a → Wx K B Z cs ss S nL M tgt ls rest) (kf : ¬ (0 ≤ a) → Wx K B Z cs ss S nL M (pc + 3) ls rest) : Wx K B Z cs ss S nL M pc ls (aI a :: rest) := by
  obtain ⟨p, l, e, R, s, m, args, below, meth, c⟩ := K
  intro H locs la hW hS hL hn
  exact lv_if_ge C.1 C.2.1 hd ht (fun h => kt ((o_le i32_0 (nVs_hd hn)).mp h) H locs la hW hS hL (nVs_tl hn)) (fun h => kf (fun q => h ((o_le i32_0 (nVs_hd hn)).mpr q)) H locs la hW hS hL (nVs_tl hn))

theorem mx_icmp_ge (C : Cx K B ph y cc nL ret d mc ms) {a b : Int} {off : Int} {tgt : Nat} (hd : decode cc pc = .ok (.if_icmp .ge off, 3)) (ht : (pc : Int) + off = (tgt : Int)) (kt : b ≤ a → Wx K B Z cs ss S nL M tgt ls rest) (kf : ¬ (b ≤ a) → Wx K B Z cs ss S nL M (pc + 3) ls rest) : Wx K B Z cs ss S nL M pc ls (aI b :: aI a :: rest) := by
  obtain ⟨p, l, e, R, s, m, args, below, meth, c⟩ := K
  intro H locs la hW hS hL hn
  exact lv_icmp_ge C.1 C.2.1 hd ht (fun h => kt ((o_le (nVs_hd hn) (nVs_hd (nVs_tl hn))).mp h) H locs la hW hS hL (nVs_tl (nVs_tl hn))) (fun h => kf (fun q => h ((o_le (nVs_hd hn) (nVs_hd (nVs_tl hn))).mpr q)) H locs la hW hS hL (nVs_tl (nVs_tl hn)))

theorem mx_if_gt (C : Cx K B ph y cc nL ret d mc ms) {a : Int} {off : Int} {tgt : Nat} (hd : decode cc pc = .ok (.ifCond .gt off, 3)) (ht : (pc : Int) + off = (tgt : Int)) (kt : 0 < a → Wx K B Z cs ss S nL M tgt ls rest) (kf : ¬ (0 < a) → Wx K B Z cs ss S nL M (pc + 3) ls rest) : Wx K B Z cs ss S nL M pc ls (aI a :: rest) := by
  obtain ⟨p, l, e, R, s, m, args, below, meth, c⟩ := K
  intro H locs la hW hS hL hn
  exact lv_if_gt C.1 C.2.1 hd ht (fun h => kt ((o_lt i32_0 (nVs_hd hn)).mp h) H locs la hW hS hL (nVs_tl hn)) (fun h => kf (fun q => h ((o_lt i32_0 (nVs_hd hn)).mpr q)) H locs la hW hS hL (nVs_tl hn))

theorem mx_icmp_gt (C : Cx K B ph y cc nL ret d mc ms) {a b : Int} {off : Int} {tgt : Nat} (hd : decode cc pc = .ok (.if_icmp .gt off, 3)) (ht : (pc : Int) + off = (tgt : Int)) (kt : b < a → Wx K B Z cs ss S nL M tgt ls rest) (kf : ¬ (b < a) → Wx K B Z cs ss S nL M (pc + 3) ls rest) : Wx K B Z cs ss S nL M pc ls (aI b :: aI a :: rest) := by
  obtain ⟨p, l, e, R, s, m, args, below, meth, c⟩ := K
  intro H locs la hW hS hL hn
  exact lv_icmp_gt C.1 C.2.1 hd ht (fun h => kt ((o_lt (nVs_hd hn) (nVs_hd (nVs_tl hn))).mp h) H locs la hW hS hL (nVs_tl (nVs_tl hn))) (fun h => kf (fun q => h ((o_lt (nVs_hd hn) (nVs_hd (nVs_tl hn))).mpr q)) H locs la hW hS hL (nVs_tl (nVs_tl hn)))

theorem mx_tsw (C : Cx K B ph y cc nL ret d mc ms) {a : Int} {dflt lo hi : Int} {offs : Array Int} {len : Nat} (tgt : Int → Nat) (hd : decode cc pc = .ok (.tableswitch dflt lo hi offs, len)) (ho : (a < lo ∨ hi < a) → (pc : Int) + dflt = (tgt a : Int)) (hj : ¬ a < lo → ¬ hi < a → ∃ off, offs[(a - lo).toNat]? = some off ∧ (pc : Int) + off = (tgt a : Int)) (k : Wx K B Z cs ss S nL M (tgt a) ls rest) : Wx K B Z cs ss S nL M pc ls (aI a :: rest) := by
  obtain ⟨p, l, e, R, s, m, args, below, meth, c⟩ := K
  intro H locs la hW hS hL hn
  have e := tI (nVs_hd hn)
  by_cases h : a < lo ∨ hi < a
  · exact lv_tableOut C.1 C.2.1 hd (by rw [e]; exact h) (ho h) (k H locs la hW hS hL (nVs_tl hn))
  · obtain ⟨off, h1, h2⟩ := hj (fun q => h (Or.inl q)) (fun q => h (Or.inr q))
    exact lv_tableIn C.1 C.2.1 hd (by rw [e]; exact fun q => h (Or.inl q)) (by rw [e]; exact fun q => h (Or.inr q)) (by rw [e]; exact h1) h2 (k H locs la hW hS hL (nVs_tl hn))
theorem mx_lsw (C : Cx K B ph y cc nL ret d mc ms) {a dflt off : Int} {ps : Array (Int × Int)} {len tgt : Nat} (hd : decode cc pc = .ok (.lookupswitch dflt ps, len)) (hp : (ps.toList.zip (ps.toList.drop 1)).all (fun (a, next) => a.1 < next.1) = true) (ho : Op.lookupswitch.offset ps.toList dflt a = off) (ht : (pc : Int) + off = (tgt : Int)) (k : Wx K B Z cs ss S nL M tgt ls rest) : Wx K B Z cs ss S nL M pc ls (aI a :: rest) := by
  obtain ⟨p, l, e, R, s, m, args, below, meth, c⟩ := K
  intro H locs la hW hS hL hn
  exact lv_lookup C.1 C.2.1 hd hp (by rw [tI (nVs_hd hn)]; exact ho) ht (k H locs la hW hS hL (nVs_tl hn))

end MX
end
section
/-! the rules that look into the world, and change it -/
theorem WR_set {B : BX} {S : List Shp} {M M' : Mem} {H H1 : Heap} {o : Int} {sh : Shp} (h : WR B S M H) (hs : shp S o = some sh) (he : va_at B.2.1 vwCl (B.1 + o.toNat, cellE B.1 B.2.2.1 sh (M' o)) H1) (hM : ∀ j, j ≠ o → M' j = M j) (z : H1.size = H.size) (oq : ∀ q : Nat, q ≠ B.1 + o.toNat → H1[q]? = H[q]?) (hN : Nrm S M') : WR B S M' H1 := by
  refine ⟨?_, fun hp => by rw [z]; exact h.2.1 hp, hN⟩
  have hh := h.1.set (wld_D B.1 B.2.2.1 S M) (wld_at hs) he oq
  rwa [wld_set hs rfl hM] at hh
/-- a class of ours: its place among the classes, its fields' words, their types -/
def CI (c : Nat) (C : String) (T : u_T) : Prop := vwCl[c]? = some (C, T, nFl c) ∧ (∀ w ∈ u_ws C T (nFl c), w ∈ BIG) ∧ (∀ k, k < nFl c → parseFieldDescriptor (T k).2.2.1 = some (tyFl c k)) ∧ ∀ a, a < nFl c → ∀ b, b < nFl c → a ≠ b → (T a).2.1 ≠ (T b).2.1
theorem ci_big {ws : List Cond} (h : ws.all (fun w => decide (w ∈ lw_tbl) && goodWord w) = true) : ∀ w ∈ ws, w ∈ BIG := fun w hw => by
  have := List.all_eq_true.mp h w hw
  simp only [Bool.and_eq_true, decide_eq_true_eq] at this
  exact List.mem_filter.mpr this
theorem ci_0 : CI 0 RX0 TX0 := ⟨rfl, ci_big (by decide +kernel), tyX0_ok, nmX0⟩
theorem ci_1 : CI 1 RX1 TX1 := ⟨rfl, ci_big (by decide +kernel), tyX1_ok, nmX1⟩
theorem ci_2 : CI 2 RX2 TX2 := ⟨rfl, ci_big (by decide +kernel), tyX2_ok, nmX2⟩
theorem ci_3 : CI 3 RX3 TX3 := ⟨rfl, ci_big (by decide +kernel), tyX3_ok, nmX3⟩
theorem ci_4 : CI 4 RX4 TX4 := ⟨rfl, ci_big (by decide +kernel), tyX4_ok, nmX4⟩
theorem ci_5 : CI 5 RX5 TX5 := ⟨rfl, ci_big (by decide +kernel), tyX5_ok, nmX5⟩
theorem ci_6 : CI 6 RX6 TX6 := ⟨rfl, ci_big (by decide +kernel), tyX6_ok, nmX6⟩
theorem ci_7 : CI 7 RX7 TX7 := ⟨rfl, ci_big (by decide +kernel), tyX7_ok, nmX7⟩
theorem ci_8 : CI 8 RX8 TX8 := ⟨rfl, ci_big (by decide +kernel), tyX8_ok, nmX8⟩
section MXH
variable {K : KX} {B : BX} {ph : Bool} {Z : State → Prop} {cs ss : Nat} {S : List Shp} {nL : Nat} {M : Mem} {pc : Nat} {ls : List (Option AV)} {rest : List AV} {y : MethodName} {cc : ByteArray} {ret : Option FieldType} {d mc ms : Nat}
theorem cx_K (C : Cx K B ph y cc nL ret d mc ms) : va_K B.2.1 vwCl (tysL B.2.2.1) K.2.2.2.2.1 := C.2.2.2.2.2.1
theorem cx_F (C : Cx K B ph y cc nL ret d mc ms) : FO B K.2.2.2.2.1 := C.2.2.2.2.2.2.1
theorem idx_nat {i : Int} (h0 : 0 ≤ i) : ((i.toNat : Nat) : Int) = i := by omega
theorem ev_i {M : Mem} {o i : Int} (hi : i32 i) (h0 : 0 ≤ i) : (fun k : Nat => Int32.ofInt (M o (k : Int))) (Int32.ofInt i).toNatClampNeg = Int32.ofInt (M o i) := by
  show Int32.ofInt (M o (((Int32.ofInt i).toNatClampNeg : Nat) : Int)) = _
  rw [o_cl hi h0, idx_nat h0]
theorem ev_l {M : Mem} {o i : Int} (hi : i32 i) (h0 : 0 ≤ i) : (fun k : Nat => Int64.ofInt (M o (k : Int))) (Int32.ofInt i).toNatClampNeg = Int64.ofInt (M o i) := by
  show Int64.ofInt (M o (((Int32.ofInt i).toNatClampNeg : Nat) : Int)) = _
  rw [o_cl hi h0, idx_nat h0]
theorem mx_iald (C : Cx K B ph y cc nL ret d mc ms) {o i : Int} {n : Nat} (hd : decode cc pc = .ok (.iaload, 1)) (hs : shp S o = some (0, n)) (h0 : 0 ≤ i) (h1 : i < n) (k : Wx K B Z cs ss S nL M (pc + 1) ls (aI (M o i) :: rest)) : Wx K B Z cs ss S nL M pc ls (aI i :: aR o :: rest) := by
  obtain ⟨p, l, e, R, s, m, args, below, meth, c⟩ := K
  intro H locs la hW hS hL hn
  have hi : i32 i := nVs_hd hn
  refine va_iald (n := n) (f := fun k => Int32.ofInt (M o (k : Int))) C.1 C.2.1 (cx_K C) hW.1 o.toNat 0 (by rw [wld_at hs]; rfl) rfl (o_in hi h0 h1) hd ?_
  exact W.eq (congrArg (fun v => F0 m (pc + 1) la (Value.int v :: rest.map (cV B.1 B.2.2.2.1))) (ev_i hi h0)) (k H locs la hW hS hL (nVs_cn ((hW.2.2 o i _ hs).2.1 (by intro q; cases q)) (nVs_tl (nVs_tl hn))))
theorem mx_bald (C : Cx K B ph y cc nL ret d mc ms) {o i : Int} {n : Nat} (hd : decode cc pc = .ok (.baload, 1)) (hs : shp S o = some (1, n)) (h0 : 0 ≤ i) (h1 : i < n) (k : Wx K B Z cs ss S nL M (pc + 1) ls (aI (M o i) :: rest)) : Wx K B Z cs ss S nL M pc ls (aI i :: aR o :: rest) := by
  obtain ⟨p, l, e, R, s, m, args, below, meth, c⟩ := K
  intro H locs la hW hS hL hn
  have hi : i32 i := nVs_hd hn
  refine va_bald (n := n) (f := fun k => Int32.ofInt (M o (k : Int))) C.1 C.2.1 (cx_K C) hW.1 o.toNat 1 (by rw [wld_at hs]; rfl) rfl (o_in hi h0 h1) hd ?_
  exact W.eq (congrArg (fun v => F0 m (pc + 1) la (Value.int v :: rest.map (cV B.1 B.2.2.2.1))) (ev_i hi h0)) (k H locs la hW hS hL (nVs_cn ((hW.2.2 o i _ hs).2.1 (by intro q; cases q)) (nVs_tl (nVs_tl hn))))
theorem mx_zald (C : Cx K B ph y cc nL ret d mc ms) {o i : Int} {n : Nat} (hd : decode cc pc = .ok (.baload, 1)) (hs : shp S o = some (2, n)) (h0 : 0 ≤ i) (h1 : i < n) (k : (M o i = 0 ∨ M o i = 1) → Wx K B Z cs ss S nL M (pc + 1) ls (aI (M o i) :: rest)) : Wx K B Z cs ss S nL M pc ls (aI i :: aR o :: rest) := by
  obtain ⟨p, l, e, R, s, m, args, below, meth, c⟩ := K
  intro H locs la hW hS hL hn
  have hi : i32 i := nVs_hd hn
  refine va_zald (n := n) (f := fun k => Int32.ofInt (M o (k : Int))) C.1 C.2.1 (cx_K C) hW.1 o.toNat 2 (by rw [wld_at hs]; rfl) rfl (o_in hi h0 h1) hd ?_
  exact W.eq (congrArg (fun v => F0 m (pc + 1) la (Value.int v :: rest.map (cV B.1 B.2.2.2.1))) (ev_i hi h0)) (k ((hW.2.2 o i _ hs).2.2 rfl) H locs la hW hS hL (nVs_cn ((hW.2.2 o i _ hs).2.1 (by intro q; cases q)) (nVs_tl (nVs_tl hn))))
theorem mx_lald (C : Cx K B ph y cc nL ret d mc ms) {o i : Int} {n : Nat} (hd : decode cc pc = .ok (.laload, 1)) (hs : shp S o = some (3, n)) (h0 : 0 ≤ i) (h1 : i < n) (k : Wx K B Z cs ss S nL M (pc + 1) ls (aJ (M o i) :: rest)) : Wx K B Z cs ss S nL M pc ls (aI i :: aR o :: rest) := by
  obtain ⟨p, l, e, R, s, m, args, below, meth, c⟩ := K
  intro H locs la hW hS hL hn
  have hi : i32 i := nVs_hd hn
  refine va_lald (n := n) (f := fun k => Int64.ofInt (M o (k : Int))) C.1 C.2.1 (cx_K C) hW.1 o.toNat 3 (by rw [wld_at hs]; rfl) rfl (o_in hi h0 h1) hd ?_
  exact W.eq (congrArg (fun v => F0 m (pc + 1) la (Value.long v :: rest.map (cV B.1 B.2.2.2.1))) (ev_l hi h0)) (k H locs la hW hS hL (nVs_cn ((hW.2.2 o i _ hs).1 rfl) (nVs_tl (nVs_tl hn))))
theorem mx_aald (C : Cx K B ph y cc nL ret d mc ms) {o i v : Int} {n q : Nat} (hd : decode cc pc = .ok (.aaload, 1)) (hs : shp S o = some (q, n)) (hq : q = 4 ∨ q = 5) (h0 : 0 ≤ i) (h1 : i < n) (hv : M o i = v) (hv0 : 0 ≤ v) (k : Wx K B Z cs ss S nL M (pc + 1) ls (aR v :: rest)) : Wx K B Z cs ss S nL M pc ls (aI i :: aR o :: rest) := by
  obtain ⟨p, l, e, R, s, m, args, below, meth, c⟩ := K
  intro H locs la hW hS hL hn
  have hi : i32 i := nVs_hd hn
  have ev : va_rf ((fun k : Nat => if M o (k : Int) < 0 then none else some (B.1 + (M o (k : Int)).toNat)) (Int32.ofInt i).toNatClampNeg) = .ref (B.1 + v.toNat) := by
    show va_rf (if M o (((Int32.ofInt i).toNatClampNeg : Nat) : Int) < 0 then none else some (B.1 + (M o (((Int32.ofInt i).toNatClampNeg : Nat) : Int)).toNat)) = _
    rw [o_cl hi h0, idx_nat h0, hv, if_neg (by omega)]
    rfl
  rcases hq with rfl | rfl
  · refine va_aldq (C := RX3) (n := n) (f := fun k => if M o (k : Int) < 0 then none else some (B.1 + (M o (k : Int)).toNat)) C.1 C.2.1 (cx_K C) hW.1 o.toNat 4 (by rw [wld_at hs]; rfl) rfl (o_in hi h0 h1) hd ?_
    exact W.eq (congrArg (fun v => F0 m (pc + 1) la (v :: rest.map (cV B.1 B.2.2.2.1))) ev) (k H locs la hW hS hL (nVs_cn hv0 (nVs_tl (nVs_tl hn))))
  · refine va_aldq (C := RX4) (n := n) (f := fun k => if M o (k : Int) < 0 then none else some (B.1 + (M o (k : Int)).toNat)) C.1 C.2.1 (cx_K C) hW.1 o.toNat 5 (by rw [wld_at hs]; rfl) rfl (o_in hi h0 h1) hd ?_
    exact W.eq (congrArg (fun v => F0 m (pc + 1) la (v :: rest.map (cV B.1 B.2.2.2.1))) ev) (k H locs la hW hS hL (nVs_cn hv0 (nVs_tl (nVs_tl hn))))
theorem mx_alen (C : Cx K B ph y cc nL ret d mc ms) {o : Int} {n q : Nat} (hd : decode cc pc = .ok (.arraylength, 1)) (hs : shp S o = some (q, n)) (hq : q < 3) (hn0 : n < 2147483648) (k : Wx K B Z cs ss S nL M (pc + 1) ls (aI (n : Int) :: rest)) : Wx K B Z cs ss S nL M pc ls (aR o :: rest) := by
  obtain ⟨p, l, e, R, s, m, args, below, meth, c⟩ := K
  intro H locs la hW hS hL hn
  have hh := k H locs la hW hS hL (nVs_cn (show i32 (n : Int) by unfold i32; omega) (nVs_tl hn))
  rcases (by omega : q = 0 ∨ q = 1 ∨ q = 2) with rfl | rfl | rfl
  · exact va_alen (x := (n, .inl (fun k => Int32.ofInt (M o (k : Int))))) C.1 C.2.1 (cx_K C) hW.1 o.toNat 0 (by rw [wld_at hs]; rfl) rfl (by show Int32.ofNat n = Int32.ofInt (n : Int); rw [Int32.ofInt_eq_ofNat]) hd hh
  · exact va_alen (x := (n, .inl (fun k => Int32.ofInt (M o (k : Int))))) C.1 C.2.1 (cx_K C) hW.1 o.toNat 1 (by rw [wld_at hs]; rfl) rfl (by show Int32.ofNat n = Int32.ofInt (n : Int); rw [Int32.ofInt_eq_ofNat]) hd hh
  · exact va_alen (x := (n, .inl (fun k => Int32.ofInt (M o (k : Int))))) C.1 C.2.1 (cx_K C) hW.1 o.toNat 2 (by rw [wld_at hs]; rfl) rfl (by show Int32.ofNat n = Int32.ofInt (n : Int); rw [Int32.ofInt_eq_ofNat]) hd hh
theorem cellI_st {b : Nat} {cA : Nat → ClassId} {n q : Nat} {M : Mem} {o i z : Int} (hq : q < 3) (hi : i32 i) (h0 : 0 ≤ i) : cellE b cA (q, n) (stM M o i z o) = .inl (cA q, n, .inl (upd (fun k => Int32.ofInt (M o (k : Int))) (Int32.ofInt i).toNatClampNeg (Int32.ofInt z))) := by
  unfold cellE
  rw [if_pos hq, stM_self, o_cl hi h0]
  congr 4
  funext k
  show Int32.ofInt (if (k : Int) = i then z else M o k) = if k = i.toNat then Int32.ofInt z else Int32.ofInt (M o k)
  by_cases hk : k = i.toNat
  · rw [if_pos hk, if_pos (by omega)]
  · rw [if_neg hk, if_neg (by omega)]
theorem cellL_st {b : Nat} {cA : Nat → ClassId} {n : Nat} {M : Mem} {o i z : Int} (hi : i32 i) (h0 : 0 ≤ i) : cellE b cA (3, n) (stM M o i z o) = .inl (cA 3, n, .inr (.inl (vp_updL (fun k => Int64.ofInt (M o (k : Int))) (Int32.ofInt i).toNatClampNeg (Int64.ofInt z)))) := by
  unfold cellE
  rw [if_neg (show ¬ (3 : Nat) < 3 by decide), if_pos rfl, stM_self, o_cl hi h0]
  congr 5
  funext k
  show Int64.ofInt (if (k : Int) = i then z else M o k) = if k = i.toNat then Int64.ofInt z else Int64.ofInt (M o k)
  by_cases hk : k = i.toNat
  · rw [if_pos hk, if_pos (by omega)]
  · rw [if_neg hk, if_neg (by omega)]
theorem arrI_store {cA : ClassId} {n : Nat} {f : Nat → Int32} {j : Nat} {x : Int32} : (vp_cell cA (n, .inl f)).setSlot j (.int x) = vp_cell cA (n, .inl (upd f j x)) := by
  rw [vp_cell_i, vp_cell_i, arrV_store]
  congr 1
  funext q
  by_cases hq : q = j
  · subst hq; simp [updV, upd]
  · simp [updV, upd, hq]
theorem arrL_store {cA : ClassId} {n : Nat} {f : Nat → Int64} {j : Nat} {x : Int64} : (vp_cell cA (n, .inr (.inl f))).setSlot j (.long x) = vp_cell cA (n, .inr (.inl (vp_updL f j x))) := by
  rw [vp_cell_l, vp_cell_l, arrV_store]
  congr 1
  funext q
  by_cases hq : q = j
  · subst hq; simp [updV, vp_updL]
  · simp [updV, vp_updL, hq]
theorem arr_in {cA : ClassId} {n : Nat} {f : Nat → Int32} {i : Int} (hi : i32 i) (h0 : 0 ≤ i) (h1 : i < n) : ¬ (Int32.ofInt i < 0 ∨ (vp_cell cA (n, .inl f)).slots.size ≤ (Int32.ofInt i).toNatClampNeg) := by
  show ¬ (_ ∨ (arrV _ _ _).slots.size ≤ _)
  rw [arrV_size]
  exact o_in hi h0 h1
theorem stM_at {M : Mem} {o i z q : Int} : stM M o i z o q = if q = i then z else M o q := by rw [stM_self]
theorem st_other {M : Mem} {o i z : Int} : ∀ j, j ≠ o → stM M o i z j = M j := fun _ h => stM_ne h
theorem own_A {B : BX} {o : Int} : B.1 ≤ B.1 + o.toNat := Nat.le_add_right _ _
theorem mx_iast (C : Cx K B ph y cc nL ret d mc ms) {o i z : Int} {n : Nat} (hd : decode cc pc = .ok (.iastore, 1)) (hs : shp S o = some (0, n)) (h0 : 0 ≤ i) (h1 : i < n) (k : Wx K B Z cs ss S nL (stM M o i z) (pc + 1) ls rest) : Wx K B Z cs ss S nL M pc ls (aI z :: aI i :: aR o :: rest) := by
  obtain ⟨p, l, e, R, s, m, args, below, meth, c⟩ := K
  intro H locs la hW hS hL hn
  have hz : i32 z := nVs_hd hn
  have hi : i32 i := nVs_hd (nVs_tl hn)
  have hcell : H[B.1 + o.toNat]? = some (vp_cell (B.2.2.1 0) (n, .inl (fun k => Int32.ofInt (M o (k : Int))))) := hW.1 o.toNat _ (wld_at hs)
  refine W.iast C.1 C.2.1 hcell (((cx_K C).2 0 _ rfl).1 n (fun j => .int (Int32.ofInt (M o (j : Int))))) (fun q => by cases q) (arr_in hi h0 h1) rfl rfl hd fun H1 e1 z1 oq => ?_
  rw [arrI_store] at e1
  exact k H1 _ la (WR_set hW hs (by rw [cellI_st (by decide) hi h0]; exact e1) st_other z1 oq (Nrm_st hW.2.2 hs ⟨(fun q => by cases q), (fun _ => hz), (fun q => by cases q)⟩)) (hS.put z1 oq own_A) hL (nVs_tl (nVs_tl (nVs_tl hn)))
theorem mx_bast (C : Cx K B ph y cc nL ret d mc ms) {o i z : Int} {n : Nat} (hd : decode cc pc = .ok (.bastore, 1)) (hs : shp S o = some (1, n)) (h0 : 0 ≤ i) (h1 : i < n) (k : Wx K B Z cs ss S nL (stM M o i (w8 z)) (pc + 1) ls rest) : Wx K B Z cs ss S nL M pc ls (aI z :: aI i :: aR o :: rest) := by
  obtain ⟨p, l, e, R, s, m, args, below, meth, c⟩ := K
  intro H locs la hW hS hL hn
  have hz : i32 z := nVs_hd hn
  have hi : i32 i := nVs_hd (nVs_tl hn)
  have hcell : H[B.1 + o.toNat]? = some (vp_cell (B.2.2.1 1) (n, .inl (fun k => Int32.ofInt (M o (k : Int))))) := hW.1 o.toNat _ (wld_at hs)
  refine W.bast C.1 C.2.1 hcell (((cx_K C).2 1 _ rfl).1 n (fun j => .int (Int32.ofInt (M o (j : Int))))) (fun q => by cases q) (arr_in hi h0 h1) rfl rfl hd fun H1 e1 z1 oq => ?_
  rw [show narrow .byte (.int (Int32.ofInt z)) = .int (Int32.ofInt (w8 z)) from congrArg Value.int (o_i2b hz), arrI_store] at e1
  exact k H1 _ la (WR_set hW hs (by rw [cellI_st (by decide) hi h0]; exact e1) st_other z1 oq (Nrm_st hW.2.2 hs ⟨(fun q => by cases q), (fun _ => i32_w8 z), (fun q => by cases q)⟩)) (hS.put z1 oq own_A) hL (nVs_tl (nVs_tl (nVs_tl hn)))
theorem mx_zast (C : Cx K B ph y cc nL ret d mc ms) {o i z : Int} {n : Nat} (hd : decode cc pc = .ok (.bastore, 1)) (hs : shp S o = some (2, n)) (hz1 : z = 0 ∨ z = 1) (h0 : 0 ≤ i) (h1 : i < n) (k : Wx K B Z cs ss S nL (stM M o i z) (pc + 1) ls rest) : Wx K B Z cs ss S nL M pc ls (aI z :: aI i :: aR o :: rest) := by
  obtain ⟨p, l, e, R, s, m, args, below, meth, c⟩ := K
  intro H locs la hW hS hL hn
  have hz : i32 z := nVs_hd hn
  have hi : i32 i := nVs_hd (nVs_tl hn)
  have hcell : H[B.1 + o.toNat]? = some (vp_cell (B.2.2.1 2) (n, .inl (fun k => Int32.ofInt (M o (k : Int))))) := hW.1 o.toNat _ (wld_at hs)
  refine W.zast C.1 C.2.1 hcell (((cx_K C).2 2 _ rfl).1 n (fun j => .int (Int32.ofInt (M o (j : Int))))) (fun q => by cases q) (arr_in hi h0 h1) rfl rfl hd fun H1 e1 z1 oq => ?_
  rw [show narrow .boolean (.int (Int32.ofInt z)) = .int (Int32.ofInt z) by rcases hz1 with rfl | rfl <;> rfl, arrI_store] at e1
  exact k H1 _ la (WR_set hW hs (by rw [cellI_st (by decide) hi h0]; exact e1) st_other z1 oq (Nrm_st hW.2.2 hs ⟨(fun q => by cases q), (fun _ => hz), (fun _ => hz1)⟩)) (hS.put z1 oq own_A) hL (nVs_tl (nVs_tl (nVs_tl hn)))
theorem mx_last (C : Cx K B ph y cc nL ret d mc ms) {o i z : Int} {n : Nat} (hd : decode cc pc = .ok (.lastore, 1)) (hs : shp S o = some (3, n)) (h0 : 0 ≤ i) (h1 : i < n) (k : Wx K B Z cs ss S nL (stM M o i z) (pc + 1) ls rest) : Wx K B Z cs ss S nL M pc ls (aJ z :: aI i :: aR o :: rest) := by
  obtain ⟨p, l, e, R, s, m, args, below, meth, c⟩ := K
  intro H locs la hW hS hL hn
  have hz : i64 z := nVs_hd hn
  have hi : i32 i := nVs_hd (nVs_tl hn)
  have hcell : H[B.1 + o.toNat]? = some (vp_cell (B.2.2.1 3) (n, .inr (.inl (fun k => Int64.ofInt (M o (k : Int)))))) := hW.1 o.toNat _ (wld_at hs)
  refine W.last C.1 C.2.1 hcell (((cx_K C).2 3 _ rfl).1 n (fun j => .long (Int64.ofInt (M o (j : Int))))) (fun q => by cases q) (by show ¬ (_ ∨ (arrV _ _ _).slots.size ≤ _); rw [arrV_size]; exact o_in hi h0 h1) rfl rfl hd fun H1 e1 z1 oq => ?_
  rw [arrL_store] at e1
  exact k H1 _ la (WR_set hW hs (by rw [cellL_st hi h0]; exact e1) st_other z1 oq (Nrm_st hW.2.2 hs ⟨(fun _ => hz), (fun q => absurd rfl q), (fun q => by cases q)⟩)) (hS.put z1 oq own_A) hL (nVs_tl (nVs_tl (nVs_tl hn)))
/-! fields -/
theorem fld_o {b c : Nat} {cA : Nat → ClassId} {n : Nat} {m : Int → Int} : cellE b cA (10 + c, n) m = .inr (c, flds b c m) := by
  unfold cellE
  rw [if_neg (by show ¬ 10 + c < 3; omega), if_neg (by show ¬ 10 + c = 3; omega), if_neg (by show ¬ 10 + c < 10; omega)]
  show Sum.inr (10 + c - 10, flds b (10 + c - 10) m) = _
  rw [Nat.add_sub_cancel_left]
theorem mx_getI (C : Cx K B ph y cc nL ret d mc ms) {o q : Int} {c n k idx : Nat} {Cn : String} {T : u_T} (hd : decode cc pc = .ok (.getfield idx, 3)) (hs : shp S o = some (10 + c, n)) (hC : CI c Cn T) (hk : k < nFl c) (hw : Cond.fieldLink y.cls idx (T k).1 (T k).2.1 (T k).2.2.1 ∈ BIG) (ht : isRT (tyFl c k) = false) (hq : (k : Int) = q) (kk : Wx K B Z cs ss S nL M (pc + 3) ls (aI (M o q) :: rest)) : Wx K B Z cs ss S nL M pc ls (aR o :: rest) := by
  obtain ⟨p, l, e, R, s, m, args, below, meth, cd⟩ := K
  intro H locs la hW hS hL hn
  subst hq
  refine va_get (v := .int (Int32.ofInt (M o (k : Int)))) C.1 C.2.1 C.2.2.2.2.1 hC.2.1 C.2.2.2.1 (cx_K C) hW.1 o.toNat (by rw [wld_at hs, fld_o]) hC.1 k hk (C.2.2.2.2.1 _ hw) (fun _ h => h) (by rw [flds_get hk, mkF, ht]; rfl) hd ?_
  exact kk H locs la hW hS hL (nVs_cn ((hW.2.2 o k _ hs).2.1 (by show ¬ 10 + c = 3; omega)) (nVs_tl hn))
theorem mx_getR (C : Cx K B ph y cc nL ret d mc ms) {o q v : Int} {c n k idx : Nat} {Cn : String} {T : u_T} (hd : decode cc pc = .ok (.getfield idx, 3)) (hs : shp S o = some (10 + c, n)) (hC : CI c Cn T) (hk : k < nFl c) (hw : Cond.fieldLink y.cls idx (T k).1 (T k).2.1 (T k).2.2.1 ∈ BIG) (ht : isRT (tyFl c k) = true) (hq : (k : Int) = q) (hv : M o q = v) (h0 : 0 ≤ v) (kk : Wx K B Z cs ss S nL M (pc + 3) ls (aR v :: rest)) : Wx K B Z cs ss S nL M pc ls (aR o :: rest) := by
  obtain ⟨p, l, e, R, s, m, args, below, meth, cd⟩ := K
  intro H locs la hW hS hL hn
  subst hq
  subst hv
  refine va_get (v := .ref (B.1 + (M o (k : Int)).toNat)) C.1 C.2.1 C.2.2.2.2.1 hC.2.1 C.2.2.2.1 (cx_K C) hW.1 o.toNat (by rw [wld_at hs, fld_o]) hC.1 k hk (C.2.2.2.2.1 _ hw) (fun _ h => h) (by rw [flds_get hk, mkF, ht, if_pos rfl, mkR, if_neg (by omega)]) hd ?_
  exact kk H locs la hW hS hL (nVs_cn h0 (nVs_tl hn))
theorem put_W {B : BX} {S : List Shp} {M : Mem} {H H1 : Heap} {o z : Int} {c n k : Nat} {Cn : String} {T : u_T} {v : Value} (hW : WR B S M H) (hs : shp S o = some (10 + c, n)) (hC : CI c Cn T) (hk : k < nFl c) (hv : v = mkF B.1 (tyFl c k) z) (hz : i32 z) {f : Field} {cell : Cell} (e1 : H1[B.1 + o.toNat]? = some (cell.setSlot f.slot v)) (q2 : cell.cls = B.2.1.1 c) (q3 : cell.vm = .none) (q4 : ∀ j, j < nFl c → cell.slots[B.2.1.2 c j]? = some (vp_V (flds B.1 c (M o)) j)) (hap : ∀ x y, x < nFl c → y < nFl c → x ≠ y → B.2.1.2 c x ≠ B.2.1.2 c y) (hsl : f.slot = B.2.1.2 c k) (z1 : H1.size = H.size) (oq : ∀ q : Nat, q ≠ B.1 + o.toNat → H1[q]? = H[q]?) : WR B S (stM M o k z) H1 := by
  refine WR_set hW hs ?_ st_other z1 oq (Nrm_st hW.2.2 hs ⟨(fun q => by exfalso; have q' : 10 + c = 3 := q; omega), (fun _ => hz), (fun q => by exfalso; have q' : 10 + c = 2 := q; omega)⟩)
  rw [fld_o]
  refine ⟨_, hC.1, ?_⟩
  rw [hsl] at e1
  refine t_OB.to (V := updV (vp_V (flds B.1 c (M o))) k v) ⟨_, e1, q2, q3, t_set q4 hap hk v⟩ (fun j _ => ?_)
  rw [vp_updV_set (by rw [flds_len]; exact hk)]
  rw [flds_set (m' := stM M o k z o) hk (by rw [stM_at, if_pos rfl]; exact hv) (fun j hj => by rw [stM_at, if_neg (by omega)])]
theorem put_go (C : Cx K B ph y cc nL ret d mc ms) {o z : Int} {c n k idx : Nat} {Cn : String} {T : u_T} {v : Value} {w : AV} (hd : decode cc pc = .ok (.putfield idx, 3)) (hs : shp S o = some (10 + c, n)) (hC : CI c Cn T) (hk : k < nFl c) (hw : Cond.fieldLink y.cls idx (T k).1 (T k).2.1 (T k).2.2.1 ∈ BIG) (hfin : (T k).2.2.2 = false ∨ (y.name = "<init>" ∧ (T k).1 = y.cls)) (hcv : cV B.1 B.2.2.2.1 w = v) (hmk : v = mkF B.1 (tyFl c k) z) (hz : i32 z) (hnr : narrow (tyFl c k) v = v) (hft : fits (tyFl c k) v = true) (kk : Wx K B Z cs ss S nL (stM M o k z) (pc + 3) ls rest) : Wx K B Z cs ss S nL M pc ls (w :: aR o :: rest) := by
  obtain ⟨p, l, e, R, s, m, args, below, meth, cd⟩ := K
  intro H locs la hW hS hL hn
  have hts := C.2.2.2.2.1
  have hown := C.2.2.2.1
  have hap := va_apart (own := y.cls) hts hC.2.1 (tyFl c) hC.2.2.1 hC.2.2.2 (cx_K C) hC.1
  have hat := hW.1 o.toNat _ (wld_at hs)
  rw [fld_o] at hat
  obtain ⟨r, h1, cell, q1, q2, q3, q4⟩ := hat
  have hr : r = (Cn, T, nFl c) := Option.some.inj (h1.symm.trans hC.1)
  subst hr
  obtain ⟨hSl, hfc, kC, hkC, hkind⟩ := (cx_K C).1 c _ hC.1
  obtain ⟨cf, kf, fi, f, hi, hsl⟩ := hSl k hk
  have hst := (u_facts hfc hkC (u_lays hts hC.2.1 hk) hi).1
  have hlay := hts _ (hC.2.1 _ (u_in_lay hk))
  have hgo : ∀ H' : Heap, H'[B.1 + o.toNat]? = some (cell.setSlot f.slot v) → H'.size = H.size → (∀ q : Nat, q ≠ B.1 + o.toNat → H'[q]? = H[q]?) → W p l e R s m args below meth cd H' (locs ++ [⟨B.1 + o.toNat, f.slot⟩]) cs ss Z (F0 m (pc + 3) la (rest.map (cV B.1 B.2.2.2.1))) := fun H' e1 z1 oq =>
    kk H' _ la (put_W hW hs hC hk hmk hz e1 q2 q3 q4 hap hsl z1 oq) (hS.put z1 oq own_A) hL (nVs_tl (nVs_tl hn))
  show W p l e R s m args below meth cd H locs cs ss Z (F0 m pc la (cV B.1 B.2.2.2.1 w :: .ref (B.1 + o.toNat) :: rest.map (cV B.1 B.2.2.2.1)))
  rw [hcv]
  by_cases hf : (T k).2.2.2 = false
  · unfold u_lay at hlay
    rw [if_neg (by rw [hf]; decide)] at hlay
    have h6 := u_store hfc hkC hkind hlay hi (hC.2.2.1 k hk) hnr hft
    exact W.putK C.1 C.2.1 (f := f) ⟨hown, hts _ hw, ⟨_, _, _, hi⟩, hst⟩ (by rw [q2]; exact h6) q1 q3 (by rw [hsl]; exact k2_hasslot (q4 k hk)) rfl rfl hd hgo
  · have hft' : (T k).2.2.2 = true := by simpa using hf
    obtain ⟨hnm, hdecl⟩ := hfin.resolve_left hf
    unfold u_lay at hlay
    rw [if_pos hft'] at hlay
    have hcf : m.cls = cf := by
      obtain ⟨_, _, c', _, _, _, -, -, hf', -, -, -, hown2, -⟩ := Cond.laysFinal_spec hlay
      have e1 : c' = cf := by have := hi.symm.trans hf'; simp at this; exact this.1.symm
      rw [hdecl] at hown2
      rw [← e1]; exact Option.some.inj (hown.symm.trans hown2)
    have h6 := u_fits hfc hkC hkind (Or.inr hlay) hi (hC.2.2.1 k hk) hnr hft
    exact W.putFinK C.1 C.2.1 hown (hts _ hw) hi hst hcf (C.2.2.2.2.2.2.2.2.2.2.1.trans hnm) (by rw [q2]; exact h6) q1 q3 (by rw [hsl]; exact k2_hasslot (q4 k hk)) rfl rfl hd hgo
theorem mx_putI (C : Cx K B ph y cc nL ret d mc ms) {o q z : Int} {c n k idx : Nat} {Cn : String} {T : u_T} (hd : decode cc pc = .ok (.putfield idx, 3)) (hs : shp S o = some (10 + c, n)) (hC : CI c Cn T) (hk : k < nFl c) (hw : Cond.fieldLink y.cls idx (T k).1 (T k).2.1 (T k).2.2.1 ∈ BIG) (hfin : (T k).2.2.2 = false ∨ (y.name = "<init>" ∧ (T k).1 = y.cls)) (ht : tyFl c k = .int) (hq : (k : Int) = q) (kk : Wx K B Z cs ss S nL (stM M o q z) (pc + 3) ls rest) : Wx K B Z cs ss S nL M pc ls (aI z :: aR o :: rest) := by
  subst hq
  intro H locs la hW hS hL hn
  have hz : i32 z := nVs_hd hn
  exact put_go C (v := .int (Int32.ofInt z)) hd hs hC hk hw hfin rfl (by rw [mkF, ht]; rfl) hz (by rw [ht]; rfl) (by rw [ht]; rfl) kk H locs la hW hS hL hn
theorem mx_putZ (C : Cx K B ph y cc nL ret d mc ms) {o q z : Int} {c n k idx : Nat} {Cn : String} {T : u_T} (hd : decode cc pc = .ok (.putfield idx, 3)) (hs : shp S o = some (10 + c, n)) (hC : CI c Cn T) (hk : k < nFl c) (hw : Cond.fieldLink y.cls idx (T k).1 (T k).2.1 (T k).2.2.1 ∈ BIG) (hfin : (T k).2.2.2 = false ∨ (y.name = "<init>" ∧ (T k).1 = y.cls)) (ht : tyFl c k = .boolean) (hz1 : z = 0 ∨ z = 1) (hq : (k : Int) = q) (kk : Wx K B Z cs ss S nL (stM M o q z) (pc + 3) ls rest) : Wx K B Z cs ss S nL M pc ls (aI z :: aR o :: rest) := by
  subst hq
  intro H locs la hW hS hL hn
  have hz : i32 z := nVs_hd hn
  exact put_go C (v := .int (Int32.ofInt z)) hd hs hC hk hw hfin rfl (by rw [mkF, ht]; rfl) hz (by rw [ht]; rcases hz1 with rfl | rfl <;> rfl) (by rw [ht]; rcases hz1 with rfl | rfl <;> rfl) kk H locs la hW hS hL hn
theorem nar_ref {ty : FieldType} {a : Nat} (h : isRT ty = true) : narrow ty (.ref a) = .ref a ∧ fits ty (.ref a) = true := by
  cases ty <;> simp [isRT] at h <;> exact ⟨rfl, rfl⟩
theorem mx_putR (C : Cx K B ph y cc nL ret d mc ms) {o q z : Int} {c n k idx : Nat} {Cn : String} {T : u_T} (hd : decode cc pc = .ok (.putfield idx, 3)) (hs : shp S o = some (10 + c, n)) (hC : CI c Cn T) (hk : k < nFl c) (hw : Cond.fieldLink y.cls idx (T k).1 (T k).2.1 (T k).2.2.1 ∈ BIG) (hfin : (T k).2.2.2 = false ∨ (y.name = "<init>" ∧ (T k).1 = y.cls)) (ht : isRT (tyFl c k) = true) (h0 : 0 ≤ z) (h1 : z < 1000000) (hq : (k : Int) = q) (kk : Wx K B Z cs ss S nL (stM M o q z) (pc + 3) ls rest) : Wx K B Z cs ss S nL M pc ls (aR z :: aR o :: rest) := by
  subst hq
  exact put_go C (v := .ref (B.1 + z.toNat)) hd hs hC hk hw hfin rfl (by rw [mkF, ht, if_pos rfl, mkR, if_neg (by omega)]) (show i32 z by unfold i32; omega) (nar_ref ht).1 (nar_ref ht).2 kk
end MXH
end
