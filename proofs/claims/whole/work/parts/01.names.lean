-- ===== PART A: goes FIRST, ahead of the names: the tables' words, and 'selects' of the private methods out of them =====
/-- a private method of a class that the tables say can be made, by its rows of tables_1 -/
def lw_okq (q : MethodName × Nat) : Prop := (q.1.cls ≠ "java/lang/invoke/MethodHandle" ∧ q.1.cls ≠ "java/lang/invoke/VarHandle") ∧ Cond.instantiable q.1.cls q.2 ∈ tables_1 ∧ Cond.privateMethod q.1 ∈ tables_1 ∧ Cond.instanceMethod q.1 ∈ tables_1
theorem lw_p0 : lw_okq (⟨"HouseFronts", "forgetParses", "()V"⟩, 9) := ⟨⟨by decide +kernel, by decide +kernel⟩, List.mem_of_getElem? (i := 16) (by decide +kernel), List.mem_of_getElem? (i := 402) (by decide +kernel), List.mem_of_getElem? (i := 403) (by decide +kernel)⟩
theorem lw_p1 : lw_okq (⟨"HouseFronts$Layout", "layRepeat", "(LHouseFronts$Parts;I)Z"⟩, 4) := ⟨⟨by decide +kernel, by decide +kernel⟩, List.mem_of_getElem? (i := 133) (by decide +kernel), List.mem_of_getElem? (i := 508) (by decide +kernel), List.mem_of_getElem? (i := 509) (by decide +kernel)⟩
theorem lw_p2 : lw_okq (⟨"HouseFronts$Layout", "laidOneAfterAnother", "()Z"⟩, 4) := ⟨⟨by decide +kernel, by decide +kernel⟩, List.mem_of_getElem? (i := 133) (by decide +kernel), List.mem_of_getElem? (i := 512) (by decide +kernel), List.mem_of_getElem? (i := 513) (by decide +kernel)⟩
theorem lw_p3 : lw_okq (⟨"HouseFronts$Layout", "laySplit", "(LHouseFronts$Parts;I)Z"⟩, 4) := ⟨⟨by decide +kernel, by decide +kernel⟩, List.mem_of_getElem? (i := 133) (by decide +kernel), List.mem_of_getElem? (i := 516) (by decide +kernel), List.mem_of_getElem? (i := 517) (by decide +kernel)⟩
theorem lw_p4 : lw_okq (⟨"HouseFronts$Walk", "push", "(IIIIIII)V"⟩, 12) := ⟨⟨by decide +kernel, by decide +kernel⟩, List.mem_of_getElem? (i := 276) (by decide +kernel), List.mem_of_getElem? (i := 537) (by decide +kernel), List.mem_of_getElem? (i := 538) (by decide +kernel)⟩
theorem lw_p5 : lw_okq (⟨"HouseFronts$Walk", "choose", "()I"⟩, 12) := ⟨⟨by decide +kernel, by decide +kernel⟩, List.mem_of_getElem? (i := 276) (by decide +kernel), List.mem_of_getElem? (i := 545) (by decide +kernel), List.mem_of_getElem? (i := 546) (by decide +kernel)⟩
theorem lw_p6 : lw_okq (⟨"HouseFronts$Chart", "spanOf", "(II)I"⟩, 14) := ⟨⟨by decide +kernel, by decide +kernel⟩, List.mem_of_getElem? (i := 183) (by decide +kernel), List.mem_of_getElem? (i := 623) (by decide +kernel), List.mem_of_getElem? (i := 624) (by decide +kernel)⟩
theorem lw_p7 : lw_okq (⟨"HouseFronts$Chart", "askBelow", "(I)V"⟩, 14) := ⟨⟨by decide +kernel, by decide +kernel⟩, List.mem_of_getElem? (i := 183) (by decide +kernel), List.mem_of_getElem? (i := 628) (by decide +kernel), List.mem_of_getElem? (i := 629) (by decide +kernel)⟩
theorem lw_p8 : lw_okq (⟨"HouseFronts$Chart", "askParts", "(IZ)V"⟩, 14) := ⟨⟨by decide +kernel, by decide +kernel⟩, List.mem_of_getElem? (i := 183) (by decide +kernel), List.mem_of_getElem? (i := 634) (by decide +kernel), List.mem_of_getElem? (i := 635) (by decide +kernel)⟩
theorem lw_p9 : lw_okq (⟨"HouseFronts$Chart", "cellOfPart", "(IZI)I"⟩, 14) := ⟨⟨by decide +kernel, by decide +kernel⟩, List.mem_of_getElem? (i := 183) (by decide +kernel), List.mem_of_getElem? (i := 638) (by decide +kernel), List.mem_of_getElem? (i := 639) (by decide +kernel)⟩
theorem lw_p10 : lw_okq (⟨"HouseFronts$Chart", "settleCell", "(I)V"⟩, 14) := ⟨⟨by decide +kernel, by decide +kernel⟩, List.mem_of_getElem? (i := 183) (by decide +kernel), List.mem_of_getElem? (i := 642) (by decide +kernel), List.mem_of_getElem? (i := 643) (by decide +kernel)⟩
theorem lw_p11 : lw_okq (⟨"HouseFronts$Chart", "gainOfParts", "(IILHouseFronts$Rule;)V"⟩, 14) := ⟨⟨by decide +kernel, by decide +kernel⟩, List.mem_of_getElem? (i := 183) (by decide +kernel), List.mem_of_getElem? (i := 680) (by decide +kernel), List.mem_of_getElem? (i := 681) (by decide +kernel)⟩
theorem lw_p12 : lw_okq (⟨"HouseFronts$Chart", "weightOf", "(I)J"⟩, 14) := ⟨⟨by decide +kernel, by decide +kernel⟩, List.mem_of_getElem? (i := 183) (by decide +kernel), List.mem_of_getElem? (i := 693) (by decide +kernel), List.mem_of_getElem? (i := 694) (by decide +kernel)⟩
theorem lw_p13 : lw_okq (⟨"HouseFronts$Knot", "findEndless", "()V"⟩, 11) := ⟨⟨by decide +kernel, by decide +kernel⟩, List.mem_of_getElem? (i := 189) (by decide +kernel), List.mem_of_getElem? (i := 705) (by decide +kernel), List.mem_of_getElem? (i := 706) (by decide +kernel)⟩
theorem lw_p14 : lw_okq (⟨"HouseFronts$Knot", "tiedTo", "(I)I"⟩, 11) := ⟨⟨by decide +kernel, by decide +kernel⟩, List.mem_of_getElem? (i := 189) (by decide +kernel), List.mem_of_getElem? (i := 709) (by decide +kernel), List.mem_of_getElem? (i := 710) (by decide +kernel)⟩
theorem lw_p15 : lw_okq (⟨"HouseFronts$Knot", "sumTies", "()V"⟩, 11) := ⟨⟨by decide +kernel, by decide +kernel⟩, List.mem_of_getElem? (i := 189) (by decide +kernel), List.mem_of_getElem? (i := 713) (by decide +kernel), List.mem_of_getElem? (i := 714) (by decide +kernel)⟩
def lw_privs_1 : List (MethodName × Nat) := [(⟨"HouseFronts", "forgetParses", "()V"⟩, 9), (⟨"HouseFronts$Layout", "layRepeat", "(LHouseFronts$Parts;I)Z"⟩, 4), (⟨"HouseFronts$Layout", "laidOneAfterAnother", "()Z"⟩, 4), (⟨"HouseFronts$Layout", "laySplit", "(LHouseFronts$Parts;I)Z"⟩, 4), (⟨"HouseFronts$Walk", "push", "(IIIIIII)V"⟩, 12), (⟨"HouseFronts$Walk", "choose", "()I"⟩, 12), (⟨"HouseFronts$Chart", "spanOf", "(II)I"⟩, 14), (⟨"HouseFronts$Chart", "askBelow", "(I)V"⟩, 14), (⟨"HouseFronts$Chart", "askParts", "(IZ)V"⟩, 14), (⟨"HouseFronts$Chart", "cellOfPart", "(IZI)I"⟩, 14), (⟨"HouseFronts$Chart", "settleCell", "(I)V"⟩, 14), (⟨"HouseFronts$Chart", "gainOfParts", "(IILHouseFronts$Rule;)V"⟩, 14), (⟨"HouseFronts$Chart", "weightOf", "(I)J"⟩, 14), (⟨"HouseFronts$Knot", "findEndless", "()V"⟩, 11), (⟨"HouseFronts$Knot", "tiedTo", "(I)I"⟩, 11), (⟨"HouseFronts$Knot", "sumTies", "()V"⟩, 11)]
theorem lw_r1 : ∀ q ∈ lw_privs_1, lw_okq q := List.forall_mem_cons.mpr ⟨lw_p0, List.forall_mem_cons.mpr ⟨lw_p1, List.forall_mem_cons.mpr ⟨lw_p2, List.forall_mem_cons.mpr ⟨lw_p3, List.forall_mem_cons.mpr ⟨lw_p4, List.forall_mem_cons.mpr ⟨lw_p5, List.forall_mem_cons.mpr ⟨lw_p6, List.forall_mem_cons.mpr ⟨lw_p7, List.forall_mem_cons.mpr ⟨lw_p8, List.forall_mem_cons.mpr ⟨lw_p9, List.forall_mem_cons.mpr ⟨lw_p10, List.forall_mem_cons.mpr ⟨lw_p11, List.forall_mem_cons.mpr ⟨lw_p12, List.forall_mem_cons.mpr ⟨lw_p13, List.forall_mem_cons.mpr ⟨lw_p14, List.forall_mem_cons.mpr ⟨lw_p15, fun _ h => absurd h List.not_mem_nil⟩⟩⟩⟩⟩⟩⟩⟩⟩⟩⟩⟩⟩⟩⟩⟩
theorem lw_p16 : lw_okq (⟨"HouseFronts$Knot", "lightenByTies", "()V"⟩, 11) := ⟨⟨by decide +kernel, by decide +kernel⟩, List.mem_of_getElem? (i := 189) (by decide +kernel), List.mem_of_getElem? (i := 717) (by decide +kernel), List.mem_of_getElem? (i := 718) (by decide +kernel)⟩
theorem lw_p17 : lw_okq (⟨"HouseFronts$Knot", "pickAmongTies", "()V"⟩, 11) := ⟨⟨by decide +kernel, by decide +kernel⟩, List.mem_of_getElem? (i := 189) (by decide +kernel), List.mem_of_getElem? (i := 721) (by decide +kernel), List.mem_of_getElem? (i := 722) (by decide +kernel)⟩
theorem lw_p18 : lw_okq (⟨"HouseFronts$Chart", "keep", "(II)V"⟩, 14) := ⟨⟨by decide +kernel, by decide +kernel⟩, List.mem_of_getElem? (i := 183) (by decide +kernel), List.mem_of_getElem? (i := 725) (by decide +kernel), List.mem_of_getElem? (i := 726) (by decide +kernel)⟩
theorem lw_p19 : lw_okq (⟨"HouseFronts", "settleBoard", "()I"⟩, 9) := ⟨⟨by decide +kernel, by decide +kernel⟩, List.mem_of_getElem? (i := 16) (by decide +kernel), List.mem_of_getElem? (i := 756) (by decide +kernel), List.mem_of_getElem? (i := 757) (by decide +kernel)⟩
theorem lw_p20 : lw_okq (⟨"HouseFrontsModel", "boards", "(II)V"⟩, 51) := ⟨⟨by decide +kernel, by decide +kernel⟩, List.mem_of_getElem? (i := 787) (by decide +kernel), List.mem_of_getElem? (i := 794) (by decide +kernel), List.mem_of_getElem? (i := 795) (by decide +kernel)⟩
theorem lw_p21 : lw_okq (⟨"HouseFrontsModel", "add", "(IIII)I"⟩, 51) := ⟨⟨by decide +kernel, by decide +kernel⟩, List.mem_of_getElem? (i := 787) (by decide +kernel), List.mem_of_getElem? (i := 966) (by decide +kernel), List.mem_of_getElem? (i := 967) (by decide +kernel)⟩
theorem lw_p22 : lw_okq (⟨"HouseFrontsModel", "forget", "()V"⟩, 51) := ⟨⟨by decide +kernel, by decide +kernel⟩, List.mem_of_getElem? (i := 787) (by decide +kernel), List.mem_of_getElem? (i := 970) (by decide +kernel), List.mem_of_getElem? (i := 971) (by decide +kernel)⟩
theorem lw_p23 : lw_okq (⟨"HouseFrontsModel", "addPart", "(IIIZ)V"⟩, 51) := ⟨⟨by decide +kernel, by decide +kernel⟩, List.mem_of_getElem? (i := 787) (by decide +kernel), List.mem_of_getElem? (i := 984) (by decide +kernel), List.mem_of_getElem? (i := 985) (by decide +kernel)⟩
theorem lw_p24 : lw_okq (⟨"HouseFrontsModel", "isRule", "(I)Z"⟩, 51) := ⟨⟨by decide +kernel, by decide +kernel⟩, List.mem_of_getElem? (i := 787) (by decide +kernel), List.mem_of_getElem? (i := 996) (by decide +kernel), List.mem_of_getElem? (i := 997) (by decide +kernel)⟩
theorem lw_p25 : lw_okq (⟨"HouseFrontsModel", "lay", "(III)Z"⟩, 51) := ⟨⟨by decide +kernel, by decide +kernel⟩, List.mem_of_getElem? (i := 787) (by decide +kernel), List.mem_of_getElem? (i := 1015) (by decide +kernel), List.mem_of_getElem? (i := 1016) (by decide +kernel)⟩
theorem lw_p26 : lw_okq (⟨"HouseFrontsModel", "isAlongY", "(I)Z"⟩, 51) := ⟨⟨by decide +kernel, by decide +kernel⟩, List.mem_of_getElem? (i := 787) (by decide +kernel), List.mem_of_getElem? (i := 1019) (by decide +kernel), List.mem_of_getElem? (i := 1020) (by decide +kernel)⟩
theorem lw_p27 : lw_okq (⟨"HouseFrontsModel", "laySplit", "(II)Z"⟩, 51) := ⟨⟨by decide +kernel, by decide +kernel⟩, List.mem_of_getElem? (i := 787) (by decide +kernel), List.mem_of_getElem? (i := 1023) (by decide +kernel), List.mem_of_getElem? (i := 1024) (by decide +kernel)⟩
theorem lw_p28 : lw_okq (⟨"HouseFrontsModel", "layRepeat", "(II)Z"⟩, 51) := ⟨⟨by decide +kernel, by decide +kernel⟩, List.mem_of_getElem? (i := 787) (by decide +kernel), List.mem_of_getElem? (i := 1027) (by decide +kernel), List.mem_of_getElem? (i := 1028) (by decide +kernel)⟩
theorem lw_p29 : lw_okq (⟨"HouseFrontsModel", "put", "(IIIII)V"⟩, 51) := ⟨⟨by decide +kernel, by decide +kernel⟩, List.mem_of_getElem? (i := 787) (by decide +kernel), List.mem_of_getElem? (i := 1039) (by decide +kernel), List.mem_of_getElem? (i := 1040) (by decide +kernel)⟩
theorem lw_p30 : lw_okq (⟨"HouseFrontsModel", "picked", "(IIII)I"⟩, 51) := ⟨⟨by decide +kernel, by decide +kernel⟩, List.mem_of_getElem? (i := 787) (by decide +kernel), List.mem_of_getElem? (i := 1043) (by decide +kernel), List.mem_of_getElem? (i := 1044) (by decide +kernel)⟩
theorem lw_p31 : lw_okq (⟨"HouseFrontsModel", "fillDraft", "(IIIII)V"⟩, 51) := ⟨⟨by decide +kernel, by decide +kernel⟩, List.mem_of_getElem? (i := 787) (by decide +kernel), List.mem_of_getElem? (i := 1048) (by decide +kernel), List.mem_of_getElem? (i := 1049) (by decide +kernel)⟩
def lw_privs_2 : List (MethodName × Nat) := [(⟨"HouseFronts$Knot", "lightenByTies", "()V"⟩, 11), (⟨"HouseFronts$Knot", "pickAmongTies", "()V"⟩, 11), (⟨"HouseFronts$Chart", "keep", "(II)V"⟩, 14), (⟨"HouseFronts", "settleBoard", "()I"⟩, 9), (⟨"HouseFrontsModel", "boards", "(II)V"⟩, 51), (⟨"HouseFrontsModel", "add", "(IIII)I"⟩, 51), (⟨"HouseFrontsModel", "forget", "()V"⟩, 51), (⟨"HouseFrontsModel", "addPart", "(IIIZ)V"⟩, 51), (⟨"HouseFrontsModel", "isRule", "(I)Z"⟩, 51), (⟨"HouseFrontsModel", "lay", "(III)Z"⟩, 51), (⟨"HouseFrontsModel", "isAlongY", "(I)Z"⟩, 51), (⟨"HouseFrontsModel", "laySplit", "(II)Z"⟩, 51), (⟨"HouseFrontsModel", "layRepeat", "(II)Z"⟩, 51), (⟨"HouseFrontsModel", "put", "(IIIII)V"⟩, 51), (⟨"HouseFrontsModel", "picked", "(IIII)I"⟩, 51), (⟨"HouseFrontsModel", "fillDraft", "(IIIII)V"⟩, 51)]
theorem lw_r2 : ∀ q ∈ lw_privs_2, lw_okq q := List.forall_mem_cons.mpr ⟨lw_p16, List.forall_mem_cons.mpr ⟨lw_p17, List.forall_mem_cons.mpr ⟨lw_p18, List.forall_mem_cons.mpr ⟨lw_p19, List.forall_mem_cons.mpr ⟨lw_p20, List.forall_mem_cons.mpr ⟨lw_p21, List.forall_mem_cons.mpr ⟨lw_p22, List.forall_mem_cons.mpr ⟨lw_p23, List.forall_mem_cons.mpr ⟨lw_p24, List.forall_mem_cons.mpr ⟨lw_p25, List.forall_mem_cons.mpr ⟨lw_p26, List.forall_mem_cons.mpr ⟨lw_p27, List.forall_mem_cons.mpr ⟨lw_p28, List.forall_mem_cons.mpr ⟨lw_p29, List.forall_mem_cons.mpr ⟨lw_p30, List.forall_mem_cons.mpr ⟨lw_p31, fun _ h => absurd h List.not_mem_nil⟩⟩⟩⟩⟩⟩⟩⟩⟩⟩⟩⟩⟩⟩⟩⟩
theorem lw_p32 : lw_okq (⟨"HouseFrontsModel", "putPieces", "(IIIIIII)V"⟩, 51) := ⟨⟨by decide +kernel, by decide +kernel⟩, List.mem_of_getElem? (i := 787) (by decide +kernel), List.mem_of_getElem? (i := 1052) (by decide +kernel), List.mem_of_getElem? (i := 1053) (by decide +kernel)⟩
theorem lw_p33 : lw_okq (⟨"HouseFrontsModel", "isPlace", "(I)Z"⟩, 51) := ⟨⟨by decide +kernel, by decide +kernel⟩, List.mem_of_getElem? (i := 787) (by decide +kernel), List.mem_of_getElem? (i := 1084) (by decide +kernel), List.mem_of_getElem? (i := 1085) (by decide +kernel)⟩
theorem lw_p34 : lw_okq (⟨"HouseFrontsModel", "workScopes", "()V"⟩, 51) := ⟨⟨by decide +kernel, by decide +kernel⟩, List.mem_of_getElem? (i := 787) (by decide +kernel), List.mem_of_getElem? (i := 1095) (by decide +kernel), List.mem_of_getElem? (i := 1096) (by decide +kernel)⟩
theorem lw_p35 : lw_okq (⟨"HouseFrontsModel", "work", "(IIII)V"⟩, 51) := ⟨⟨by decide +kernel, by decide +kernel⟩, List.mem_of_getElem? (i := 787) (by decide +kernel), List.mem_of_getElem? (i := 1099) (by decide +kernel), List.mem_of_getElem? (i := 1100) (by decide +kernel)⟩
theorem lw_p36 : lw_okq (⟨"HouseFrontsModel", "place", "(IIII)I"⟩, 51) := ⟨⟨by decide +kernel, by decide +kernel⟩, List.mem_of_getElem? (i := 787) (by decide +kernel), List.mem_of_getElem? (i := 1103) (by decide +kernel), List.mem_of_getElem? (i := 1104) (by decide +kernel)⟩
theorem lw_p37 : lw_okq (⟨"HouseFrontsModel", "count", "(IIIII)V"⟩, 51) := ⟨⟨by decide +kernel, by decide +kernel⟩, List.mem_of_getElem? (i := 787) (by decide +kernel), List.mem_of_getElem? (i := 1108) (by decide +kernel), List.mem_of_getElem? (i := 1109) (by decide +kernel)⟩
theorem lw_p38 : lw_okq (⟨"HouseFrontsModel", "isAll", "(IIIII)Z"⟩, 51) := ⟨⟨by decide +kernel, by decide +kernel⟩, List.mem_of_getElem? (i := 787) (by decide +kernel), List.mem_of_getElem? (i := 1112) (by decide +kernel), List.mem_of_getElem? (i := 1113) (by decide +kernel)⟩
theorem lw_p39 : lw_okq (⟨"HouseFrontsModel", "sum", "(I)V"⟩, 51) := ⟨⟨by decide +kernel, by decide +kernel⟩, List.mem_of_getElem? (i := 787) (by decide +kernel), List.mem_of_getElem? (i := 1124) (by decide +kernel), List.mem_of_getElem? (i := 1125) (by decide +kernel)⟩
theorem lw_p40 : lw_okq (⟨"HouseFrontsModel", "findMade", "()V"⟩, 51) := ⟨⟨by decide +kernel, by decide +kernel⟩, List.mem_of_getElem? (i := 787) (by decide +kernel), List.mem_of_getElem? (i := 1128) (by decide +kernel), List.mem_of_getElem? (i := 1129) (by decide +kernel)⟩
theorem lw_p41 : lw_okq (⟨"HouseFrontsModel", "isEndless", "(I)Z"⟩, 51) := ⟨⟨by decide +kernel, by decide +kernel⟩, List.mem_of_getElem? (i := 787) (by decide +kernel), List.mem_of_getElem? (i := 1132) (by decide +kernel), List.mem_of_getElem? (i := 1133) (by decide +kernel)⟩
theorem lw_p42 : lw_okq (⟨"HouseFrontsModel", "improve", "(IIIII)Z"⟩, 51) := ⟨⟨by decide +kernel, by decide +kernel⟩, List.mem_of_getElem? (i := 787) (by decide +kernel), List.mem_of_getElem? (i := 1136) (by decide +kernel), List.mem_of_getElem? (i := 1137) (by decide +kernel)⟩
theorem lw_p43 : lw_okq (⟨"HouseFrontsModel", "tries", "(IIIII)Z"⟩, 51) := ⟨⟨by decide +kernel, by decide +kernel⟩, List.mem_of_getElem? (i := 787) (by decide +kernel), List.mem_of_getElem? (i := 1140) (by decide +kernel), List.mem_of_getElem? (i := 1141) (by decide +kernel)⟩
theorem lw_p44 : lw_okq (⟨"HouseFrontsModel", "workBoard", "()V"⟩, 51) := ⟨⟨by decide +kernel, by decide +kernel⟩, List.mem_of_getElem? (i := 787) (by decide +kernel), List.mem_of_getElem? (i := 1152) (by decide +kernel), List.mem_of_getElem? (i := 1153) (by decide +kernel)⟩
def lw_privs_3 : List (MethodName × Nat) := [(⟨"HouseFrontsModel", "putPieces", "(IIIIIII)V"⟩, 51), (⟨"HouseFrontsModel", "isPlace", "(I)Z"⟩, 51), (⟨"HouseFrontsModel", "workScopes", "()V"⟩, 51), (⟨"HouseFrontsModel", "work", "(IIII)V"⟩, 51), (⟨"HouseFrontsModel", "place", "(IIII)I"⟩, 51), (⟨"HouseFrontsModel", "count", "(IIIII)V"⟩, 51), (⟨"HouseFrontsModel", "isAll", "(IIIII)Z"⟩, 51), (⟨"HouseFrontsModel", "sum", "(I)V"⟩, 51), (⟨"HouseFrontsModel", "findMade", "()V"⟩, 51), (⟨"HouseFrontsModel", "isEndless", "(I)Z"⟩, 51), (⟨"HouseFrontsModel", "improve", "(IIIII)Z"⟩, 51), (⟨"HouseFrontsModel", "tries", "(IIIII)Z"⟩, 51), (⟨"HouseFrontsModel", "workBoard", "()V"⟩, 51)]
theorem lw_r3 : ∀ q ∈ lw_privs_3, lw_okq q := List.forall_mem_cons.mpr ⟨lw_p32, List.forall_mem_cons.mpr ⟨lw_p33, List.forall_mem_cons.mpr ⟨lw_p34, List.forall_mem_cons.mpr ⟨lw_p35, List.forall_mem_cons.mpr ⟨lw_p36, List.forall_mem_cons.mpr ⟨lw_p37, List.forall_mem_cons.mpr ⟨lw_p38, List.forall_mem_cons.mpr ⟨lw_p39, List.forall_mem_cons.mpr ⟨lw_p40, List.forall_mem_cons.mpr ⟨lw_p41, List.forall_mem_cons.mpr ⟨lw_p42, List.forall_mem_cons.mpr ⟨lw_p43, List.forall_mem_cons.mpr ⟨lw_p44, fun _ h => absurd h List.not_mem_nil⟩⟩⟩⟩⟩⟩⟩⟩⟩⟩⟩⟩⟩
def lw_privs : List (MethodName × Nat) := lw_privs_1 ++ (lw_privs_2 ++ (lw_privs_3))
def lw_tbl : List Cond := k2_sels lw_privs ++ tables_1
theorem lw_privs_ok : ∀ q ∈ lw_privs, lw_okq q := by
  show ∀ q ∈ lw_privs_1 ++ (lw_privs_2 ++ (lw_privs_3)), lw_okq q
  exact List.forall_mem_append.mpr ⟨lw_r1, List.forall_mem_append.mpr ⟨lw_r2, lw_r3⟩⟩
-- ===== end of PART A; then your names; then what follows =====
/-! ===== BEGIN words of one list among another's, by their places ===== -/
theorem goodIn_r {big : List Cond} (ws : List Cond) (ps : List Nat) (hp : ws = ps.filterMap (fun i => big[i]?)) (h : ws.all goodWord = true) : GoodIn big ws := by
  intro w hw
  have h1 := List.all_eq_true.mp h w hw
  rw [hp] at hw
  obtain ⟨i, -, hi⟩ := List.mem_filterMap.mp hw
  have hm : w ∈ big := by first | exact List.mem_of_getElem? hi | exact List.getElem?_mem hi
  exact ⟨hm, good_of_word h1⟩
theorem goodIn_app {big a b : List Cond} (ha : GoodIn big a) (hb : GoodIn big b) : GoodIn big (a ++ b) := fun w h => (List.mem_append.mp h).elim (ha w) (hb w)
theorem goodIn_ca {big a b : List Cond} {c : Cond} (ha : GoodIn big (c :: a)) (hb : GoodIn big b) : GoodIn big (c :: (a ++ b)) := fun w h => (List.mem_cons.mp h).elim (fun e => ha w (List.mem_cons.mpr (Or.inl e))) (fun h => (List.mem_append.mp h).elim (fun h => ha w (List.mem_cons.mpr (Or.inr h))) (hb w))
theorem goodIn_sub {big ws : List Cond} (hm : ∀ w ∈ ws, w ∈ big) (h : ws.all goodWord = true) : GoodIn big ws := fun w hw => ⟨hm w hw, good_of_word (List.all_eq_true.mp h w hw)⟩
/-! ===== END ===== -/

def RX0 : String := "HouseFronts$Board"
def TX0 : u_T := fun k => match k with
  | 0 => ("HouseFronts$Board", "letters", "[B", true)
  | 1 => ("HouseFronts$Board", "wide", "I", false)
  | _ => ("HouseFronts$Board", "high", "I", false)
def tyX0 : Nat → FieldType := fun k => match k with
  | 0 => .array .byte
  | 1 => .int
  | _ => .int
abbrev wsX00 : List Cond := u_ws RX0 TX0 3
theorem nmX0 : ∀ a, a < 3 → ∀ b, b < 3 → a ≠ b → (TX0 a).2.1 ≠ (TX0 b).2.1 := by decide +kernel
theorem tyX0_ok : ∀ k, k < 3 → parseFieldDescriptor (TX0 k).2.2.1 = some (tyX0 k) := by decide +kernel
abbrev cX0_init : ByteArray := prog_2_method_1_code
def yX0_init : MethodName := ⟨RX0, "<init>", "()V"⟩
abbrev cX0_begin : ByteArray := prog_2_method_2_code
def yX0_begin : MethodName := ⟨RX0, "begin", "(II)V"⟩
abbrev cX0_has : ByteArray := prog_2_method_3_code
def yX0_has : MethodName := ⟨RX0, "has", "(I)Z"⟩
abbrev cX0_set : ByteArray := prog_2_method_4_code
def yX0_set : MethodName := ⟨RX0, "set", "(III)V"⟩
abbrev cX0_soleLetter : ByteArray := prog_2_method_5_code
def yX0_soleLetter : MethodName := ⟨RX0, "soleLetter", "(IIII)I"⟩
def RX1 : String := "HouseFronts$Chart"
def TX1 : u_T := fun k => match k with
  | 0 => ("HouseFronts$Chart", "grammar", "LHouseFronts$Grammar;", true)
  | 1 => ("HouseFronts$Chart", "layout", "LHouseFronts$Layout;", true)
  | 2 => ("HouseFronts$Chart", "board", "LHouseFronts$Board;", true)
  | 3 => ("HouseFronts$Chart", "lettered", "Z", true)
  | 4 => ("HouseFronts$Chart", "spans", "I", true)
  | 5 => ("HouseFronts$Chart", "start", "[I", true)
  | 6 => ("HouseFronts$Chart", "length", "[I", true)
  | 7 => ("HouseFronts$Chart", "asked", "[I", true)
  | 8 => ("HouseFronts$Chart", "settled", "[I", true)
  | 9 => ("HouseFronts$Chart", "ways", "[J", true)
  | 10 => ("HouseFronts$Chart", "weights", "[J", true)
  | 11 => ("HouseFronts$Chart", "picks", "[B", true)
  | 12 => ("HouseFronts$Chart", "knot", "LHouseFronts$Knot;", true)
  | _ => ("HouseFronts$Chart", "stale", "Z", false)
def tyX1 : Nat → FieldType := fun k => match k with
  | 0 => .object "HouseFronts$Grammar"
  | 1 => .object "HouseFronts$Layout"
  | 2 => .object "HouseFronts$Board"
  | 3 => .boolean
  | 4 => .int
  | 5 => .array .int
  | 6 => .array .int
  | 7 => .array .int
  | 8 => .array .int
  | 9 => .array .long
  | 10 => .array .long
  | 11 => .array .byte
  | 12 => .object "HouseFronts$Knot"
  | _ => .boolean
abbrev wsX10 : List Cond := u_ws RX1 TX1 14
theorem nmX1 : ∀ a, a < 14 → ∀ b, b < 14 → a ≠ b → (TX1 a).2.1 ≠ (TX1 b).2.1 := by decide +kernel
theorem tyX1_ok : ∀ k, k < 14 → parseFieldDescriptor (TX1 k).2.2.1 = some (tyX1 k) := by decide +kernel
abbrev cX1_init : ByteArray := prog_3_method_1_code
def yX1_init : MethodName := ⟨RX1, "<init>", "(LHouseFronts$Grammar;LHouseFronts$Layout;LHouseFronts$Board;Z)V"⟩
abbrev cX1_settle : ByteArray := prog_3_method_2_code
def yX1_settle : MethodName := ⟨RX1, "settle", "(IIIII)I"⟩
abbrev cX1_waysOf : ByteArray := prog_3_method_3_code
def yX1_waysOf : MethodName := ⟨RX1, "waysOf", "(I)J"⟩
abbrev cX1_costOf : ByteArray := prog_3_method_4_code
def yX1_costOf : MethodName := ⟨RX1, "costOf", "(I)I"⟩
abbrev cX1_stepsOf : ByteArray := prog_3_method_5_code
def yX1_stepsOf : MethodName := ⟨RX1, "stepsOf", "(I)I"⟩
abbrev cX1_pickOf : ByteArray := prog_3_method_6_code
def yX1_pickOf : MethodName := ⟨RX1, "pickOf", "(I)I"⟩
abbrev cX1_weightOf : ByteArray := prog_3_method_7_code
def yX1_weightOf : MethodName := ⟨RX1, "weightOf", "(I)J"⟩
abbrev cX1_spanOf : ByteArray := prog_3_method_8_code
def yX1_spanOf : MethodName := ⟨RX1, "spanOf", "(II)I"⟩
abbrev cX1_cellOfPart : ByteArray := prog_3_method_9_code
def yX1_cellOfPart : MethodName := ⟨RX1, "cellOfPart", "(IZI)I"⟩
abbrev cX1_askBelow : ByteArray := prog_3_method_10_code
def yX1_askBelow : MethodName := ⟨RX1, "askBelow", "(I)V"⟩
abbrev cX1_askParts : ByteArray := prog_3_method_11_code
def yX1_askParts : MethodName := ⟨RX1, "askParts", "(IZ)V"⟩
abbrev cX1_settleCell : ByteArray := prog_3_method_12_code
def yX1_settleCell : MethodName := ⟨RX1, "settleCell", "(I)V"⟩
abbrev cX1_gainOfParts : ByteArray := prog_3_method_13_code
def yX1_gainOfParts : MethodName := ⟨RX1, "gainOfParts", "(IILHouseFronts$Rule;)V"⟩
abbrev cX1_keep : ByteArray := prog_3_method_14_code
def yX1_keep : MethodName := ⟨RX1, "keep", "(II)V"⟩
abbrev cX1_times : ByteArray := prog_3_method_15_code
def yX1_times : MethodName := ⟨RX1, "times", "(JJ)J"⟩
def RX2 : String := "HouseFronts$Front"
def TX2 : u_T := fun k => match k with
  | 0 => ("HouseFronts$Front", "letters", "[B", true)
  | 1 => ("HouseFronts$Front", "rules", "[B", true)
  | 2 => ("HouseFronts$Front", "wide", "I", false)
  | 3 => ("HouseFronts$Front", "high", "I", false)
  | 4 => ("HouseFronts$Front", "number", "I", false)
  | _ => ("HouseFronts$Front", "cost", "I", false)
def tyX2 : Nat → FieldType := fun k => match k with
  | 0 => .array .byte
  | 1 => .array .byte
  | 2 => .int
  | 3 => .int
  | 4 => .int
  | _ => .int
abbrev wsX20 : List Cond := u_ws RX2 TX2 6
theorem nmX2 : ∀ a, a < 6 → ∀ b, b < 6 → a ≠ b → (TX2 a).2.1 ≠ (TX2 b).2.1 := by decide +kernel
theorem tyX2_ok : ∀ k, k < 6 → parseFieldDescriptor (TX2 k).2.2.1 = some (tyX2 k) := by decide +kernel
abbrev cX2_init : ByteArray := prog_4_method_1_code
def yX2_init : MethodName := ⟨RX2, "<init>", "()V"⟩
abbrev cX2_empty : ByteArray := prog_4_method_2_code
def yX2_empty : MethodName := ⟨RX2, "empty", "()V"⟩
abbrev cX2_begin : ByteArray := prog_4_method_3_code
def yX2_begin : MethodName := ⟨RX2, "begin", "(II)V"⟩
abbrev cX2_add : ByteArray := prog_4_method_4_code
def yX2_add : MethodName := ⟨RX2, "add", "(II)V"⟩
abbrev cX2_letterOf : ByteArray := prog_4_method_5_code
def yX2_letterOf : MethodName := ⟨RX2, "letterOf", "(II)I"⟩
abbrev cX2_paint : ByteArray := prog_4_method_6_code
def yX2_paint : MethodName := ⟨RX2, "paint", "(IIIII)V"⟩
def RX3 : String := "HouseFronts$Grammar"
def TX3 : u_T := fun k => match k with
  | 0 => ("HouseFronts$Grammar", "rules", "[LHouseFronts$Rule;", true)
  | 1 => ("HouseFronts$Grammar", "collected", "LHouseFronts$Parts;", true)
  | _ => ("HouseFronts$Grammar", "number", "I", false)
def tyX3 : Nat → FieldType := fun k => match k with
  | 0 => .array (.object "HouseFronts$Rule")
  | 1 => .object "HouseFronts$Parts"
  | _ => .int
abbrev wsX30 : List Cond := u_ws RX3 TX3 3
theorem nmX3 : ∀ a, a < 3 → ∀ b, b < 3 → a ≠ b → (TX3 a).2.1 ≠ (TX3 b).2.1 := by decide +kernel
theorem tyX3_ok : ∀ k, k < 3 → parseFieldDescriptor (TX3 k).2.2.1 = some (tyX3 k) := by decide +kernel
abbrev cX3_init : ByteArray := prog_5_method_1_code
def yX3_init : MethodName := ⟨RX3, "<init>", "()V"⟩
abbrev cX3_isFull : ByteArray := prog_5_method_2_code
def yX3_isFull : MethodName := ⟨RX3, "isFull", "()Z"⟩
abbrev cX3_has : ByteArray := prog_5_method_3_code
def yX3_has : MethodName := ⟨RX3, "has", "(I)Z"⟩
abbrev cX3_empty : ByteArray := prog_5_method_4_code
def yX3_empty : MethodName := ⟨RX3, "empty", "()V"⟩
abbrev cX3_addFill : ByteArray := prog_5_method_5_code
def yX3_addFill : MethodName := ⟨RX3, "addFill", "(III)I"⟩
abbrev cX3_addSplit : ByteArray := prog_5_method_6_code
def yX3_addSplit : MethodName := ⟨RX3, "addSplit", "(IZI)I"⟩
abbrev cX3_addRepeat : ByteArray := prog_5_method_7_code
def yX3_addRepeat : MethodName := ⟨RX3, "addRepeat", "(IIIZI)I"⟩
def RX4 : String := "HouseFronts$Knot"
def TX4 : u_T := fun k => match k with
  | 0 => ("HouseFronts$Knot", "own", "[J", true)
  | 1 => ("HouseFronts$Knot", "total", "[J", true)
  | 2 => ("HouseFronts$Knot", "former", "[J", true)
  | 3 => ("HouseFronts$Knot", "weight", "[J", true)
  | 4 => ("HouseFronts$Knot", "pick", "[I", true)
  | 5 => ("HouseFronts$Knot", "tieName", "[I", true)
  | 6 => ("HouseFronts$Knot", "tieRule", "[I", true)
  | 7 => ("HouseFronts$Knot", "tieTo", "[I", true)
  | 8 => ("HouseFronts$Knot", "tieWeight", "[J", true)
  | 9 => ("HouseFronts$Knot", "ties", "I", false)
  | _ => ("HouseFronts$Knot", "endless", "I", false)
def tyX4 : Nat → FieldType := fun k => match k with
  | 0 => .array .long
  | 1 => .array .long
  | 2 => .array .long
  | 3 => .array .long
  | 4 => .array .int
  | 5 => .array .int
  | 6 => .array .int
  | 7 => .array .int
  | 8 => .array .long
  | 9 => .int
  | _ => .int
abbrev wsX40 : List Cond := u_ws RX4 TX4 11
theorem nmX4 : ∀ a, a < 11 → ∀ b, b < 11 → a ≠ b → (TX4 a).2.1 ≠ (TX4 b).2.1 := by decide +kernel
theorem tyX4_ok : ∀ k, k < 11 → parseFieldDescriptor (TX4 k).2.2.1 = some (tyX4 k) := by decide +kernel
abbrev cX4_init : ByteArray := prog_6_method_1_code
def yX4_init : MethodName := ⟨RX4, "<init>", "()V"⟩
abbrev cX4_begin : ByteArray := prog_6_method_2_code
def yX4_begin : MethodName := ⟨RX4, "begin", "()V"⟩
abbrev cX4_gain : ByteArray := prog_6_method_3_code
def yX4_gain : MethodName := ⟨RX4, "gain", "(IIJJ)V"⟩
abbrev cX4_tie : ByteArray := prog_6_method_4_code
def yX4_tie : MethodName := ⟨RX4, "tie", "(IIIJ)V"⟩
abbrev cX4_waysOf : ByteArray := prog_6_method_5_code
def yX4_waysOf : MethodName := ⟨RX4, "waysOf", "(I)J"⟩
abbrev cX4_settle : ByteArray := prog_6_method_6_code
def yX4_settle : MethodName := ⟨RX4, "settle", "()V"⟩
abbrev cX4_findEndless : ByteArray := prog_6_method_7_code
def yX4_findEndless : MethodName := ⟨RX4, "findEndless", "()V"⟩
abbrev cX4_tiedTo : ByteArray := prog_6_method_8_code
def yX4_tiedTo : MethodName := ⟨RX4, "tiedTo", "(I)I"⟩
abbrev cX4_sumTies : ByteArray := prog_6_method_9_code
def yX4_sumTies : MethodName := ⟨RX4, "sumTies", "()V"⟩
abbrev cX4_lightenByTies : ByteArray := prog_6_method_10_code
def yX4_lightenByTies : MethodName := ⟨RX4, "lightenByTies", "()V"⟩
abbrev cX4_pickAmongTies : ByteArray := prog_6_method_11_code
def yX4_pickAmongTies : MethodName := ⟨RX4, "pickAmongTies", "()V"⟩
abbrev cX4_plus : ByteArray := prog_6_method_12_code
def yX4_plus : MethodName := ⟨RX4, "plus", "(JJ)J"⟩
def RX5 : String := "HouseFronts$Layout"
def TX5 : u_T := fun k => match k with
  | 0 => ("HouseFronts$Layout", "name", "[I", true)
  | 1 => ("HouseFronts$Layout", "begin", "[I", true)
  | 2 => ("HouseFronts$Layout", "length", "[I", true)
  | _ => ("HouseFronts$Layout", "number", "I", false)
def tyX5 : Nat → FieldType := fun k => match k with
  | 0 => .array .int
  | 1 => .array .int
  | 2 => .array .int
  | _ => .int
abbrev wsX50 : List Cond := u_ws RX5 TX5 4
theorem nmX5 : ∀ a, a < 4 → ∀ b, b < 4 → a ≠ b → (TX5 a).2.1 ≠ (TX5 b).2.1 := by decide +kernel
theorem tyX5_ok : ∀ k, k < 4 → parseFieldDescriptor (TX5 k).2.2.1 = some (tyX5 k) := by decide +kernel
abbrev cX5_init : ByteArray := prog_7_method_1_code
def yX5_init : MethodName := ⟨RX5, "<init>", "()V"⟩
abbrev cX5_lay : ByteArray := prog_7_method_2_code
def yX5_lay : MethodName := ⟨RX5, "lay", "(LHouseFronts$Rule;II)Z"⟩
abbrev cX5_laySplit : ByteArray := prog_7_method_3_code
def yX5_laySplit : MethodName := ⟨RX5, "laySplit", "(LHouseFronts$Parts;I)Z"⟩
abbrev cX5_layRepeat : ByteArray := prog_7_method_4_code
def yX5_layRepeat : MethodName := ⟨RX5, "layRepeat", "(LHouseFronts$Parts;I)Z"⟩
abbrev cX5_laidOneAfterAnother : ByteArray := prog_7_method_5_code
def yX5_laidOneAfterAnother : MethodName := ⟨RX5, "laidOneAfterAnother", "()Z"⟩
def RX6 : String := "HouseFronts$Parts"
def TX6 : u_T := fun k => match k with
  | 0 => ("HouseFronts$Parts", "name", "[I", true)
  | 1 => ("HouseFronts$Parts", "size", "[I", true)
  | 2 => ("HouseFronts$Parts", "share", "[I", true)
  | 3 => ("HouseFronts$Parts", "number", "I", false)
  | 4 => ("HouseFronts$Parts", "sizes", "I", false)
  | _ => ("HouseFronts$Parts", "shares", "I", false)
def tyX6 : Nat → FieldType := fun k => match k with
  | 0 => .array .int
  | 1 => .array .int
  | 2 => .array .int
  | 3 => .int
  | 4 => .int
  | _ => .int
abbrev wsX60 : List Cond := u_ws RX6 TX6 6
theorem nmX6 : ∀ a, a < 6 → ∀ b, b < 6 → a ≠ b → (TX6 a).2.1 ≠ (TX6 b).2.1 := by decide +kernel
theorem tyX6_ok : ∀ k, k < 6 → parseFieldDescriptor (TX6 k).2.2.1 = some (tyX6 k) := by decide +kernel
abbrev cX6_init : ByteArray := prog_8_method_1_code
def yX6_init : MethodName := ⟨RX6, "<init>", "()V"⟩
abbrev cX6_empty : ByteArray := prog_8_method_2_code
def yX6_empty : MethodName := ⟨RX6, "empty", "()V"⟩
abbrev cX6_add : ByteArray := prog_8_method_3_code
def yX6_add : MethodName := ⟨RX6, "add", "(III)V"⟩
abbrev cX6_copy : ByteArray := prog_8_method_4_code
def yX6_copy : MethodName := ⟨RX6, "copy", "(LHouseFronts$Parts;)V"⟩
def RX7 : String := "HouseFronts$Rule"
def TX7 : u_T := fun k => match k with
  | 0 => ("HouseFronts$Rule", "parts", "LHouseFronts$Parts;", true)
  | 1 => ("HouseFronts$Rule", "name", "I", false)
  | 2 => ("HouseFronts$Rule", "kind", "I", false)
  | 3 => ("HouseFronts$Rule", "cost", "I", false)
  | 4 => ("HouseFronts$Rule", "letter", "I", false)
  | 5 => ("HouseFronts$Rule", "fromWide", "I", false)
  | 6 => ("HouseFronts$Rule", "toWide", "I", false)
  | 7 => ("HouseFronts$Rule", "fromHigh", "I", false)
  | _ => ("HouseFronts$Rule", "toHigh", "I", false)
def tyX7 : Nat → FieldType := fun k => match k with
  | 0 => .object "HouseFronts$Parts"
  | 1 => .int
  | 2 => .int
  | 3 => .int
  | 4 => .int
  | 5 => .int
  | 6 => .int
  | 7 => .int
  | _ => .int
abbrev wsX70 : List Cond := u_ws RX7 TX7 9
theorem nmX7 : ∀ a, a < 9 → ∀ b, b < 9 → a ≠ b → (TX7 a).2.1 ≠ (TX7 b).2.1 := by decide +kernel
theorem tyX7_ok : ∀ k, k < 9 → parseFieldDescriptor (TX7 k).2.2.1 = some (tyX7 k) := by decide +kernel
abbrev cX7_init : ByteArray := prog_9_method_1_code
def yX7_init : MethodName := ⟨RX7, "<init>", "()V"⟩
abbrev cX7_begin : ByteArray := prog_9_method_2_code
def yX7_begin : MethodName := ⟨RX7, "begin", "(III)V"⟩
abbrev cX7_limit : ByteArray := prog_9_method_3_code
def yX7_limit : MethodName := ⟨RX7, "limit", "(ZII)V"⟩
abbrev cX7_admits : ByteArray := prog_9_method_4_code
def yX7_admits : MethodName := ⟨RX7, "admits", "(II)Z"⟩
abbrev cX7_isAlongY : ByteArray := prog_9_method_5_code
def yX7_isAlongY : MethodName := ⟨RX7, "isAlongY", "()Z"⟩
abbrev cX7_isRepeat : ByteArray := prog_9_method_6_code
def yX7_isRepeat : MethodName := ⟨RX7, "isRepeat", "()Z"⟩
abbrev cX7_weight : ByteArray := prog_9_method_7_code
def yX7_weight : MethodName := ⟨RX7, "weight", "()J"⟩
def RX8 : String := "HouseFronts$Walk"
def TX8 : u_T := fun k => match k with
  | 0 => ("HouseFronts$Walk", "grammar", "LHouseFronts$Grammar;", true)
  | 1 => ("HouseFronts$Walk", "layout", "LHouseFronts$Layout;", true)
  | 2 => ("HouseFronts$Walk", "pile", "[[I", true)
  | 3 => ("HouseFronts$Walk", "fitting", "[I", true)
  | 4 => ("HouseFronts$Walk", "waiting", "I", false)
  | 5 => ("HouseFronts$Walk", "name", "I", false)
  | 6 => ("HouseFronts$Walk", "x", "I", false)
  | 7 => ("HouseFronts$Walk", "y", "I", false)
  | 8 => ("HouseFronts$Walk", "wide", "I", false)
  | 9 => ("HouseFronts$Walk", "high", "I", false)
  | 10 => ("HouseFronts$Walk", "key", "I", false)
  | _ => ("HouseFronts$Walk", "depth", "I", false)
def tyX8 : Nat → FieldType := fun k => match k with
  | 0 => .object "HouseFronts$Grammar"
  | 1 => .object "HouseFronts$Layout"
  | 2 => .array (.array .int)
  | 3 => .array .int
  | 4 => .int
  | 5 => .int
  | 6 => .int
  | 7 => .int
  | 8 => .int
  | 9 => .int
  | 10 => .int
  | _ => .int
abbrev wsX80 : List Cond := u_ws RX8 TX8 12
theorem nmX8 : ∀ a, a < 12 → ∀ b, b < 12 → a ≠ b → (TX8 a).2.1 ≠ (TX8 b).2.1 := by decide +kernel
theorem tyX8_ok : ∀ k, k < 12 → parseFieldDescriptor (TX8 k).2.2.1 = some (tyX8 k) := by decide +kernel
abbrev cX8_init : ByteArray := prog_10_method_1_code
def yX8_init : MethodName := ⟨RX8, "<init>", "(LHouseFronts$Grammar;LHouseFronts$Layout;)V"⟩
abbrev cX8_begin : ByteArray := prog_10_method_2_code
def yX8_begin : MethodName := ⟨RX8, "begin", "(III)V"⟩
abbrev cX8_push : ByteArray := prog_10_method_3_code
def yX8_push : MethodName := ⟨RX8, "push", "(IIIIIII)V"⟩
abbrev cX8_next : ByteArray := prog_10_method_4_code
def yX8_next : MethodName := ⟨RX8, "next", "()Z"⟩
abbrev cX8_spread : ByteArray := prog_10_method_5_code
def yX8_spread : MethodName := ⟨RX8, "spread", "(LHouseFronts$Rule;)V"⟩
abbrev cX8_grow : ByteArray := prog_10_method_6_code
def yX8_grow : MethodName := ⟨RX8, "grow", "(LHouseFronts$Front;III)I"⟩
abbrev cX8_choose : ByteArray := prog_10_method_7_code
def yX8_choose : MethodName := ⟨RX8, "choose", "()I"⟩
def RX9 : String := "HouseFronts"
def TX9 : u_T := fun k => match k with
  | 0 => ("HouseFronts", "grammar", "LHouseFronts$Grammar;", true)
  | 1 => ("HouseFronts", "layout", "LHouseFronts$Layout;", true)
  | 2 => ("HouseFronts", "board", "LHouseFronts$Board;", true)
  | 3 => ("HouseFronts", "free", "LHouseFronts$Chart;", true)
  | 4 => ("HouseFronts", "bound", "LHouseFronts$Chart;", true)
  | 5 => ("HouseFronts", "walk", "LHouseFronts$Walk;", true)
  | 6 => ("HouseFronts", "front", "LHouseFronts$Front;", false)
  | 7 => ("HouseFronts", "spare", "LHouseFronts$Front;", false)
  | _ => ("HouseFronts", "faultKey", "I", false)
def tyX9 : Nat → FieldType := fun k => match k with
  | 0 => .object "HouseFronts$Grammar"
  | 1 => .object "HouseFronts$Layout"
  | 2 => .object "HouseFronts$Board"
  | 3 => .object "HouseFronts$Chart"
  | 4 => .object "HouseFronts$Chart"
  | 5 => .object "HouseFronts$Walk"
  | 6 => .object "HouseFronts$Front"
  | 7 => .object "HouseFronts$Front"
  | _ => .int
abbrev wsX90 : List Cond := u_ws RX9 TX9 9
theorem nmX9 : ∀ a, a < 9 → ∀ b, b < 9 → a ≠ b → (TX9 a).2.1 ≠ (TX9 b).2.1 := by decide +kernel
theorem tyX9_ok : ∀ k, k < 9 → parseFieldDescriptor (TX9 k).2.2.1 = some (tyX9 k) := by decide +kernel
abbrev cX9_init : ByteArray := prog_1_method_1_code
def yX9_init : MethodName := ⟨RX9, "<init>", "()V"⟩
abbrev cX9_fill : ByteArray := prog_1_method_2_code
def yX9_fill : MethodName := ⟨RX9, "fill", "(III)I"⟩
abbrev cX9_part : ByteArray := prog_1_method_3_code
def yX9_part : MethodName := ⟨RX9, "part", "(IIZ)I"⟩
abbrev cX9_split : ByteArray := prog_1_method_4_code
def yX9_split : MethodName := ⟨RX9, "split", "(IZI)I"⟩
abbrev cX9_repeat : ByteArray := prog_1_method_5_code
def yX9_repeat : MethodName := ⟨RX9, "repeat", "(IIIZI)I"⟩
abbrev cX9_only : ByteArray := prog_1_method_6_code
def yX9_only : MethodName := ⟨RX9, "only", "(IZII)I"⟩
abbrev cX9_clear : ByteArray := prog_1_method_7_code
def yX9_clear : MethodName := ⟨RX9, "clear", "()I"⟩
abbrev cX9_rule : ByteArray := prog_1_method_8_code
def yX9_rule : MethodName := ⟨RX9, "rule", "(II)I"⟩
abbrev cX9_holds : ByteArray := prog_1_method_9_code
def yX9_holds : MethodName := ⟨RX9, "holds", "(III)I"⟩
abbrev cX9_piece : ByteArray := prog_1_method_10_code
def yX9_piece : MethodName := ⟨RX9, "piece", "(IIIIZ)I"⟩
abbrev cX9_draw : ByteArray := prog_1_method_11_code
def yX9_draw : MethodName := ⟨RX9, "draw", "(III)I"⟩
abbrev cX9_at : ByteArray := prog_1_method_12_code
def yX9_at : MethodName := ⟨RX9, "at", "(II)I"⟩
abbrev cX9_step : ByteArray := prog_1_method_13_code
def yX9_step : MethodName := ⟨RX9, "step", "(I)I"⟩
abbrev cX9_drawn : ByteArray := prog_1_method_14_code
def yX9_drawn : MethodName := ⟨RX9, "drawn", "()I"⟩
abbrev cX9_fault : ByteArray := prog_1_method_15_code
def yX9_fault : MethodName := ⟨RX9, "fault", "()I"⟩
abbrev cX9_take : ByteArray := prog_1_method_16_code
def yX9_take : MethodName := ⟨RX9, "take", "()I"⟩
abbrev cX9_ways : ByteArray := prog_1_method_17_code
def yX9_ways : MethodName := ⟨RX9, "ways", "(III)J"⟩
abbrev cX9_least : ByteArray := prog_1_method_18_code
def yX9_least : MethodName := ⟨RX9, "least", "(III)I"⟩
abbrev cX9_board : ByteArray := prog_1_method_19_code
def yX9_board : MethodName := ⟨RX9, "board", "(II)I"⟩
abbrev cX9_put : ByteArray := prog_1_method_20_code
def yX9_put : MethodName := ⟨RX9, "put", "(II)I"⟩
abbrev cX9_parses : ByteArray := prog_1_method_21_code
def yX9_parses : MethodName := ⟨RX9, "parses", "()J"⟩
abbrev cX9_best : ByteArray := prog_1_method_22_code
def yX9_best : MethodName := ⟨RX9, "best", "()I"⟩
abbrev cX9_bestStep : ByteArray := prog_1_method_23_code
def yX9_bestStep : MethodName := ⟨RX9, "bestStep", "(I)I"⟩
abbrev cX9_stands : ByteArray := prog_1_method_24_code
def yX9_stands : MethodName := ⟨RX9, "stands", "(IIII)J"⟩
abbrev cX9_count : ByteArray := prog_1_method_25_code
def yX9_count : MethodName := ⟨RX9, "count", "(I)I"⟩
abbrev cX9_settleBoard : ByteArray := prog_1_method_26_code
def yX9_settleBoard : MethodName := ⟨RX9, "settleBoard", "()I"⟩
abbrev cX9_forgetParses : ByteArray := prog_1_method_27_code
def yX9_forgetParses : MethodName := ⟨RX9, "forgetParses", "()V"⟩
abbrev cX9_isName : ByteArray := prog_1_method_28_code
def yX9_isName : MethodName := ⟨RX9, "isName", "(I)Z"⟩
abbrev cX9_isCost : ByteArray := prog_1_method_29_code
def yX9_isCost : MethodName := ⟨RX9, "isCost", "(I)Z"⟩
abbrev cX9_isScope : ByteArray := prog_1_method_30_code
def yX9_isScope : MethodName := ⟨RX9, "isScope", "(II)Z"⟩
abbrev cX9_isWithin : ByteArray := prog_1_method_31_code
def yX9_isWithin : MethodName := ⟨RX9, "isWithin", "(III)Z"⟩
def RX10 : String := "HouseFrontsModel"
def TX10 : u_T := fun k => match k with
  | 0 => ("HouseFrontsModel", "rules", "I", false)
  | 1 => ("HouseFrontsModel", "name", "[I", true)
  | 2 => ("HouseFrontsModel", "kind", "[I", true)
  | 3 => ("HouseFrontsModel", "cost", "[I", true)
  | 4 => ("HouseFrontsModel", "letter", "[I", true)
  | 5 => ("HouseFrontsModel", "parts", "[I", true)
  | 6 => ("HouseFrontsModel", "partName", "[I", true)
  | 7 => ("HouseFrontsModel", "partSize", "[I", true)
  | 8 => ("HouseFrontsModel", "isShare", "[Z", true)
  | 9 => ("HouseFrontsModel", "ends", "[I", true)
  | 10 => ("HouseFrontsModel", "collected", "I", false)
  | 11 => ("HouseFrontsModel", "newName", "[I", true)
  | 12 => ("HouseFrontsModel", "newSize", "[I", true)
  | 13 => ("HouseFrontsModel", "newShare", "[Z", true)
  | 14 => ("HouseFrontsModel", "pieces", "I", false)
  | 15 => ("HouseFrontsModel", "pieceAt", "[I", true)
  | 16 => ("HouseFrontsModel", "pieceLong", "[I", true)
  | 17 => ("HouseFrontsModel", "pieceName", "[I", true)
  | 18 => ("HouseFrontsModel", "drawnWide", "I", false)
  | 19 => ("HouseFrontsModel", "drawnHigh", "I", false)
  | 20 => ("HouseFrontsModel", "steps", "I", false)
  | 21 => ("HouseFrontsModel", "step", "[I", true)
  | 22 => ("HouseFrontsModel", "drawnCost", "I", false)
  | 23 => ("HouseFrontsModel", "shown", "[I", true)
  | 24 => ("HouseFrontsModel", "draft", "[I", true)
  | 25 => ("HouseFrontsModel", "draftStep", "[I", true)
  | 26 => ("HouseFrontsModel", "faultKey", "I", false)
  | 27 => ("HouseFrontsModel", "high", "I", false)
  | 28 => ("HouseFrontsModel", "pileName", "[I", true)
  | 29 => ("HouseFrontsModel", "pileKey", "[I", true)
  | 30 => ("HouseFrontsModel", "pileDeep", "[I", true)
  | 31 => ("HouseFrontsModel", "pileX", "[I", true)
  | 32 => ("HouseFrontsModel", "pileY", "[I", true)
  | 33 => ("HouseFrontsModel", "pileW", "[I", true)
  | 34 => ("HouseFrontsModel", "pileH", "[I", true)
  | 35 => ("HouseFrontsModel", "wide", "I", false)
  | 36 => ("HouseFrontsModel", "tall", "I", false)
  | 37 => ("HouseFrontsModel", "board", "[I", true)
  | 38 => ("HouseFrontsModel", "ways", "[J", true)
  | 39 => ("HouseFrontsModel", "least", "[I", true)
  | 40 => ("HouseFrontsModel", "few", "[I", true)
  | 41 => ("HouseFrontsModel", "bestRule", "[I", true)
  | 42 => ("HouseFrontsModel", "isBoard", "Z", false)
  | 43 => ("HouseFrontsModel", "base", "[J", true)
  | 44 => ("HouseFrontsModel", "leads", "[I", true)
  | 45 => ("HouseFrontsModel", "isMade", "[Z", true)
  | 46 => ("HouseFrontsModel", "reaches", "[Z", true)
  | 47 => ("HouseFrontsModel", "tryCost", "I", false)
  | 48 => ("HouseFrontsModel", "tryFew", "I", false)
  | 49 => ("HouseFrontsModel", "hasScopes", "Z", false)
  | _ => ("HouseFrontsModel", "hasBoard", "Z", false)
def tyX10 : Nat → FieldType := fun k => match k with
  | 0 => .int
  | 1 => .array .int
  | 2 => .array .int
  | 3 => .array .int
  | 4 => .array .int
  | 5 => .array .int
  | 6 => .array .int
  | 7 => .array .int
  | 8 => .array .boolean
  | 9 => .array .int
  | 10 => .int
  | 11 => .array .int
  | 12 => .array .int
  | 13 => .array .boolean
  | 14 => .int
  | 15 => .array .int
  | 16 => .array .int
  | 17 => .array .int
  | 18 => .int
  | 19 => .int
  | 20 => .int
  | 21 => .array .int
  | 22 => .int
  | 23 => .array .int
  | 24 => .array .int
  | 25 => .array .int
  | 26 => .int
  | 27 => .int
  | 28 => .array .int
  | 29 => .array .int
  | 30 => .array .int
  | 31 => .array .int
  | 32 => .array .int
  | 33 => .array .int
  | 34 => .array .int
  | 35 => .int
  | 36 => .int
  | 37 => .array .int
  | 38 => .array .long
  | 39 => .array .int
  | 40 => .array .int
  | 41 => .array .int
  | 42 => .boolean
  | 43 => .array .long
  | 44 => .array .int
  | 45 => .array .boolean
  | 46 => .array .boolean
  | 47 => .int
  | 48 => .int
  | 49 => .boolean
  | _ => .boolean
abbrev wsX100 : List Cond := u_ws RX10 TX10 51
theorem nmX10 : ∀ a, a < 51 → ∀ b, b < 51 → a ≠ b → (TX10 a).2.1 ≠ (TX10 b).2.1 := by decide +kernel
theorem tyX10_ok : ∀ k, k < 51 → parseFieldDescriptor (TX10 k).2.2.1 = some (tyX10 k) := by decide +kernel
abbrev cX10_init : ByteArray := prog_12_method_1_code
def yX10_init : MethodName := ⟨RX10, "<init>", "()V"⟩
abbrev cX10_in : ByteArray := prog_12_method_3_code
def yX10_in : MethodName := ⟨RX10, "in", "(JJJ)Z"⟩
abbrev cX10_isName : ByteArray := prog_12_method_4_code
def yX10_isName : MethodName := ⟨RX10, "isName", "(I)Z"⟩
abbrev cX10_add : ByteArray := prog_12_method_5_code
def yX10_add : MethodName := ⟨RX10, "add", "(IIII)I"⟩
abbrev cX10_addPart : ByteArray := prog_12_method_6_code
def yX10_addPart : MethodName := ⟨RX10, "addPart", "(IIIZ)V"⟩
abbrev cX10_fill : ByteArray := prog_12_method_7_code
def yX10_fill : MethodName := ⟨RX10, "fill", "(III)I"⟩
abbrev cX10_part : ByteArray := prog_12_method_8_code
def yX10_part : MethodName := ⟨RX10, "part", "(IIZ)I"⟩
abbrev cX10_split : ByteArray := prog_12_method_9_code
def yX10_split : MethodName := ⟨RX10, "split", "(IZI)I"⟩
abbrev cX10_repeat : ByteArray := prog_12_method_10_code
def yX10_repeat : MethodName := ⟨RX10, "repeat", "(IIIZI)I"⟩
abbrev cX10_isRule : ByteArray := prog_12_method_11_code
def yX10_isRule : MethodName := ⟨RX10, "isRule", "(I)Z"⟩
abbrev cX10_isLength : ByteArray := prog_12_method_12_code
def yX10_isLength : MethodName := ⟨RX10, "isLength", "(I)Z"⟩
abbrev cX10_only : ByteArray := prog_12_method_13_code
def yX10_only : MethodName := ⟨RX10, "only", "(IZII)I"⟩
abbrev cX10_clear : ByteArray := prog_12_method_14_code
def yX10_clear : MethodName := ⟨RX10, "clear", "()I"⟩
abbrev cX10_rule : ByteArray := prog_12_method_15_code
def yX10_rule : MethodName := ⟨RX10, "rule", "(II)I"⟩
abbrev cX10_isAlongY : ByteArray := prog_12_method_16_code
def yX10_isAlongY : MethodName := ⟨RX10, "isAlongY", "(I)Z"⟩
abbrev cX10_layRepeat : ByteArray := prog_12_method_17_code
def yX10_layRepeat : MethodName := ⟨RX10, "layRepeat", "(II)Z"⟩
abbrev cX10_laySplit : ByteArray := prog_12_method_18_code
def yX10_laySplit : MethodName := ⟨RX10, "laySplit", "(II)Z"⟩
abbrev cX10_lay : ByteArray := prog_12_method_19_code
def yX10_lay : MethodName := ⟨RX10, "lay", "(III)Z"⟩
abbrev cX10_holds : ByteArray := prog_12_method_20_code
def yX10_holds : MethodName := ⟨RX10, "holds", "(III)I"⟩
abbrev cX10_piece : ByteArray := prog_12_method_21_code
def yX10_piece : MethodName := ⟨RX10, "piece", "(IIIIZ)I"⟩
abbrev cX10_put : ByteArray := prog_12_method_22_code
def yX10_put : MethodName := ⟨RX10, "put", "(IIIII)V"⟩
abbrev cX10_picked : ByteArray := prog_12_method_23_code
def yX10_picked : MethodName := ⟨RX10, "picked", "(IIII)I"⟩
abbrev cX10_putPieces : ByteArray := prog_12_method_24_code
def yX10_putPieces : MethodName := ⟨RX10, "putPieces", "(IIIIIII)V"⟩
abbrev cX10_draw : ByteArray := prog_12_method_25_code
def yX10_draw : MethodName := ⟨RX10, "draw", "(III)I"⟩
abbrev cX10_fillDraft : ByteArray := prog_12_method_26_code
def yX10_fillDraft : MethodName := ⟨RX10, "fillDraft", "(IIIII)V"⟩
abbrev cX10_at : ByteArray := prog_12_method_27_code
def yX10_at : MethodName := ⟨RX10, "at", "(II)I"⟩
abbrev cX10_step : ByteArray := prog_12_method_28_code
def yX10_step : MethodName := ⟨RX10, "step", "(I)I"⟩
abbrev cX10_drawn : ByteArray := prog_12_method_29_code
def yX10_drawn : MethodName := ⟨RX10, "drawn", "()I"⟩
abbrev cX10_fault : ByteArray := prog_12_method_30_code
def yX10_fault : MethodName := ⟨RX10, "fault", "()I"⟩
abbrev cX10_take : ByteArray := prog_12_method_31_code
def yX10_take : MethodName := ⟨RX10, "take", "()I"⟩
abbrev cX10_boards : ByteArray := prog_12_method_32_code
def yX10_boards : MethodName := ⟨RX10, "boards", "(II)V"⟩
abbrev cX10_board : ByteArray := prog_12_method_33_code
def yX10_board : MethodName := ⟨RX10, "board", "(II)I"⟩
abbrev cX10_isPlace : ByteArray := prog_12_method_34_code
def yX10_isPlace : MethodName := ⟨RX10, "isPlace", "(I)Z"⟩
abbrev cX10_put_ : ByteArray := prog_12_method_35_code
def yX10_put_ : MethodName := ⟨RX10, "put", "(II)I"⟩
abbrev cX10_place : ByteArray := prog_12_method_36_code
def yX10_place : MethodName := ⟨RX10, "place", "(IIII)I"⟩
abbrev cX10_isAll : ByteArray := prog_12_method_37_code
def yX10_isAll : MethodName := ⟨RX10, "isAll", "(IIIII)Z"⟩
abbrev cX10_plus : ByteArray := prog_12_method_38_code
def yX10_plus : MethodName := ⟨RX10, "plus", "(JJ)J"⟩
abbrev cX10_mult : ByteArray := prog_12_method_39_code
def yX10_mult : MethodName := ⟨RX10, "mult", "(JJ)J"⟩
abbrev cX10_count : ByteArray := prog_12_method_40_code
def yX10_count : MethodName := ⟨RX10, "count", "(IIIII)V"⟩
abbrev cX10_findMade : ByteArray := prog_12_method_41_code
def yX10_findMade : MethodName := ⟨RX10, "findMade", "()V"⟩
abbrev cX10_isEndless : ByteArray := prog_12_method_42_code
def yX10_isEndless : MethodName := ⟨RX10, "isEndless", "(I)Z"⟩
abbrev cX10_sum : ByteArray := prog_12_method_43_code
def yX10_sum : MethodName := ⟨RX10, "sum", "(I)V"⟩
abbrev cX10_tries : ByteArray := prog_12_method_44_code
def yX10_tries : MethodName := ⟨RX10, "tries", "(IIIII)Z"⟩
abbrev cX10_improve : ByteArray := prog_12_method_45_code
def yX10_improve : MethodName := ⟨RX10, "improve", "(IIIII)Z"⟩
abbrev cX10_work : ByteArray := prog_12_method_46_code
def yX10_work : MethodName := ⟨RX10, "work", "(IIII)V"⟩
abbrev cX10_workScopes : ByteArray := prog_12_method_47_code
def yX10_workScopes : MethodName := ⟨RX10, "workScopes", "()V"⟩
abbrev cX10_forget : ByteArray := prog_12_method_48_code
def yX10_forget : MethodName := ⟨RX10, "forget", "()V"⟩
abbrev cX10_workBoard : ByteArray := prog_12_method_49_code
def yX10_workBoard : MethodName := ⟨RX10, "workBoard", "()V"⟩
abbrev cX10_ways : ByteArray := prog_12_method_50_code
def yX10_ways : MethodName := ⟨RX10, "ways", "(III)J"⟩
abbrev cX10_least : ByteArray := prog_12_method_51_code
def yX10_least : MethodName := ⟨RX10, "least", "(III)I"⟩
abbrev cX10_parses : ByteArray := prog_12_method_52_code
def yX10_parses : MethodName := ⟨RX10, "parses", "()J"⟩
abbrev cX10_best : ByteArray := prog_12_method_53_code
def yX10_best : MethodName := ⟨RX10, "best", "()I"⟩
abbrev cX10_bestStep : ByteArray := prog_12_method_54_code
def yX10_bestStep : MethodName := ⟨RX10, "bestStep", "(I)I"⟩
abbrev cX10_stands : ByteArray := prog_12_method_55_code
def yX10_stands : MethodName := ⟨RX10, "stands", "(IIII)J"⟩
abbrev cX10_count_ : ByteArray := prog_12_method_56_code
def yX10_count_ : MethodName := ⟨RX10, "count", "(I)I"⟩
def RJ9 : String := "java/lang/Math"
def TJ9 : u_T := fun k => match k with
  | _ => ("", "", "", false)
def tyJ9 : Nat → FieldType := fun k => match k with
  | _ => .int
abbrev wsJ90 : List Cond := u_ws RJ9 TJ9 0
theorem nmJ9 : ∀ a, a < 0 → ∀ b, b < 0 → a ≠ b → (TJ9 a).2.1 ≠ (TJ9 b).2.1 := by decide +kernel
theorem tyJ9_ok : ∀ k, k < 0 → parseFieldDescriptor (TJ9 k).2.2.1 = some (tyJ9 k) := by decide +kernel
abbrev cJ9_min_f86c9 : ByteArray := prog_13_method_70_code
def yJ9_min_f86c9 : MethodName := ⟨RJ9, "min", "(JJ)J"⟩
def RJ10 : String := "java/lang/System"
def TJ10 : u_T := fun k => match k with
  | _ => ("", "", "", false)
def tyJ10 : Nat → FieldType := fun k => match k with
  | _ => .int
abbrev wsJ100 : List Cond := u_ws RJ10 TJ10 0
theorem nmJ10 : ∀ a, a < 0 → ∀ b, b < 0 → a ≠ b → (TJ10 a).2.1 ≠ (TJ10 b).2.1 := by decide +kernel
theorem tyJ10_ok : ∀ k, k < 0 → parseFieldDescriptor (TJ10 k).2.2.1 = some (tyJ10 k) := by decide +kernel
def RJ7 : String := "java/util/Arrays"
def TJ7 : u_T := fun k => match k with
  | _ => ("", "", "", false)
def tyJ7 : Nat → FieldType := fun k => match k with
  | _ => .int
abbrev wsJ70 : List Cond := u_ws RJ7 TJ7 0
theorem nmJ7 : ∀ a, a < 0 → ∀ b, b < 0 → a ≠ b → (TJ7 a).2.1 ≠ (TJ7 b).2.1 := by decide +kernel
theorem tyJ7_ok : ∀ k, k < 0 → parseFieldDescriptor (TJ7 k).2.2.1 = some (tyJ7 k) := by decide +kernel
abbrev cJ7_rangeCheck_23922 : ByteArray := prog_15_method_30_code
def yJ7_rangeCheck_23922 : MethodName := ⟨RJ7, "rangeCheck", "(III)V"⟩
abbrev cJ7_fill_d0a16 : ByteArray := prog_15_method_101_code
def yJ7_fill_d0a16 : MethodName := ⟨RJ7, "fill", "([JJ)V"⟩
abbrev cJ7_fill_53178 : ByteArray := prog_15_method_103_code
def yJ7_fill_53178 : MethodName := ⟨RJ7, "fill", "([II)V"⟩
abbrev cJ7_fill_031fb : ByteArray := prog_15_method_109_code
def yJ7_fill_031fb : MethodName := ⟨RJ7, "fill", "([BB)V"⟩
abbrev cJ7_fill_eb02e : ByteArray := prog_15_method_110_code
def yJ7_fill_eb02e : MethodName := ⟨RJ7, "fill", "([BIIB)V"⟩
def RL : String := "HouseFrontsLaw"
abbrev cL_law : ByteArray := code
def yL_law : MethodName := ⟨RL, "law", "([I)Z"⟩
abbrev vwCl : List vw_C := [(RX0, TX0, 3), (RX1, TX1, 14), (RX2, TX2, 6), (RX3, TX3, 3), (RX4, TX4, 11), (RX5, TX5, 4), (RX6, TX6, 6), (RX7, TX7, 9), (RX8, TX8, 12), (RX9, TX9, 9), (RX10, TX10, 51)]
