section
-- ===== PART A: goes FIRST, ahead of the names: the tables' words, and 'selects' of the private methods out of them =====
/-- a private method of a class that the tables say can be made, by its rows of tables_1 -/
def lw_okq (q : MethodName × Nat) : Prop := (q.1.cls ≠ "java/lang/invoke/MethodHandle" ∧ q.1.cls ≠ "java/lang/invoke/VarHandle") ∧ Cond.instantiable q.1.cls q.2 ∈ tables_1 ∧ Cond.privateMethod q.1 ∈ tables_1 ∧ Cond.instanceMethod q.1 ∈ tables_1
theorem lw_p0 : lw_okq (⟨"HouseFronts", "forgetParses", "()V"⟩, 9) := ⟨⟨by decide +kernel, by decide +kernel⟩, List.mem_of_getElem? (i := 16) (by decide +kernel), List.mem_of_getElem? (i := 402) (by decide +kernel), List.mem_of_getElem? (i := 403) (by decide +kernel)⟩
theorem lw_p1 : lw_okq (⟨"HouseFronts$Layout", "layRepeat", "(LHouseFronts$Parts;I)Z"⟩, 4) := ⟨⟨by decide +kernel, by decide +kernel⟩, List.mem_of_getElem? (i := 133) (by decide +kernel), List.mem_of_getElem? (i := 508) (by decide +kernel), List.mem_of_getElem? (i := 509) (by decide +kernel)⟩
theorem lw_p2 : lw_okq (⟨"HouseFronts$Layout", "laidOneAfterAnother", "()Z"⟩, 4) := ⟨⟨by decide +kernel, by decide +kernel⟩, List.mem_of_getElem? (i := 133) (by decide +kernel), List.mem_of_getElem? (i := 512) (by decide +kernel), List.mem_of_getElem? (i := 513) (by decide +kernel)⟩
theorem lw_p3 : lw_okq (⟨"HouseFronts$Layout", "laySplit", "(LHouseFronts$Parts;I)Z"⟩, 4) := ⟨⟨by decide +kernel, by decide +kernel⟩, List.mem_of_getElem? (i := 133) (by decide +kernel), List.mem_of_getElem? (i := 516) (by decide +kernel), List.mem_of_getElem? (i := 517) (by decide +kernel)⟩
theorem lw_p4 : lw_okq (⟨"HouseFronts$Walk", "push", "(IIIIIII)V"⟩, 12) := ⟨⟨by decide +kernel, by decide +kernel⟩, List.mem_of_getElem? (i := 276) (by decide +kernel), List.mem_of_getElem? (i := 537) (by decide +kernel), List.mem_of_getElem? (i := 538) (by decide +kernel)⟩
theorem lw_p5 : lw_okq (⟨"HouseFronts$Walk", "choose", "()I"⟩, 12) := ⟨⟨by decide +kernel, by decide +kernel⟩, List.mem_of_getElem? (i := 276) (by decide +kernel), List.mem_of_getElem? (i := 545) (by decide +kernel), List.mem_of_getElem? (i := 546) (by decide +kernel)⟩
theorem lw_p6 : lw_okq (⟨"HouseFronts$Chart", "spanOf", "(II)I"⟩, 14) := ⟨⟨by decide +kernel, by decide +kernel⟩, List.mem_of_getElem? (i := 183) (by decide +kernel), List.mem_of_getElem? (i := 623) (by decide +kernel), List.mem_of_getElem? (i := 624) (by decide +kernel)⟩
theorem lw_p7 : lw_okq (⟨"HouseFronts$Chart", "askBelow", "(I)V"⟩, 14) := ⟨⟨by decide +kernel, by decide +kernel⟩, List.mem_of_getElem? (i := 183) (by decide +kernel), List.mem_of_getElem? (i := 628) (by decide +kernel), List.mem_of_getElem? (i := 629) (by decide +kernel)⟩
theorem lw_p8 : lw_okq (⟨"HouseFronts$Chart", "askParts", "(IZ)V"⟩, 14) := ⟨⟨by decide +kernel, by decide +kernel⟩, List.mem_of_getElem? (i := 183) (by decide +kernel), List.mem_of_getElem? (i := 634) (by decide +kernel), List.mem_of_getElem? (i := 635) (by decide +kernel)⟩
theorem lw_p9 : lw_okq (⟨"HouseFronts$Chart", "cellOfPart", "(IZI)I"⟩, 14) := ⟨⟨by decide +kernel, by decide +kernel⟩, List.mem_of_getElem? (i := 183) (by decide +kernel), List.mem_of_getElem? (i := 638) (by decide +kernel), List.mem_of_getElem? (i := 639) (by decide +kernel)⟩
theorem lw_p10 : lw_okq (⟨"HouseFronts$Chart", "settleCell", "(I)V"⟩, 14) := ⟨⟨by decide +kernel, by decide +kernel⟩, List.mem_of_getElem? (i := 183) (by decide +kernel), List.mem_of_getElem? (i := 642) (by decide +kernel), List.mem_of_getElem? (i := 643) (by decide +kernel)⟩
theorem lw_p11 : lw_okq (⟨"HouseFronts$Chart", "gainOfParts", "(IILHouseFronts$Rule;)V"⟩, 14) := ⟨⟨by decide +kernel, by decide +kernel⟩, List.mem_of_getElem? (i := 183) (by decide +kernel), List.mem_of_getElem? (i := 680) (by decide +kernel), List.mem_of_getElem? (i := 681) (by decide +kernel)⟩
theorem lw_p12 : lw_okq (⟨"HouseFronts$Chart", "weightOf", "(I)J"⟩, 14) := ⟨⟨by decide +kernel, by decide +kernel⟩, List.mem_of_getElem? (i := 183) (by decide +kernel), List.mem_of_getElem? (i := 693) (by decide +kernel), List.mem_of_getElem? (i := 694) (by decide +kernel)⟩
theorem lw_p13 : lw_okq (⟨"HouseFronts$Knot", "findEndless", "()V"⟩, 11) := ⟨⟨by decide +kernel, by decide +kernel⟩, List.mem_of_getElem? (i := 189) (by decide +kernel), List.mem_of_getElem? (i := 705) (by decide +kernel), List.mem_of_getElem? (i := 706) (by decide +kernel)⟩
theorem lw_p14 : lw_okq (⟨"HouseFronts$Knot", "tiedTo", "(I)I"⟩, 11) := ⟨⟨by decide +kernel, by decide +kernel⟩, List.mem_of_getElem? (i := 189) (by decide +kernel), List.mem_of_getElem? (i := 709) (by decide +kernel), List.mem_of_getElem? (i := 710) (by decide +kernel)⟩
theorem lw_p15 : lw_okq (⟨"HouseFronts$Knot", "sumTies", "()V"⟩, 11) := ⟨⟨by decide +kernel, by decide +kernel⟩, List.mem_of_getElem? (i := 189) (by decide +kernel), List.mem_of_getElem? (i := 713) (by decide +kernel), List.mem_of_getElem? (i := 714) (by decide +kernel)⟩
def lw_privs_1 : List (MethodName × Nat) := [(⟨"HouseFronts", "forgetParses", "()V"⟩, 9), (⟨"HouseFronts$Layout", "layRepeat", "(LHouseFronts$Parts;I)Z"⟩, 4), (⟨"HouseFronts$Layout", "laidOneAfterAnother", "()Z"⟩, 4), (⟨"HouseFronts$Layout", "laySplit", "(LHouseFronts$Parts;I)Z"⟩, 4), (⟨"HouseFronts$Walk", "push", "(IIIIIII)V"⟩, 12), (⟨"HouseFronts$Walk", "choose", "()I"⟩, 12), (⟨"HouseFronts$Chart", "spanOf", "(II)I"⟩, 14), (⟨"HouseFronts$Chart", "askBelow", "(I)V"⟩, 14), (⟨"HouseFronts$Chart", "askParts", "(IZ)V"⟩, 14), (⟨"HouseFronts$Chart", "cellOfPart", "(IZI)I"⟩, 14), (⟨"HouseFronts$Chart", "settleCell", "(I)V"⟩, 14), (⟨"HouseFronts$Chart", "gainOfParts", "(IILHouseFronts$Rule;)V"⟩, 14), (⟨"HouseFronts$Chart", "weightOf", "(I)J"⟩, 14), (⟨"HouseFronts$Knot", "findEndless", "()V"⟩, 11), (⟨"HouseFronts$Knot", "tiedTo", "(I)I"⟩, 11), (⟨"HouseFronts$Knot", "sumTies", "()V"⟩, 11)]
theorem lw_r1 : ∀ q ∈ lw_privs_1, lw_okq q := List.forall_mem_cons.mpr ⟨lw_p0, List.forall_mem_cons.mpr ⟨lw_p1, List.forall_mem_cons.mpr ⟨lw_p2, List.forall_mem_cons.mpr ⟨lw_p3, List.forall_mem_cons.mpr ⟨lw_p4, List.forall_mem_cons.mpr ⟨lw_p5, List.forall_mem_cons.mpr ⟨lw_p6, List.forall_mem_cons.mpr ⟨lw_p7, List.forall_mem_cons.mpr ⟨lw_p8, List.forall_mem_cons.mpr ⟨lw_p9, List.forall_mem_cons.mpr ⟨lw_p10, List.forall_mem_cons.mpr ⟨lw_p11, List.forall_mem_cons.mpr ⟨lw_p12, List.forall_mem_cons.mpr ⟨lw_p13, List.forall_mem_cons.mpr ⟨lw_p14, List.forall_mem_cons.mpr ⟨lw_p15, fun _ h => absurd h List.not_mem_nil⟩⟩⟩⟩⟩⟩⟩⟩⟩⟩⟩⟩⟩⟩⟩⟩
theorem lw_p16 : lw_okq (⟨"HouseFronts$Knot", "lightenByTies", "()V"⟩, 11) := ⟨⟨by decide +kernel, by decide +kernel⟩, List.mem_of_getElem? (i := 189) (by decide +kernel), List.mem_of_getElem? (i := 717) (by decide +kernel), List.mem_of_getElem? (i := 718) (by decide +kernel)⟩
theorem lw_p17 : lw_okq (⟨"HouseFronts$Knot", "pickAmongTies", "()V"⟩, 11) := ⟨⟨by decide +kernel, by decide +kernel⟩, List.mem_of_getElem? (i := 189) (by decide +kernel), List.mem_of_getElem? (i := 721) (by decide +kernel), List.mem_of_getElem? (i := 722) (by decide +kernel)⟩
theorem lw_p18 : lw_okq (⟨"HouseFronts$Chart", "keep", "(II)V"⟩, 14) := ⟨⟨by decide +kernel, by decide +kernel⟩, List.mem_of_getElem? (i := 183) (by decide +kernel), List.mem_of_getElem? (i := 725) (by decide +kernel), List.mem_of_getElem? (i := 726) (by decide +kernel)⟩
theorem lw_p19 : lw_okq (⟨"HouseFronts", "settleBoard", "()I"⟩, 9) := ⟨⟨by decide +kernel, by decide +kernel⟩, List.mem_of_getElem? (i := 16) (by decide +kernel), List.mem_of_getElem? (i := 756) (by decide +kernel), List.mem_of_getElem? (i := 757) (by decide +kernel)⟩
theorem lw_p20 : lw_okq (⟨"HouseFrontsModel", "boards", "(II)V"⟩, 51) := ⟨⟨by decide +kernel, by decide +kernel⟩, List.mem_of_getElem? (i := 787) (by decide +kernel), List.mem_of_getElem? (i := 794) (by decide +kernel), List.mem_of_getElem? (i := 795) (by decide +kernel)⟩
theorem lw_p21 : lw_okq (⟨"HouseFrontsModel", "add", "(IIII)I"⟩, 51) := ⟨⟨by decide +kernel, by decide +kernel⟩, List.mem_of_getElem? (i := 787) (by decide +kernel), List.mem_of_getElem? (i := 966) (by decide +kernel), List.mem_of_getElem? (i := 967) (by decide +kernel)⟩
theorem lw_p22 : lw_okq (⟨"HouseFrontsModel", "forget", "()V"⟩, 51) := ⟨⟨by decide +kernel, by decide +kernel⟩, List.mem_of_getElem? (i := 787) (by decide +kernel), List.mem_of_getElem? (i := 970) (by decide +kernel), List.mem_of_getElem? (i := 971) (by decide +kernel)⟩
theorem lw_p23 : lw_okq (⟨"HouseFrontsModel", "addPart", "(IIIZ)V"⟩, 51) := ⟨⟨by decide +kernel, by decide +kernel⟩, List.mem_of_getElem? (i := 787) (by decide +kernel), List.mem_of_getElem? (i := 984) (by decide +kernel), List.mem_of_getElem? (i := 985) (by decide +kernel)⟩
theorem lw_p24 : lw_okq (⟨"HouseFrontsModel", "isRule", "(I)Z"⟩, 51) := ⟨⟨by decide +kernel, by decide +kernel⟩, List.mem_of_getElem? (i := 787) (by decide +kernel), List.mem_of_getElem? (i := 996) (by decide +kernel), List.mem_of_getElem? (i := 997) (by decide +kernel)⟩
theorem lw_p25 : lw_okq (⟨"HouseFrontsModel", "lay", "(III)Z"⟩, 51) := ⟨⟨by decide +kernel, by decide +kernel⟩, List.mem_of_getElem? (i := 787) (by decide +kernel), List.mem_of_getElem? (i := 1015) (by decide +kernel), List.mem_of_getElem? (i := 1016) (by decide +kernel)⟩
theorem lw_p26 : lw_okq (⟨"HouseFrontsModel", "isAlongY", "(I)Z"⟩, 51) := ⟨⟨by decide +kernel, by decide +kernel⟩, List.mem_of_getElem? (i := 787) (by decide +kernel), List.mem_of_getElem? (i := 1019) (by decide +kernel), List.mem_of_getElem? (i := 1020) (by decide +kernel)⟩
theorem lw_p27 : lw_okq (⟨"HouseFrontsModel", "laySplit", "(II)Z"⟩, 51) := ⟨⟨by decide +kernel, by decide +kernel⟩, List.mem_of_getElem? (i := 787) (by decide +kernel), List.mem_of_getElem? (i := 1023) (by decide +kernel), List.mem_of_getElem? (i := 1024) (by decide +kernel)⟩
theorem lw_p28 : lw_okq (⟨"HouseFrontsModel", "layRepeat", "(II)Z"⟩, 51) := ⟨⟨by decide +kernel, by decide +kernel⟩, List.mem_of_getElem? (i := 787) (by decide +kernel), List.mem_of_getElem? (i := 1027) (by decide +kernel), List.mem_of_getElem? (i := 1028) (by decide +kernel)⟩
theorem lw_p29 : lw_okq (⟨"HouseFrontsModel", "put", "(IIIII)V"⟩, 51) := ⟨⟨by decide +kernel, by decide +kernel⟩, List.mem_of_getElem? (i := 787) (by decide +kernel), List.mem_of_getElem? (i := 1039) (by decide +kernel), List.mem_of_getElem? (i := 1040) (by decide +kernel)⟩
theorem lw_p30 : lw_okq (⟨"HouseFrontsModel", "picked", "(IIII)I"⟩, 51) := ⟨⟨by decide +kernel, by decide +kernel⟩, List.mem_of_getElem? (i := 787) (by decide +kernel), List.mem_of_getElem? (i := 1043) (by decide +kernel), List.mem_of_getElem? (i := 1044) (by decide +kernel)⟩
theorem lw_p31 : lw_okq (⟨"HouseFrontsModel", "fillDraft", "(IIIII)V"⟩, 51) := ⟨⟨by decide +kernel, by decide +kernel⟩, List.mem_of_getElem? (i := 787) (by decide +kernel), List.mem_of_getElem? (i := 1048) (by decide +kernel), List.mem_of_getElem? (i := 1049) (by decide +kernel)⟩
def lw_privs_2 : List (MethodName × Nat) := [(⟨"HouseFronts$Knot", "lightenByTies", "()V"⟩, 11), (⟨"HouseFronts$Knot", "pickAmongTies", "()V"⟩, 11), (⟨"HouseFronts$Chart", "keep", "(II)V"⟩, 14), (⟨"HouseFronts", "settleBoard", "()I"⟩, 9), (⟨"HouseFrontsModel", "boards", "(II)V"⟩, 51), (⟨"HouseFrontsModel", "add", "(IIII)I"⟩, 51), (⟨"HouseFrontsModel", "forget", "()V"⟩, 51), (⟨"HouseFrontsModel", "addPart", "(IIIZ)V"⟩, 51), (⟨"HouseFrontsModel", "isRule", "(I)Z"⟩, 51), (⟨"HouseFrontsModel", "lay", "(III)Z"⟩, 51), (⟨"HouseFrontsModel", "isAlongY", "(I)Z"⟩, 51), (⟨"HouseFrontsModel", "laySplit", "(II)Z"⟩, 51), (⟨"HouseFrontsModel", "layRepeat", "(II)Z"⟩, 51), (⟨"HouseFrontsModel", "put", "(IIIII)V"⟩, 51), (⟨"HouseFrontsModel", "picked", "(IIII)I"⟩, 51), (⟨"HouseFrontsModel", "fillDraft", "(IIIII)V"⟩, 51)]
theorem lw_r2 : ∀ q ∈ lw_privs_2, lw_okq q := List.forall_mem_cons.mpr ⟨lw_p16, List.forall_mem_cons.mpr ⟨lw_p17, List.forall_mem_cons.mpr ⟨lw_p18, List.forall_mem_cons.mpr ⟨lw_p19, List.forall_mem_cons.mpr ⟨lw_p20, List.forall_mem_cons.mpr ⟨lw_p21, List.forall_mem_cons.mpr ⟨lw_p22, List.forall_mem_cons.mpr ⟨lw_p23, List.forall_mem_cons.mpr ⟨lw_p24, List.forall_mem_cons.mpr ⟨lw_p25, List.forall_mem_cons.mpr ⟨lw_p26, List.forall_mem_cons.mpr ⟨lw_p27, List.forall_mem_cons.mpr ⟨lw_p28, List.forall_mem_cons.mpr ⟨lw_p29, List.forall_mem_cons.mpr ⟨lw_p30, List.forall_mem_cons.mpr ⟨lw_p31, fun _ h => absurd h List.not_mem_nil⟩⟩⟩⟩⟩⟩⟩⟩⟩⟩⟩⟩⟩⟩⟩⟩
theorem lw_p32 : lw_okq (⟨"HouseFrontsModel", "putPieces", "(IIIIIII)V"⟩, 51) := ⟨⟨by decide +kernel, by decide +kernel⟩, List.mem_of_getElem? (i := 787) (by decide +kernel), List.mem_of_getElem? (i := 1052) (by decide +kernel), List.mem_of_getElem? (i := 1053) (by decide +kernel)⟩
theorem lw_p33 : lw_okq (⟨"HouseFrontsModel", "isPlace", "(I)Z"⟩, 51) := ⟨⟨by decide +kernel, by decide +kernel⟩, List.mem_of_getElem? (i := 787) (by decide +kernel), List.mem_of_getElem? (i := 1084) (by decide +kernel), List.mem_of_getElem? (i := 1085) (by decide +kernel)⟩
theorem lw_p34 : lw_okq (⟨"HouseFrontsModel", "workScopes", "()V"⟩, 51) := ⟨⟨by decide +kernel, by decide +kernel⟩, List.mem_of_getElem? (i := 787) (by decide +kernel), List.mem_of_getElem? (i := 1095) (by decide +kernel), List.mem_of_getElem? (i := 1096) (by decide +kernel)⟩
theorem lw_p35 : lw_okq (⟨"HouseFrontsModel", "work", "(IIII)V"⟩, 51) := ⟨⟨by decide +kernel, by decide +kernel⟩, List.mem_of_getElem? (i := 787) (by decide +kernel), List.mem_of_getElem? (i := 1099) (by decide +kernel), List.mem_of_getElem? (i := 1100) (by decide +kernel)⟩
theorem lw_p36 : lw_okq (⟨"HouseFrontsModel", "place", "(IIII)I"⟩, 51) := ⟨⟨by decide +kernel, by decide +kernel⟩, List.mem_of_getElem? (i := 787) (by decide +kernel), List.mem_of_getElem? (i := 1103) (by decide +kernel), List.mem_of_getElem? (i := 1104) (by decide +kernel)⟩
theorem lw_p37 : lw_okq (⟨"HouseFrontsModel", "count", "(IIIII)V"⟩, 51) := ⟨⟨by decide +kernel, by decide +kernel⟩, List.mem_of_getElem? (i := 787) (by decide +kernel), List.mem_of_getElem? (i := 1108) (by decide +kernel), List.mem_of_getElem? (i := 1109) (by decide +kernel)⟩
theorem lw_p38 : lw_okq (⟨"HouseFrontsModel", "isAll", "(IIIII)Z"⟩, 51) := ⟨⟨by decide +kernel, by decide +kernel⟩, List.mem_of_getElem? (i := 787) (by decide +kernel), List.mem_of_getElem? (i := 1112) (by decide +kernel), List.mem_of_getElem? (i := 1113) (by decide +kernel)⟩
theorem lw_p39 : lw_okq (⟨"HouseFrontsModel", "sum", "(I)V"⟩, 51) := ⟨⟨by decide +kernel, by decide +kernel⟩, List.mem_of_getElem? (i := 787) (by decide +kernel), List.mem_of_getElem? (i := 1124) (by decide +kernel), List.mem_of_getElem? (i := 1125) (by decide +kernel)⟩
theorem lw_p40 : lw_okq (⟨"HouseFrontsModel", "findMade", "()V"⟩, 51) := ⟨⟨by decide +kernel, by decide +kernel⟩, List.mem_of_getElem? (i := 787) (by decide +kernel), List.mem_of_getElem? (i := 1128) (by decide +kernel), List.mem_of_getElem? (i := 1129) (by decide +kernel)⟩
theorem lw_p41 : lw_okq (⟨"HouseFrontsModel", "isEndless", "(I)Z"⟩, 51) := ⟨⟨by decide +kernel, by decide +kernel⟩, List.mem_of_getElem? (i := 787) (by decide +kernel), List.mem_of_getElem? (i := 1132) (by decide +kernel), List.mem_of_getElem? (i := 1133) (by decide +kernel)⟩
theorem lw_p42 : lw_okq (⟨"HouseFrontsModel", "improve", "(IIIII)Z"⟩, 51) := ⟨⟨by decide +kernel, by decide +kernel⟩, List.mem_of_getElem? (i := 787) (by decide +kernel), List.mem_of_getElem? (i := 1136) (by decide +kernel), List.mem_of_getElem? (i := 1137) (by decide +kernel)⟩
theorem lw_p43 : lw_okq (⟨"HouseFrontsModel", "tries", "(IIIII)Z"⟩, 51) := ⟨⟨by decide +kernel, by decide +kernel⟩, List.mem_of_getElem? (i := 787) (by decide +kernel), List.mem_of_getElem? (i := 1140) (by decide +kernel), List.mem_of_getElem? (i := 1141) (by decide +kernel)⟩
theorem lw_p44 : lw_okq (⟨"HouseFrontsModel", "workBoard", "()V"⟩, 51) := ⟨⟨by decide +kernel, by decide +kernel⟩, List.mem_of_getElem? (i := 787) (by decide +kernel), List.mem_of_getElem? (i := 1152) (by decide +kernel), List.mem_of_getElem? (i := 1153) (by decide +kernel)⟩
def lw_privs_3 : List (MethodName × Nat) := [(⟨"HouseFrontsModel", "putPieces", "(IIIIIII)V"⟩, 51), (⟨"HouseFrontsModel", "isPlace", "(I)Z"⟩, 51), (⟨"HouseFrontsModel", "workScopes", "()V"⟩, 51), (⟨"HouseFrontsModel", "work", "(IIII)V"⟩, 51), (⟨"HouseFrontsModel", "place", "(IIII)I"⟩, 51), (⟨"HouseFrontsModel", "count", "(IIIII)V"⟩, 51), (⟨"HouseFrontsModel", "isAll", "(IIIII)Z"⟩, 51), (⟨"HouseFrontsModel", "sum", "(I)V"⟩, 51), (⟨"HouseFrontsModel", "findMade", "()V"⟩, 51), (⟨"HouseFrontsModel", "isEndless", "(I)Z"⟩, 51), (⟨"HouseFrontsModel", "improve", "(IIIII)Z"⟩, 51), (⟨"HouseFrontsModel", "tries", "(IIIII)Z"⟩, 51), (⟨"HouseFrontsModel", "workBoard", "()V"⟩, 51)]
theorem lw_r3 : ∀ q ∈ lw_privs_3, lw_okq q := List.forall_mem_cons.mpr ⟨lw_p32, List.forall_mem_cons.mpr ⟨lw_p33, List.forall_mem_cons.mpr ⟨lw_p34, List.forall_mem_cons.mpr ⟨lw_p35, List.forall_mem_cons.mpr ⟨lw_p36, List.forall_mem_cons.mpr ⟨lw_p37, List.forall_mem_cons.mpr ⟨lw_p38, List.forall_mem_cons.mpr ⟨lw_p39, List.forall_mem_cons.mpr ⟨lw_p40, List.forall_mem_cons.mpr ⟨lw_p41, List.forall_mem_cons.mpr ⟨lw_p42, List.forall_mem_cons.mpr ⟨lw_p43, List.forall_mem_cons.mpr ⟨lw_p44, fun _ h => absurd h List.not_mem_nil⟩⟩⟩⟩⟩⟩⟩⟩⟩⟩⟩⟩⟩
def lw_privs : List (MethodName × Nat) := lw_privs_1 ++ (lw_privs_2 ++ (lw_privs_3))
def lw_tbl : List Cond := k2_sels lw_privs ++ tables_1
theorem lw_privs_ok : ∀ q ∈ lw_privs, lw_okq q := by
  show ∀ q ∈ lw_privs_1 ++ (lw_privs_2 ++ (lw_privs_3)), lw_okq q
  exact List.forall_mem_append.mpr ⟨lw_r1, List.forall_mem_append.mpr ⟨lw_r2, lw_r3⟩⟩
-- ===== end of PART A; then your names; then what follows =====
/-! ===== BEGIN words of one list among another's, by their places ===== -/
theorem goodIn_r {big : List Cond} (ws : List Cond) (ps : List Nat) (hp : ws = ps.filterMap (fun i => big[i]?)) (h : ws.all goodWord = true) : GoodIn big ws := by
  intro w hw
  have h1 := List.all_eq_true.mp h w hw
  rw [hp] at hw
  obtain ⟨i, -, hi⟩ := List.mem_filterMap.mp hw
  have hm : w ∈ big := by first | exact List.mem_of_getElem? hi | exact List.getElem?_mem hi
  exact ⟨hm, good_of_word h1⟩
theorem goodIn_app {big a b : List Cond} (ha : GoodIn big a) (hb : GoodIn big b) : GoodIn big (a ++ b) := fun w h => (List.mem_append.mp h).elim (ha w) (hb w)
theorem goodIn_ca {big a b : List Cond} {c : Cond} (ha : GoodIn big (c :: a)) (hb : GoodIn big b) : GoodIn big (c :: (a ++ b)) := fun w h => (List.mem_cons.mp h).elim (fun e => ha w (List.mem_cons.mpr (Or.inl e))) (fun h => (List.mem_append.mp h).elim (fun h => ha w (List.mem_cons.mpr (Or.inr h))) (hb w))
theorem goodIn_sub {big ws : List Cond} (hm : ∀ w ∈ ws, w ∈ big) (h : ws.all goodWord = true) : GoodIn big ws := fun w hw => ⟨hm w hw, good_of_word (List.all_eq_true.mp h w hw)⟩
/-! ===== END ===== -/

def RX0 : String := "HouseFronts$Board"
def TX0 : u_T := fun k => match k with
  | 0 => ("HouseFronts$Board", "letters", "[B", true)
  | 1 => ("HouseFronts$Board", "wide", "I", false)
  | _ => ("HouseFronts$Board", "high", "I", false)
def tyX0 : Nat → FieldType := fun k => match k with
  | 0 => .array .byte
  | 1 => .int
  | _ => .int
abbrev wsX00 : List Cond := u_ws RX0 TX0 3
theorem nmX0 : ∀ a, a < 3 → ∀ b, b < 3 → a ≠ b → (TX0 a).2.1 ≠ (TX0 b).2.1 := by decide +kernel
theorem tyX0_ok : ∀ k, k < 3 → parseFieldDescriptor (TX0 k).2.2.1 = some (tyX0 k) := by decide +kernel
abbrev cX0_init : ByteArray := prog_2_method_1_code
def yX0_init : MethodName := ⟨RX0, "<init>", "()V"⟩
abbrev cX0_begin : ByteArray := prog_2_method_2_code
def yX0_begin : MethodName := ⟨RX0, "begin", "(II)V"⟩
abbrev cX0_has : ByteArray := prog_2_method_3_code
def yX0_has : MethodName := ⟨RX0, "has", "(I)Z"⟩
abbrev cX0_set : ByteArray := prog_2_method_4_code
def yX0_set : MethodName := ⟨RX0, "set", "(III)V"⟩
abbrev cX0_soleLetter : ByteArray := prog_2_method_5_code
def yX0_soleLetter : MethodName := ⟨RX0, "soleLetter", "(IIII)I"⟩
def RX1 : String := "HouseFronts$Chart"
def TX1 : u_T := fun k => match k with
  | 0 => ("HouseFronts$Chart", "grammar", "LHouseFronts$Grammar;", true)
  | 1 => ("HouseFronts$Chart", "layout", "LHouseFronts$Layout;", true)
  | 2 => ("HouseFronts$Chart", "board", "LHouseFronts$Board;", true)
  | 3 => ("HouseFronts$Chart", "lettered", "Z", true)
  | 4 => ("HouseFronts$Chart", "spans", "I", true)
  | 5 => ("HouseFronts$Chart", "start", "[I", true)
  | 6 => ("HouseFronts$Chart", "length", "[I", true)
  | 7 => ("HouseFronts$Chart", "asked", "[I", true)
  | 8 => ("HouseFronts$Chart", "settled", "[I", true)
  | 9 => ("HouseFronts$Chart", "ways", "[J", true)
  | 10 => ("HouseFronts$Chart", "weights", "[J", true)
  | 11 => ("HouseFronts$Chart", "picks", "[B", true)
  | 12 => ("HouseFronts$Chart", "knot", "LHouseFronts$Knot;", true)
  | _ => ("HouseFronts$Chart", "stale", "Z", false)
def tyX1 : Nat → FieldType := fun k => match k with
  | 0 => .object "HouseFronts$Grammar"
  | 1 => .object "HouseFronts$Layout"
  | 2 => .object "HouseFronts$Board"
  | 3 => .boolean
  | 4 => .int
  | 5 => .array .int
  | 6 => .array .int
  | 7 => .array .int
  | 8 => .array .int
  | 9 => .array .long
  | 10 => .array .long
  | 11 => .array .byte
  | 12 => .object "HouseFronts$Knot"
  | _ => .boolean
abbrev wsX10 : List Cond := u_ws RX1 TX1 14
theorem nmX1 : ∀ a, a < 14 → ∀ b, b < 14 → a ≠ b → (TX1 a).2.1 ≠ (TX1 b).2.1 := by decide +kernel
theorem tyX1_ok : ∀ k, k < 14 → parseFieldDescriptor (TX1 k).2.2.1 = some (tyX1 k) := by decide +kernel
abbrev cX1_init : ByteArray := prog_3_method_1_code
def yX1_init : MethodName := ⟨RX1, "<init>", "(LHouseFronts$Grammar;LHouseFronts$Layout;LHouseFronts$Board;Z)V"⟩
abbrev cX1_settle : ByteArray := prog_3_method_2_code
def yX1_settle : MethodName := ⟨RX1, "settle", "(IIIII)I"⟩
abbrev cX1_waysOf : ByteArray := prog_3_method_3_code
def yX1_waysOf : MethodName := ⟨RX1, "waysOf", "(I)J"⟩
abbrev cX1_costOf : ByteArray := prog_3_method_4_code
def yX1_costOf : MethodName := ⟨RX1, "costOf", "(I)I"⟩
abbrev cX1_stepsOf : ByteArray := prog_3_method_5_code
def yX1_stepsOf : MethodName := ⟨RX1, "stepsOf", "(I)I"⟩
abbrev cX1_pickOf : ByteArray := prog_3_method_6_code
def yX1_pickOf : MethodName := ⟨RX1, "pickOf", "(I)I"⟩
abbrev cX1_weightOf : ByteArray := prog_3_method_7_code
def yX1_weightOf : MethodName := ⟨RX1, "weightOf", "(I)J"⟩
abbrev cX1_spanOf : ByteArray := prog_3_method_8_code
def yX1_spanOf : MethodName := ⟨RX1, "spanOf", "(II)I"⟩
abbrev cX1_cellOfPart : ByteArray := prog_3_method_9_code
def yX1_cellOfPart : MethodName := ⟨RX1, "cellOfPart", "(IZI)I"⟩
abbrev cX1_askBelow : ByteArray := prog_3_method_10_code
def yX1_askBelow : MethodName := ⟨RX1, "askBelow", "(I)V"⟩
abbrev cX1_askParts : ByteArray := prog_3_method_11_code
def yX1_askParts : MethodName := ⟨RX1, "askParts", "(IZ)V"⟩
abbrev cX1_settleCell : ByteArray := prog_3_method_12_code
def yX1_settleCell : MethodName := ⟨RX1, "settleCell", "(I)V"⟩
abbrev cX1_gainOfParts : ByteArray := prog_3_method_13_code
def yX1_gainOfParts : MethodName := ⟨RX1, "gainOfParts", "(IILHouseFronts$Rule;)V"⟩
abbrev cX1_keep : ByteArray := prog_3_method_14_code
def yX1_keep : MethodName := ⟨RX1, "keep", "(II)V"⟩
abbrev cX1_times : ByteArray := prog_3_method_15_code
def yX1_times : MethodName := ⟨RX1, "times", "(JJ)J"⟩
def RX2 : String := "HouseFronts$Front"
def TX2 : u_T := fun k => match k with
  | 0 => ("HouseFronts$Front", "letters", "[B", true)
  | 1 => ("HouseFronts$Front", "rules", "[B", true)
  | 2 => ("HouseFronts$Front", "wide", "I", false)
  | 3 => ("HouseFronts$Front", "high", "I", false)
  | 4 => ("HouseFronts$Front", "number", "I", false)
  | _ => ("HouseFronts$Front", "cost", "I", false)
def tyX2 : Nat → FieldType := fun k => match k with
  | 0 => .array .byte
  | 1 => .array .byte
  | 2 => .int
  | 3 => .int
  | 4 => .int
  | _ => .int
abbrev wsX20 : List Cond := u_ws RX2 TX2 6
theorem nmX2 : ∀ a, a < 6 → ∀ b, b < 6 → a ≠ b → (TX2 a).2.1 ≠ (TX2 b).2.1 := by decide +kernel
theorem tyX2_ok : ∀ k, k < 6 → parseFieldDescriptor (TX2 k).2.2.1 = some (tyX2 k) := by decide +kernel
abbrev cX2_init : ByteArray := prog_4_method_1_code
def yX2_init : MethodName := ⟨RX2, "<init>", "()V"⟩
abbrev cX2_empty : ByteArray := prog_4_method_2_code
def yX2_empty : MethodName := ⟨RX2, "empty", "()V"⟩
abbrev cX2_begin : ByteArray := prog_4_method_3_code
def yX2_begin : MethodName := ⟨RX2, "begin", "(II)V"⟩
abbrev cX2_add : ByteArray := prog_4_method_4_code
def yX2_add : MethodName := ⟨RX2, "add", "(II)V"⟩
abbrev cX2_letterOf : ByteArray := prog_4_method_5_code
def yX2_letterOf : MethodName := ⟨RX2, "letterOf", "(II)I"⟩
abbrev cX2_paint : ByteArray := prog_4_method_6_code
def yX2_paint : MethodName := ⟨RX2, "paint", "(IIIII)V"⟩
def RX3 : String := "HouseFronts$Grammar"
def TX3 : u_T := fun k => match k with
  | 0 => ("HouseFronts$Grammar", "rules", "[LHouseFronts$Rule;", true)
  | 1 => ("HouseFronts$Grammar", "collected", "LHouseFronts$Parts;", true)
  | _ => ("HouseFronts$Grammar", "number", "I", false)
def tyX3 : Nat → FieldType := fun k => match k with
  | 0 => .array (.object "HouseFronts$Rule")
  | 1 => .object "HouseFronts$Parts"
  | _ => .int
abbrev wsX30 : List Cond := u_ws RX3 TX3 3
theorem nmX3 : ∀ a, a < 3 → ∀ b, b < 3 → a ≠ b → (TX3 a).2.1 ≠ (TX3 b).2.1 := by decide +kernel
theorem tyX3_ok : ∀ k, k < 3 → parseFieldDescriptor (TX3 k).2.2.1 = some (tyX3 k) := by decide +kernel
abbrev cX3_init : ByteArray := prog_5_method_1_code
def yX3_init : MethodName := ⟨RX3, "<init>", "()V"⟩
abbrev cX3_isFull : ByteArray := prog_5_method_2_code
def yX3_isFull : MethodName := ⟨RX3, "isFull", "()Z"⟩
abbrev cX3_has : ByteArray := prog_5_method_3_code
def yX3_has : MethodName := ⟨RX3, "has", "(I)Z"⟩
abbrev cX3_empty : ByteArray := prog_5_method_4_code
def yX3_empty : MethodName := ⟨RX3, "empty", "()V"⟩
abbrev cX3_addFill : ByteArray := prog_5_method_5_code
def yX3_addFill : MethodName := ⟨RX3, "addFill", "(III)I"⟩
abbrev cX3_addSplit : ByteArray := prog_5_method_6_code
def yX3_addSplit : MethodName := ⟨RX3, "addSplit", "(IZI)I"⟩
abbrev cX3_addRepeat : ByteArray := prog_5_method_7_code
def yX3_addRepeat : MethodName := ⟨RX3, "addRepeat", "(IIIZI)I"⟩
def RX4 : String := "HouseFronts$Knot"
def TX4 : u_T := fun k => match k with
  | 0 => ("HouseFronts$Knot", "own", "[J", true)
  | 1 => ("HouseFronts$Knot", "total", "[J", true)
  | 2 => ("HouseFronts$Knot", "former", "[J", true)
  | 3 => ("HouseFronts$Knot", "weight", "[J", true)
  | 4 => ("HouseFronts$Knot", "pick", "[I", true)
  | 5 => ("HouseFronts$Knot", "tieName", "[I", true)
  | 6 => ("HouseFronts$Knot", "tieRule", "[I", true)
  | 7 => ("HouseFronts$Knot", "tieTo", "[I", true)
  | 8 => ("HouseFronts$Knot", "tieWeight", "[J", true)
  | 9 => ("HouseFronts$Knot", "ties", "I", false)
  | _ => ("HouseFronts$Knot", "endless", "I", false)
def tyX4 : Nat → FieldType := fun k => match k with
  | 0 => .array .long
  | 1 => .array .long
  | 2 => .array .long
  | 3 => .array .long
  | 4 => .array .int
  | 5 => .array .int
  | 6 => .array .int
  | 7 => .array .int
  | 8 => .array .long
  | 9 => .int
  | _ => .int
abbrev wsX40 : List Cond := u_ws RX4 TX4 11
theorem nmX4 : ∀ a, a < 11 → ∀ b, b < 11 → a ≠ b → (TX4 a).2.1 ≠ (TX4 b).2.1 := by decide +kernel
theorem tyX4_ok : ∀ k, k < 11 → parseFieldDescriptor (TX4 k).2.2.1 = some (tyX4 k) := by decide +kernel
abbrev cX4_init : ByteArray := prog_6_method_1_code
def yX4_init : MethodName := ⟨RX4, "<init>", "()V"⟩
abbrev cX4_begin : ByteArray := prog_6_method_2_code
def yX4_begin : MethodName := ⟨RX4, "begin", "()V"⟩
abbrev cX4_gain : ByteArray := prog_6_method_3_code
def yX4_gain : MethodName := ⟨RX4, "gain", "(IIJJ)V"⟩
abbrev cX4_tie : ByteArray := prog_6_method_4_code
def yX4_tie : MethodName := ⟨RX4, "tie", "(IIIJ)V"⟩
abbrev cX4_waysOf : ByteArray := prog_6_method_5_code
def yX4_waysOf : MethodName := ⟨RX4, "waysOf", "(I)J"⟩
abbrev cX4_settle : ByteArray := prog_6_method_6_code
def yX4_settle : MethodName := ⟨RX4, "settle", "()V"⟩
abbrev cX4_findEndless : ByteArray := prog_6_method_7_code
def yX4_findEndless : MethodName := ⟨RX4, "findEndless", "()V"⟩
abbrev cX4_tiedTo : ByteArray := prog_6_method_8_code
def yX4_tiedTo : MethodName := ⟨RX4, "tiedTo", "(I)I"⟩
abbrev cX4_sumTies : ByteArray := prog_6_method_9_code
def yX4_sumTies : MethodName := ⟨RX4, "sumTies", "()V"⟩
abbrev cX4_lightenByTies : ByteArray := prog_6_method_10_code
def yX4_lightenByTies : MethodName := ⟨RX4, "lightenByTies", "()V"⟩
abbrev cX4_pickAmongTies : ByteArray := prog_6_method_11_code
def yX4_pickAmongTies : MethodName := ⟨RX4, "pickAmongTies", "()V"⟩
abbrev cX4_plus : ByteArray := prog_6_method_12_code
def yX4_plus : MethodName := ⟨RX4, "plus", "(JJ)J"⟩
def RX5 : String := "HouseFronts$Layout"
def TX5 : u_T := fun k => match k with
  | 0 => ("HouseFronts$Layout", "name", "[I", true)
  | 1 => ("HouseFronts$Layout", "begin", "[I", true)
  | 2 => ("HouseFronts$Layout", "length", "[I", true)
  | _ => ("HouseFronts$Layout", "number", "I", false)
def tyX5 : Nat → FieldType := fun k => match k with
  | 0 => .array .int
  | 1 => .array .int
  | 2 => .array .int
  | _ => .int
abbrev wsX50 : List Cond := u_ws RX5 TX5 4
theorem nmX5 : ∀ a, a < 4 → ∀ b, b < 4 → a ≠ b → (TX5 a).2.1 ≠ (TX5 b).2.1 := by decide +kernel
theorem tyX5_ok : ∀ k, k < 4 → parseFieldDescriptor (TX5 k).2.2.1 = some (tyX5 k) := by decide +kernel
abbrev cX5_init : ByteArray := prog_7_method_1_code
def yX5_init : MethodName := ⟨RX5, "<init>", "()V"⟩
abbrev cX5_lay : ByteArray := prog_7_method_2_code
def yX5_lay : MethodName := ⟨RX5, "lay", "(LHouseFronts$Rule;II)Z"⟩
abbrev cX5_laySplit : ByteArray := prog_7_method_3_code
def yX5_laySplit : MethodName := ⟨RX5, "laySplit", "(LHouseFronts$Parts;I)Z"⟩
abbrev cX5_layRepeat : ByteArray := prog_7_method_4_code
def yX5_layRepeat : MethodName := ⟨RX5, "layRepeat", "(LHouseFronts$Parts;I)Z"⟩
abbrev cX5_laidOneAfterAnother : ByteArray := prog_7_method_5_code
def yX5_laidOneAfterAnother : MethodName := ⟨RX5, "laidOneAfterAnother", "()Z"⟩
def RX6 : String := "HouseFronts$Parts"
def TX6 : u_T := fun k => match k with
  | 0 => ("HouseFronts$Parts", "name", "[I", true)
  | 1 => ("HouseFronts$Parts", "size", "[I", true)
  | 2 => ("HouseFronts$Parts", "share", "[I", true)
  | 3 => ("HouseFronts$Parts", "number", "I", false)
  | 4 => ("HouseFronts$Parts", "sizes", "I", false)
  | _ => ("HouseFronts$Parts", "shares", "I", false)
def tyX6 : Nat → FieldType := fun k => match k with
  | 0 => .array .int
  | 1 => .array .int
  | 2 => .array .int
  | 3 => .int
  | 4 => .int
  | _ => .int
abbrev wsX60 : List Cond := u_ws RX6 TX6 6
theorem nmX6 : ∀ a, a < 6 → ∀ b, b < 6 → a ≠ b → (TX6 a).2.1 ≠ (TX6 b).2.1 := by decide +kernel
theorem tyX6_ok : ∀ k, k < 6 → parseFieldDescriptor (TX6 k).2.2.1 = some (tyX6 k) := by decide +kernel
abbrev cX6_init : ByteArray := prog_8_method_1_code
def yX6_init : MethodName := ⟨RX6, "<init>", "()V"⟩
abbrev cX6_empty : ByteArray := prog_8_method_2_code
def yX6_empty : MethodName := ⟨RX6, "empty", "()V"⟩
abbrev cX6_add : ByteArray := prog_8_method_3_code
def yX6_add : MethodName := ⟨RX6, "add", "(III)V"⟩
abbrev cX6_copy : ByteArray := prog_8_method_4_code
def yX6_copy : MethodName := ⟨RX6, "copy", "(LHouseFronts$Parts;)V"⟩
def RX7 : String := "HouseFronts$Rule"
def TX7 : u_T := fun k => match k with
  | 0 => ("HouseFronts$Rule", "parts", "LHouseFronts$Parts;", true)
  | 1 => ("HouseFronts$Rule", "name", "I", false)
  | 2 => ("HouseFronts$Rule", "kind", "I", false)
  | 3 => ("HouseFronts$Rule", "cost", "I", false)
  | 4 => ("HouseFronts$Rule", "letter", "I", false)
  | 5 => ("HouseFronts$Rule", "fromWide", "I", false)
  | 6 => ("HouseFronts$Rule", "toWide", "I", false)
  | 7 => ("HouseFronts$Rule", "fromHigh", "I", false)
  | _ => ("HouseFronts$Rule", "toHigh", "I", false)
def tyX7 : Nat → FieldType := fun k => match k with
  | 0 => .object "HouseFronts$Parts"
  | 1 => .int
  | 2 => .int
  | 3 => .int
  | 4 => .int
  | 5 => .int
  | 6 => .int
  | 7 => .int
  | _ => .int
abbrev wsX70 : List Cond := u_ws RX7 TX7 9
theorem nmX7 : ∀ a, a < 9 → ∀ b, b < 9 → a ≠ b → (TX7 a).2.1 ≠ (TX7 b).2.1 := by decide +kernel
theorem tyX7_ok : ∀ k, k < 9 → parseFieldDescriptor (TX7 k).2.2.1 = some (tyX7 k) := by decide +kernel
abbrev cX7_init : ByteArray := prog_9_method_1_code
def yX7_init : MethodName := ⟨RX7, "<init>", "()V"⟩
abbrev cX7_begin : ByteArray := prog_9_method_2_code
def yX7_begin : MethodName := ⟨RX7, "begin", "(III)V"⟩
abbrev cX7_limit : ByteArray := prog_9_method_3_code
def yX7_limit : MethodName := ⟨RX7, "limit", "(ZII)V"⟩
abbrev cX7_admits : ByteArray := prog_9_method_4_code
def yX7_admits : MethodName := ⟨RX7, "admits", "(II)Z"⟩
abbrev cX7_isAlongY : ByteArray := prog_9_method_5_code
def yX7_isAlongY : MethodName := ⟨RX7, "isAlongY", "()Z"⟩
abbrev cX7_isRepeat : ByteArray := prog_9_method_6_code
def yX7_isRepeat : MethodName := ⟨RX7, "isRepeat", "()Z"⟩
abbrev cX7_weight : ByteArray := prog_9_method_7_code
def yX7_weight : MethodName := ⟨RX7, "weight", "()J"⟩
def RX8 : String := "HouseFronts$Walk"
def TX8 : u_T := fun k => match k with
  | 0 => ("HouseFronts$Walk", "grammar", "LHouseFronts$Grammar;", true)
  | 1 => ("HouseFronts$Walk", "layout", "LHouseFronts$Layout;", true)
  | 2 => ("HouseFronts$Walk", "pile", "[[I", true)
  | 3 => ("HouseFronts$Walk", "fitting", "[I", true)
  | 4 => ("HouseFronts$Walk", "waiting", "I", false)
  | 5 => ("HouseFronts$Walk", "name", "I", false)
  | 6 => ("HouseFronts$Walk", "x", "I", false)
  | 7 => ("HouseFronts$Walk", "y", "I", false)
  | 8 => ("HouseFronts$Walk", "wide", "I", false)
  | 9 => ("HouseFronts$Walk", "high", "I", false)
  | 10 => ("HouseFronts$Walk", "key", "I", false)
  | _ => ("HouseFronts$Walk", "depth", "I", false)
def tyX8 : Nat → FieldType := fun k => match k with
  | 0 => .object "HouseFronts$Grammar"
  | 1 => .object "HouseFronts$Layout"
  | 2 => .array (.array .int)
  | 3 => .array .int
  | 4 => .int
  | 5 => .int
  | 6 => .int
  | 7 => .int
  | 8 => .int
  | 9 => .int
  | 10 => .int
  | _ => .int
abbrev wsX80 : List Cond := u_ws RX8 TX8 12
theorem nmX8 : ∀ a, a < 12 → ∀ b, b < 12 → a ≠ b → (TX8 a).2.1 ≠ (TX8 b).2.1 := by decide +kernel
theorem tyX8_ok : ∀ k, k < 12 → parseFieldDescriptor (TX8 k).2.2.1 = some (tyX8 k) := by decide +kernel
abbrev cX8_init : ByteArray := prog_10_method_1_code
def yX8_init : MethodName := ⟨RX8, "<init>", "(LHouseFronts$Grammar;LHouseFronts$Layout;)V"⟩
abbrev cX8_begin : ByteArray := prog_10_method_2_code
def yX8_begin : MethodName := ⟨RX8, "begin", "(III)V"⟩
abbrev cX8_push : ByteArray := prog_10_method_3_code
def yX8_push : MethodName := ⟨RX8, "push", "(IIIIIII)V"⟩
abbrev cX8_next : ByteArray := prog_10_method_4_code
def yX8_next : MethodName := ⟨RX8, "next", "()Z"⟩
abbrev cX8_spread : ByteArray := prog_10_method_5_code
def yX8_spread : MethodName := ⟨RX8, "spread", "(LHouseFronts$Rule;)V"⟩
abbrev cX8_grow : ByteArray := prog_10_method_6_code
def yX8_grow : MethodName := ⟨RX8, "grow", "(LHouseFronts$Front;III)I"⟩
abbrev cX8_choose : ByteArray := prog_10_method_7_code
def yX8_choose : MethodName := ⟨RX8, "choose", "()I"⟩
def RX9 : String := "HouseFronts"
def TX9 : u_T := fun k => match k with
  | 0 => ("HouseFronts", "grammar", "LHouseFronts$Grammar;", true)
  | 1 => ("HouseFronts", "layout", "LHouseFronts$Layout;", true)
  | 2 => ("HouseFronts", "board", "LHouseFronts$Board;", true)
  | 3 => ("HouseFronts", "free", "LHouseFronts$Chart;", true)
  | 4 => ("HouseFronts", "bound", "LHouseFronts$Chart;", true)
  | 5 => ("HouseFronts", "walk", "LHouseFronts$Walk;", true)
  | 6 => ("HouseFronts", "front", "LHouseFronts$Front;", false)
  | 7 => ("HouseFronts", "spare", "LHouseFronts$Front;", false)
  | _ => ("HouseFronts", "faultKey", "I", false)
def tyX9 : Nat → FieldType := fun k => match k with
  | 0 => .object "HouseFronts$Grammar"
  | 1 => .object "HouseFronts$Layout"
  | 2 => .object "HouseFronts$Board"
  | 3 => .object "HouseFronts$Chart"
  | 4 => .object "HouseFronts$Chart"
  | 5 => .object "HouseFronts$Walk"
  | 6 => .object "HouseFronts$Front"
  | 7 => .object "HouseFronts$Front"
  | _ => .int
abbrev wsX90 : List Cond := u_ws RX9 TX9 9
theorem nmX9 : ∀ a, a < 9 → ∀ b, b < 9 → a ≠ b → (TX9 a).2.1 ≠ (TX9 b).2.1 := by decide +kernel
theorem tyX9_ok : ∀ k, k < 9 → parseFieldDescriptor (TX9 k).2.2.1 = some (tyX9 k) := by decide +kernel
abbrev cX9_init : ByteArray := prog_1_method_1_code
def yX9_init : MethodName := ⟨RX9, "<init>", "()V"⟩
abbrev cX9_fill : ByteArray := prog_1_method_2_code
def yX9_fill : MethodName := ⟨RX9, "fill", "(III)I"⟩
abbrev cX9_part : ByteArray := prog_1_method_3_code
def yX9_part : MethodName := ⟨RX9, "part", "(IIZ)I"⟩
abbrev cX9_split : ByteArray := prog_1_method_4_code
def yX9_split : MethodName := ⟨RX9, "split", "(IZI)I"⟩
abbrev cX9_repeat : ByteArray := prog_1_method_5_code
def yX9_repeat : MethodName := ⟨RX9, "repeat", "(IIIZI)I"⟩
abbrev cX9_only : ByteArray := prog_1_method_6_code
def yX9_only : MethodName := ⟨RX9, "only", "(IZII)I"⟩
abbrev cX9_clear : ByteArray := prog_1_method_7_code
def yX9_clear : MethodName := ⟨RX9, "clear", "()I"⟩
abbrev cX9_rule : ByteArray := prog_1_method_8_code
def yX9_rule : MethodName := ⟨RX9, "rule", "(II)I"⟩
abbrev cX9_holds : ByteArray := prog_1_method_9_code
def yX9_holds : MethodName := ⟨RX9, "holds", "(III)I"⟩
abbrev cX9_piece : ByteArray := prog_1_method_10_code
def yX9_piece : MethodName := ⟨RX9, "piece", "(IIIIZ)I"⟩
abbrev cX9_draw : ByteArray := prog_1_method_11_code
def yX9_draw : MethodName := ⟨RX9, "draw", "(III)I"⟩
abbrev cX9_at : ByteArray := prog_1_method_12_code
def yX9_at : MethodName := ⟨RX9, "at", "(II)I"⟩
abbrev cX9_step : ByteArray := prog_1_method_13_code
def yX9_step : MethodName := ⟨RX9, "step", "(I)I"⟩
abbrev cX9_drawn : ByteArray := prog_1_method_14_code
def yX9_drawn : MethodName := ⟨RX9, "drawn", "()I"⟩
abbrev cX9_fault : ByteArray := prog_1_method_15_code
def yX9_fault : MethodName := ⟨RX9, "fault", "()I"⟩
abbrev cX9_take : ByteArray := prog_1_method_16_code
def yX9_take : MethodName := ⟨RX9, "take", "()I"⟩
abbrev cX9_ways : ByteArray := prog_1_method_17_code
def yX9_ways : MethodName := ⟨RX9, "ways", "(III)J"⟩
abbrev cX9_least : ByteArray := prog_1_method_18_code
def yX9_least : MethodName := ⟨RX9, "least", "(III)I"⟩
abbrev cX9_board : ByteArray := prog_1_method_19_code
def yX9_board : MethodName := ⟨RX9, "board", "(II)I"⟩
abbrev cX9_put : ByteArray := prog_1_method_20_code
def yX9_put : MethodName := ⟨RX9, "put", "(II)I"⟩
abbrev cX9_parses : ByteArray := prog_1_method_21_code
def yX9_parses : MethodName := ⟨RX9, "parses", "()J"⟩
abbrev cX9_best : ByteArray := prog_1_method_22_code
def yX9_best : MethodName := ⟨RX9, "best", "()I"⟩
abbrev cX9_bestStep : ByteArray := prog_1_method_23_code
def yX9_bestStep : MethodName := ⟨RX9, "bestStep", "(I)I"⟩
abbrev cX9_stands : ByteArray := prog_1_method_24_code
def yX9_stands : MethodName := ⟨RX9, "stands", "(IIII)J"⟩
abbrev cX9_count : ByteArray := prog_1_method_25_code
def yX9_count : MethodName := ⟨RX9, "count", "(I)I"⟩
abbrev cX9_settleBoard : ByteArray := prog_1_method_26_code
def yX9_settleBoard : MethodName := ⟨RX9, "settleBoard", "()I"⟩
abbrev cX9_forgetParses : ByteArray := prog_1_method_27_code
def yX9_forgetParses : MethodName := ⟨RX9, "forgetParses", "()V"⟩
abbrev cX9_isName : ByteArray := prog_1_method_28_code
def yX9_isName : MethodName := ⟨RX9, "isName", "(I)Z"⟩
abbrev cX9_isCost : ByteArray := prog_1_method_29_code
def yX9_isCost : MethodName := ⟨RX9, "isCost", "(I)Z"⟩
abbrev cX9_isScope : ByteArray := prog_1_method_30_code
def yX9_isScope : MethodName := ⟨RX9, "isScope", "(II)Z"⟩
abbrev cX9_isWithin : ByteArray := prog_1_method_31_code
def yX9_isWithin : MethodName := ⟨RX9, "isWithin", "(III)Z"⟩
def RX10 : String := "HouseFrontsModel"
def TX10 : u_T := fun k => match k with
  | 0 => ("HouseFrontsModel", "rules", "I", false)
  | 1 => ("HouseFrontsModel", "name", "[I", true)
  | 2 => ("HouseFrontsModel", "kind", "[I", true)
  | 3 => ("HouseFrontsModel", "cost", "[I", true)
  | 4 => ("HouseFrontsModel", "letter", "[I", true)
  | 5 => ("HouseFrontsModel", "parts", "[I", true)
  | 6 => ("HouseFrontsModel", "partName", "[I", true)
  | 7 => ("HouseFrontsModel", "partSize", "[I", true)
  | 8 => ("HouseFrontsModel", "isShare", "[Z", true)
  | 9 => ("HouseFrontsModel", "ends", "[I", true)
  | 10 => ("HouseFrontsModel", "collected", "I", false)
  | 11 => ("HouseFrontsModel", "newName", "[I", true)
  | 12 => ("HouseFrontsModel", "newSize", "[I", true)
  | 13 => ("HouseFrontsModel", "newShare", "[Z", true)
  | 14 => ("HouseFrontsModel", "pieces", "I", false)
  | 15 => ("HouseFrontsModel", "pieceAt", "[I", true)
  | 16 => ("HouseFrontsModel", "pieceLong", "[I", true)
  | 17 => ("HouseFrontsModel", "pieceName", "[I", true)
  | 18 => ("HouseFrontsModel", "drawnWide", "I", false)
  | 19 => ("HouseFrontsModel", "drawnHigh", "I", false)
  | 20 => ("HouseFrontsModel", "steps", "I", false)
  | 21 => ("HouseFrontsModel", "step", "[I", true)
  | 22 => ("HouseFrontsModel", "drawnCost", "I", false)
  | 23 => ("HouseFrontsModel", "shown", "[I", true)
  | 24 => ("HouseFrontsModel", "draft", "[I", true)
  | 25 => ("HouseFrontsModel", "draftStep", "[I", true)
  | 26 => ("HouseFrontsModel", "faultKey", "I", false)
  | 27 => ("HouseFrontsModel", "high", "I", false)
  | 28 => ("HouseFrontsModel", "pileName", "[I", true)
  | 29 => ("HouseFrontsModel", "pileKey", "[I", true)
  | 30 => ("HouseFrontsModel", "pileDeep", "[I", true)
  | 31 => ("HouseFrontsModel", "pileX", "[I", true)
  | 32 => ("HouseFrontsModel", "pileY", "[I", true)
  | 33 => ("HouseFrontsModel", "pileW", "[I", true)
  | 34 => ("HouseFrontsModel", "pileH", "[I", true)
  | 35 => ("HouseFrontsModel", "wide", "I", false)
  | 36 => ("HouseFrontsModel", "tall", "I", false)
  | 37 => ("HouseFrontsModel", "board", "[I", true)
  | 38 => ("HouseFrontsModel", "ways", "[J", true)
  | 39 => ("HouseFrontsModel", "least", "[I", true)
  | 40 => ("HouseFrontsModel", "few", "[I", true)
  | 41 => ("HouseFrontsModel", "bestRule", "[I", true)
  | 42 => ("HouseFrontsModel", "isBoard", "Z", false)
  | 43 => ("HouseFrontsModel", "base", "[J", true)
  | 44 => ("HouseFrontsModel", "leads", "[I", true)
  | 45 => ("HouseFrontsModel", "isMade", "[Z", true)
  | 46 => ("HouseFrontsModel", "reaches", "[Z", true)
  | 47 => ("HouseFrontsModel", "tryCost", "I", false)
  | 48 => ("HouseFrontsModel", "tryFew", "I", false)
  | 49 => ("HouseFrontsModel", "hasScopes", "Z", false)
  | _ => ("HouseFrontsModel", "hasBoard", "Z", false)
def tyX10 : Nat → FieldType := fun k => match k with
  | 0 => .int
  | 1 => .array .int
  | 2 => .array .int
  | 3 => .array .int
  | 4 => .array .int
  | 5 => .array .int
  | 6 => .array .int
  | 7 => .array .int
  | 8 => .array .boolean
  | 9 => .array .int
  | 10 => .int
  | 11 => .array .int
  | 12 => .array .int
  | 13 => .array .boolean
  | 14 => .int
  | 15 => .array .int
  | 16 => .array .int
  | 17 => .array .int
  | 18 => .int
  | 19 => .int
  | 20 => .int
  | 21 => .array .int
  | 22 => .int
  | 23 => .array .int
  | 24 => .array .int
  | 25 => .array .int
  | 26 => .int
  | 27 => .int
  | 28 => .array .int
  | 29 => .array .int
  | 30 => .array .int
  | 31 => .array .int
  | 32 => .array .int
  | 33 => .array .int
  | 34 => .array .int
  | 35 => .int
  | 36 => .int
  | 37 => .array .int
  | 38 => .array .long
  | 39 => .array .int
  | 40 => .array .int
  | 41 => .array .int
  | 42 => .boolean
  | 43 => .array .long
  | 44 => .array .int
  | 45 => .array .boolean
  | 46 => .array .boolean
  | 47 => .int
  | 48 => .int
  | 49 => .boolean
  | _ => .boolean
abbrev wsX100 : List Cond := u_ws RX10 TX10 51
theorem nmX10 : ∀ a, a < 51 → ∀ b, b < 51 → a ≠ b → (TX10 a).2.1 ≠ (TX10 b).2.1 := by decide +kernel
theorem tyX10_ok : ∀ k, k < 51 → parseFieldDescriptor (TX10 k).2.2.1 = some (tyX10 k) := by decide +kernel
abbrev cX10_init : ByteArray := prog_12_method_1_code
def yX10_init : MethodName := ⟨RX10, "<init>", "()V"⟩
abbrev cX10_in : ByteArray := prog_12_method_3_code
def yX10_in : MethodName := ⟨RX10, "in", "(JJJ)Z"⟩
abbrev cX10_isName : ByteArray := prog_12_method_4_code
def yX10_isName : MethodName := ⟨RX10, "isName", "(I)Z"⟩
abbrev cX10_add : ByteArray := prog_12_method_5_code
def yX10_add : MethodName := ⟨RX10, "add", "(IIII)I"⟩
abbrev cX10_addPart : ByteArray := prog_12_method_6_code
def yX10_addPart : MethodName := ⟨RX10, "addPart", "(IIIZ)V"⟩
abbrev cX10_fill : ByteArray := prog_12_method_7_code
def yX10_fill : MethodName := ⟨RX10, "fill", "(III)I"⟩
abbrev cX10_part : ByteArray := prog_12_method_8_code
def yX10_part : MethodName := ⟨RX10, "part", "(IIZ)I"⟩
abbrev cX10_split : ByteArray := prog_12_method_9_code
def yX10_split : MethodName := ⟨RX10, "split", "(IZI)I"⟩
abbrev cX10_repeat : ByteArray := prog_12_method_10_code
def yX10_repeat : MethodName := ⟨RX10, "repeat", "(IIIZI)I"⟩
abbrev cX10_isRule : ByteArray := prog_12_method_11_code
def yX10_isRule : MethodName := ⟨RX10, "isRule", "(I)Z"⟩
abbrev cX10_isLength : ByteArray := prog_12_method_12_code
def yX10_isLength : MethodName := ⟨RX10, "isLength", "(I)Z"⟩
abbrev cX10_only : ByteArray := prog_12_method_13_code
def yX10_only : MethodName := ⟨RX10, "only", "(IZII)I"⟩
abbrev cX10_clear : ByteArray := prog_12_method_14_code
def yX10_clear : MethodName := ⟨RX10, "clear", "()I"⟩
abbrev cX10_rule : ByteArray := prog_12_method_15_code
def yX10_rule : MethodName := ⟨RX10, "rule", "(II)I"⟩
abbrev cX10_isAlongY : ByteArray := prog_12_method_16_code
def yX10_isAlongY : MethodName := ⟨RX10, "isAlongY", "(I)Z"⟩
abbrev cX10_layRepeat : ByteArray := prog_12_method_17_code
def yX10_layRepeat : MethodName := ⟨RX10, "layRepeat", "(II)Z"⟩
abbrev cX10_laySplit : ByteArray := prog_12_method_18_code
def yX10_laySplit : MethodName := ⟨RX10, "laySplit", "(II)Z"⟩
abbrev cX10_lay : ByteArray := prog_12_method_19_code
def yX10_lay : MethodName := ⟨RX10, "lay", "(III)Z"⟩
abbrev cX10_holds : ByteArray := prog_12_method_20_code
def yX10_holds : MethodName := ⟨RX10, "holds", "(III)I"⟩
abbrev cX10_piece : ByteArray := prog_12_method_21_code
def yX10_piece : MethodName := ⟨RX10, "piece", "(IIIIZ)I"⟩
abbrev cX10_put : ByteArray := prog_12_method_22_code
def yX10_put : MethodName := ⟨RX10, "put", "(IIIII)V"⟩
abbrev cX10_picked : ByteArray := prog_12_method_23_code
def yX10_picked : MethodName := ⟨RX10, "picked", "(IIII)I"⟩
abbrev cX10_putPieces : ByteArray := prog_12_method_24_code
def yX10_putPieces : MethodName := ⟨RX10, "putPieces", "(IIIIIII)V"⟩
abbrev cX10_draw : ByteArray := prog_12_method_25_code
def yX10_draw : MethodName := ⟨RX10, "draw", "(III)I"⟩
abbrev cX10_fillDraft : ByteArray := prog_12_method_26_code
def yX10_fillDraft : MethodName := ⟨RX10, "fillDraft", "(IIIII)V"⟩
abbrev cX10_at : ByteArray := prog_12_method_27_code
def yX10_at : MethodName := ⟨RX10, "at", "(II)I"⟩
abbrev cX10_step : ByteArray := prog_12_method_28_code
def yX10_step : MethodName := ⟨RX10, "step", "(I)I"⟩
abbrev cX10_drawn : ByteArray := prog_12_method_29_code
def yX10_drawn : MethodName := ⟨RX10, "drawn", "()I"⟩
abbrev cX10_fault : ByteArray := prog_12_method_30_code
def yX10_fault : MethodName := ⟨RX10, "fault", "()I"⟩
abbrev cX10_take : ByteArray := prog_12_method_31_code
def yX10_take : MethodName := ⟨RX10, "take", "()I"⟩
abbrev cX10_boards : ByteArray := prog_12_method_32_code
def yX10_boards : MethodName := ⟨RX10, "boards", "(II)V"⟩
abbrev cX10_board : ByteArray := prog_12_method_33_code
def yX10_board : MethodName := ⟨RX10, "board", "(II)I"⟩
abbrev cX10_isPlace : ByteArray := prog_12_method_34_code
def yX10_isPlace : MethodName := ⟨RX10, "isPlace", "(I)Z"⟩
abbrev cX10_put_ : ByteArray := prog_12_method_35_code
def yX10_put_ : MethodName := ⟨RX10, "put", "(II)I"⟩
abbrev cX10_place : ByteArray := prog_12_method_36_code
def yX10_place : MethodName := ⟨RX10, "place", "(IIII)I"⟩
abbrev cX10_isAll : ByteArray := prog_12_method_37_code
def yX10_isAll : MethodName := ⟨RX10, "isAll", "(IIIII)Z"⟩
abbrev cX10_plus : ByteArray := prog_12_method_38_code
def yX10_plus : MethodName := ⟨RX10, "plus", "(JJ)J"⟩
abbrev cX10_mult : ByteArray := prog_12_method_39_code
def yX10_mult : MethodName := ⟨RX10, "mult", "(JJ)J"⟩
abbrev cX10_count : ByteArray := prog_12_method_40_code
def yX10_count : MethodName := ⟨RX10, "count", "(IIIII)V"⟩
abbrev cX10_findMade : ByteArray := prog_12_method_41_code
def yX10_findMade : MethodName := ⟨RX10, "findMade", "()V"⟩
abbrev cX10_isEndless : ByteArray := prog_12_method_42_code
def yX10_isEndless : MethodName := ⟨RX10, "isEndless", "(I)Z"⟩
abbrev cX10_sum : ByteArray := prog_12_method_43_code
def yX10_sum : MethodName := ⟨RX10, "sum", "(I)V"⟩
abbrev cX10_tries : ByteArray := prog_12_method_44_code
def yX10_tries : MethodName := ⟨RX10, "tries", "(IIIII)Z"⟩
abbrev cX10_improve : ByteArray := prog_12_method_45_code
def yX10_improve : MethodName := ⟨RX10, "improve", "(IIIII)Z"⟩
abbrev cX10_work : ByteArray := prog_12_method_46_code
def yX10_work : MethodName := ⟨RX10, "work", "(IIII)V"⟩
abbrev cX10_workScopes : ByteArray := prog_12_method_47_code
def yX10_workScopes : MethodName := ⟨RX10, "workScopes", "()V"⟩
abbrev cX10_forget : ByteArray := prog_12_method_48_code
def yX10_forget : MethodName := ⟨RX10, "forget", "()V"⟩
abbrev cX10_workBoard : ByteArray := prog_12_method_49_code
def yX10_workBoard : MethodName := ⟨RX10, "workBoard", "()V"⟩
abbrev cX10_ways : ByteArray := prog_12_method_50_code
def yX10_ways : MethodName := ⟨RX10, "ways", "(III)J"⟩
abbrev cX10_least : ByteArray := prog_12_method_51_code
def yX10_least : MethodName := ⟨RX10, "least", "(III)I"⟩
abbrev cX10_parses : ByteArray := prog_12_method_52_code
def yX10_parses : MethodName := ⟨RX10, "parses", "()J"⟩
abbrev cX10_best : ByteArray := prog_12_method_53_code
def yX10_best : MethodName := ⟨RX10, "best", "()I"⟩
abbrev cX10_bestStep : ByteArray := prog_12_method_54_code
def yX10_bestStep : MethodName := ⟨RX10, "bestStep", "(I)I"⟩
abbrev cX10_stands : ByteArray := prog_12_method_55_code
def yX10_stands : MethodName := ⟨RX10, "stands", "(IIII)J"⟩
abbrev cX10_count_ : ByteArray := prog_12_method_56_code
def yX10_count_ : MethodName := ⟨RX10, "count", "(I)I"⟩
def RJ9 : String := "java/lang/Math"
def TJ9 : u_T := fun k => match k with
  | _ => ("", "", "", false)
def tyJ9 : Nat → FieldType := fun k => match k with
  | _ => .int
abbrev wsJ90 : List Cond := u_ws RJ9 TJ9 0
theorem nmJ9 : ∀ a, a < 0 → ∀ b, b < 0 → a ≠ b → (TJ9 a).2.1 ≠ (TJ9 b).2.1 := by decide +kernel
theorem tyJ9_ok : ∀ k, k < 0 → parseFieldDescriptor (TJ9 k).2.2.1 = some (tyJ9 k) := by decide +kernel
abbrev cJ9_min_f86c9 : ByteArray := prog_13_method_70_code
def yJ9_min_f86c9 : MethodName := ⟨RJ9, "min", "(JJ)J"⟩
def RJ10 : String := "java/lang/System"
def TJ10 : u_T := fun k => match k with
  | _ => ("", "", "", false)
def tyJ10 : Nat → FieldType := fun k => match k with
  | _ => .int
abbrev wsJ100 : List Cond := u_ws RJ10 TJ10 0
theorem nmJ10 : ∀ a, a < 0 → ∀ b, b < 0 → a ≠ b → (TJ10 a).2.1 ≠ (TJ10 b).2.1 := by decide +kernel
theorem tyJ10_ok : ∀ k, k < 0 → parseFieldDescriptor (TJ10 k).2.2.1 = some (tyJ10 k) := by decide +kernel
def RJ7 : String := "java/util/Arrays"
def TJ7 : u_T := fun k => match k with
  | _ => ("", "", "", false)
def tyJ7 : Nat → FieldType := fun k => match k with
  | _ => .int
abbrev wsJ70 : List Cond := u_ws RJ7 TJ7 0
theorem nmJ7 : ∀ a, a < 0 → ∀ b, b < 0 → a ≠ b → (TJ7 a).2.1 ≠ (TJ7 b).2.1 := by decide +kernel
theorem tyJ7_ok : ∀ k, k < 0 → parseFieldDescriptor (TJ7 k).2.2.1 = some (tyJ7 k) := by decide +kernel
abbrev cJ7_rangeCheck_23922 : ByteArray := prog_15_method_30_code
def yJ7_rangeCheck_23922 : MethodName := ⟨RJ7, "rangeCheck", "(III)V"⟩
abbrev cJ7_fill_d0a16 : ByteArray := prog_15_method_101_code
def yJ7_fill_d0a16 : MethodName := ⟨RJ7, "fill", "([JJ)V"⟩
abbrev cJ7_fill_53178 : ByteArray := prog_15_method_103_code
def yJ7_fill_53178 : MethodName := ⟨RJ7, "fill", "([II)V"⟩
abbrev cJ7_fill_031fb : ByteArray := prog_15_method_109_code
def yJ7_fill_031fb : MethodName := ⟨RJ7, "fill", "([BB)V"⟩
abbrev cJ7_fill_eb02e : ByteArray := prog_15_method_110_code
def yJ7_fill_eb02e : MethodName := ⟨RJ7, "fill", "([BIIB)V"⟩
def RL : String := "HouseFrontsLaw"
abbrev cL_law : ByteArray := code
def yL_law : MethodName := ⟨RL, "law", "([I)Z"⟩
abbrev vwCl : List vw_C := [(RX0, TX0, 3), (RX1, TX1, 14), (RX2, TX2, 6), (RX3, TX3, 3), (RX4, TX4, 11), (RX5, TX5, 4), (RX6, TX6, 6), (RX7, TX7, 9), (RX8, TX8, 12), (RX9, TX9, 9), (RX10, TX10, 51)]
end
section
/-! THE PURE MACHINE: values, memory, worlds; numbers are mathematical integers -/
abbrev xV : Type := Sum Int (Sum Int (Option Nat))
abbrev vI (x : Int) : xV := Sum.inl x
abbrev vL (x : Int) : xV := Sum.inr (Sum.inl x)
abbrev vR (a : Nat) : xV := Sum.inr (Sum.inr (some a))
abbrev vN : xV := Sum.inr (Sum.inr none)
def xtr (base : Nat) : xV → Value
  | .inl x => .int (Int32.ofInt x)
  | .inr (.inl x) => .long (Int64.ofInt x)
  | .inr (.inr none) => .null
  | .inr (.inr (some a)) => .ref (base + a)
def xi32 (x : Int) : Prop := -2147483648 ≤ x ∧ x ≤ 2147483647
def xi64 (x : Int) : Prop := -9223372036854775808 ≤ x ∧ x ≤ 9223372036854775807
def w32 (x : Int) : Int := Int.bmod x 4294967296
def w64 (x : Int) : Int := Int.bmod x 18446744073709551616
def w8 (x : Int) : Int := Int.bmod x 256
def xcat : xV → Nat
  | .inr (.inl _) => 2
  | _ => 1
def xok (K : Nat) : xV → Prop
  | .inl x => xi32 x
  | .inr (.inl x) => xi64 x
  | .inr (.inr none) => True
  | .inr (.inr (some a)) => a < K
theorem w32_r (x : Int) : xi32 (w32 x) := by
  unfold xi32 w32
  have h1 := Int.le_bmod (x := x) (m := 4294967296) (by decide)
  have h2 := Int.bmod_lt (x := x) (m := 4294967296) (by decide)
  omega
theorem w64_r (x : Int) : xi64 (w64 x) := by
  unfold xi64 w64
  have h1 := Int.le_bmod (x := x) (m := 18446744073709551616) (by decide)
  have h2 := Int.bmod_lt (x := x) (m := 18446744073709551616) (by decide)
  omega
theorem w8_r (x : Int) : -128 ≤ w8 x ∧ w8 x ≤ 127 := by
  unfold w8
  have h1 := Int.le_bmod (x := x) (m := 256) (by decide)
  have h2 := Int.bmod_lt (x := x) (m := 256) (by decide)
  omega
theorem w32_id {x : Int} (h1 : -2147483648 ≤ x) (h2 : x ≤ 2147483647) : w32 x = x := by
  unfold w32
  rw [Int.bmod_eq_of_le] <;> omega
theorem w64_id {x : Int} (h1 : -9223372036854775808 ≤ x) (h2 : x ≤ 9223372036854775807) : w64 x = x := by
  unfold w64
  rw [Int.bmod_eq_of_le] <;> omega
theorem w8_id {x : Int} (h1 : -128 ≤ x) (h2 : x ≤ 127) : w8 x = x := by
  unfold w8
  rw [Int.bmod_eq_of_le] <;> omega
theorem x32_to {x : Int} (h : xi32 x) : (Int32.ofInt x).toInt = x := by
  obtain ⟨h1, h2⟩ := h
  exact Int32.toInt_ofInt_of_le (by omega) (by omega)
theorem x64_to {x : Int} (h : xi64 x) : (Int64.ofInt x).toInt = x := by
  obtain ⟨h1, h2⟩ := h
  exact Int64.toInt_ofInt_of_le (by omega) (by omega)
theorem x32_w (x : Int) : Int32.ofInt (w32 x) = Int32.ofInt x := by
  apply Int32.toInt.inj
  rw [x32_to (w32_r x), Int32.toInt_ofInt]
  rfl
theorem x64_w (x : Int) : Int64.ofInt (w64 x) = Int64.ofInt x := by
  apply Int64.toInt.inj
  rw [x64_to (w64_r x), Int64.toInt_ofInt]
  rfl
theorem x32_lt {x y : Int} (hx : xi32 x) (hy : xi32 y) : Int32.ofInt x < Int32.ofInt y ↔ x < y := by
  rw [Int32.lt_iff_toInt_lt, x32_to hx, x32_to hy]
theorem x32_le {x y : Int} (hx : xi32 x) (hy : xi32 y) : Int32.ofInt x ≤ Int32.ofInt y ↔ x ≤ y := by
  rw [Int32.le_iff_toInt_le, x32_to hx, x32_to hy]
theorem x32_eq {x y : Int} (hx : xi32 x) (hy : xi32 y) : Int32.ofInt x = Int32.ofInt y ↔ x = y := by
  rw [← Int32.toInt_inj, x32_to hx, x32_to hy]
theorem x64_eq {x y : Int} (hx : xi64 x) (hy : xi64 y) : Int64.ofInt x = Int64.ofInt y ↔ x = y := by
  rw [← Int64.toInt_inj, x64_to hx, x64_to hy]
theorem x64_lt {x y : Int} (hx : xi64 x) (hy : xi64 y) : Int64.ofInt x < Int64.ofInt y ↔ x < y := by
  rw [Int64.lt_iff_toInt_lt, x64_to hx, x64_to hy]
theorem xi32_0 : xi32 0 := ⟨by decide, by decide⟩
theorem x32_r (z : Int32) : xi32 z.toInt := by
  have h1 := Int32.toInt_lt z
  have h2 := Int32.le_toInt z
  unfold xi32
  omega
theorem x64_r (z : Int64) : xi64 z.toInt := by
  have h1 := Int64.toInt_lt z
  have h2 := Int64.le_toInt z
  unfold xi64
  omega
theorem x32_add (a b : Int) : Int32.ofInt a + Int32.ofInt b = Int32.ofInt (w32 (a + b)) := by rw [x32_w, Int32.ofInt_add]
theorem x32_sub (a b : Int) : Int32.ofInt a - Int32.ofInt b = Int32.ofInt (w32 (a - b)) := by rw [x32_w, Int32.ofInt_sub]
theorem x32_mul (a b : Int) : Int32.ofInt a * Int32.ofInt b = Int32.ofInt (w32 (a * b)) := by rw [x32_w, Int32.ofInt_mul]
theorem x64_add (a b : Int) : Int64.ofInt a + Int64.ofInt b = Int64.ofInt (w64 (a + b)) := by rw [x64_w, Int64.ofInt_add]
theorem x64_mul (a b : Int) : Int64.ofInt a * Int64.ofInt b = Int64.ofInt (w64 (a * b)) := by rw [x64_w, Int64.ofInt_mul]
theorem x32_div {a b : Int} (ha : xi32 a) (hb : xi32 b) : Int32.ofInt a / Int32.ofInt b = Int32.ofInt (w32 (Int.tdiv a b)) := by
  apply Int32.toInt.inj
  rw [Int32.toInt_div, x32_to ha, x32_to hb, x32_to (w32_r _)]
  rfl
theorem x64_div {a b : Int} (ha : xi64 a) (hb : xi64 b) : Int64.ofInt a / Int64.ofInt b = Int64.ofInt (w64 (Int.tdiv a b)) := by
  apply Int64.toInt.inj
  rw [Int64.toInt_div, x64_to ha, x64_to hb, x64_to (w64_r _)]
  rfl
theorem x_tmod (a b : Int) : a - Int.tdiv a b * b = Int.tmod a b := by
  have := Int.tdiv_mul_add_tmod a b
  omega
theorem x32_rem {a b : Int} (ha : xi32 a) (hb : xi32 b) : Int32.ofInt a - Int32.ofInt a / Int32.ofInt b * Int32.ofInt b = Int32.ofInt (w32 (Int.tmod a b)) := by
  rw [x32_div ha hb, x32_w, ← Int32.ofInt_mul, ← Int32.ofInt_sub, x_tmod, x32_w]
theorem x64_rem {a b : Int} (ha : xi64 a) (hb : xi64 b) : Int64.ofInt a - Int64.ofInt a / Int64.ofInt b * Int64.ofInt b = Int64.ofInt (w64 (Int.tmod a b)) := by
  rw [x64_div ha hb, x64_w, ← Int64.ofInt_mul, ← Int64.ofInt_sub, x_tmod, x64_w]
def xand (a b : Int) : Int := (Int32.ofInt a &&& Int32.ofInt b).toInt
def xor_ (a b : Int) : Int := (Int32.ofInt a ||| Int32.ofInt b).toInt
def xxor (a b : Int) : Int := (Int32.ofInt a ^^^ Int32.ofInt b).toInt
def xshl (a b : Int) : Int := (Int32.ofInt a <<< (Int32.ofInt b &&& 31)).toInt
def xshr (a b : Int) : Int := (Int32.ofInt a >>> (Int32.ofInt b &&& 31)).toInt
def xushr (a b : Int) : Int := (((Int32.ofInt a).toUInt32 >>> ((Int32.ofInt b).toUInt32 &&& Int32.toUInt32 31)).toInt32).toInt
def xlcmp (a b : Int) : Int := if b < a then 1 else if a = b then 0 else -1
theorem x_lcmp {a b : Int} (ha : xi64 a) (hb : xi64 b) : lg_cmp (Int64.ofInt a) (Int64.ofInt b) = Int32.ofInt (xlcmp a b) := by
  unfold lg_cmp xlcmp
  by_cases h1 : b < a
  · rw [if_pos h1, if_pos ((x64_lt hb ha).mpr h1)]; rfl
  · rw [if_neg h1, if_neg (fun h => h1 ((x64_lt hb ha).mp h))]
    by_cases h2 : a = b
    · rw [if_pos h2, if_pos ((x64_eq ha hb).mpr h2)]; rfl
    · rw [if_neg h2, if_neg (fun h => h2 ((x64_eq ha hb).mp h))]; rfl
theorem xlcmp_r (a b : Int) : xi32 (xlcmp a b) := by
  unfold xlcmp xi32
  split
  · omega
  · split <;> omega
/-! types of fields, shapes of cells -/
def xfT : Nat → Nat → FieldType
  | 0 => tyX0
  | 1 => tyX1
  | 2 => tyX2
  | 3 => tyX3
  | 4 => tyX4
  | 5 => tyX5
  | 6 => tyX6
  | 7 => tyX7
  | 8 => tyX8
  | 9 => tyX9
  | 10 => tyX10
  | _ => fun _ => .int
def xN : Nat → Nat
  | 0 => 3
  | 1 => 14
  | 2 => 6
  | 3 => 3
  | 4 => 11
  | 5 => 4
  | 6 => 6
  | 7 => 9
  | 8 => 12
  | 9 => 9
  | 10 => 51
  | _ => 0
def xkt : Nat → FieldType
  | 0 => .int
  | 1 => .long
  | 2 => .byte
  | 3 => .boolean
  | 4 => .object RX7
  | _ => .array .int
def xrg (ty : FieldType) (x : Int) : Prop := match ty with
  | .long => xi64 x
  | .byte => -128 ≤ x ∧ x ≤ 127
  | .boolean => x = 0 ∨ x = 1
  | _ => xi32 x
theorem xrg_0 (ty : FieldType) : xrg ty 0 := by
  cases ty <;> first | exact Or.inl rfl | exact ⟨by decide, by decide⟩
def xF (base : Nat) (ty : FieldType) (r : Option Nat) (v : Int) : Value := match ty with
  | .object _ => va_rf (r.map (base + ·))
  | .array _ => va_rf (r.map (base + ·))
  | _ => .int (Int32.ofInt v)
/-- the type of a place of a cell -/
def xty (s : Nat × Nat) (i : Nat) : FieldType := if s.1 ≤ 5 then xkt s.1 else xfT s.2 i
def xE (cy : Nat → ClassId) (base : Nat) (s : Nat × Nat) (r : Nat → Option Nat) (v : Nat → Int) : va_E := match s.1 with
  | 0 => .inl (cy 0, s.2, .inl fun i => Int32.ofInt (v i))
  | 1 => .inl (cy 1, s.2, .inr (.inl fun i => Int64.ofInt (v i)))
  | 2 => .inl (cy 2, s.2, .inl fun i => Int32.ofInt (v i))
  | 3 => .inl (cy 3, s.2, .inl fun i => Int32.ofInt (v i))
  | 4 => .inl (cy 4, s.2, .inr (.inr (.inr (.inr fun i => (r i).map (base + ·)))))
  | 5 => .inl (cy 5, s.2, .inr (.inr (.inr (.inr fun i => (r i).map (base + ·)))))
  | _ => .inr (s.2, (List.range (xN s.2)).map fun k => xF base (xfT s.2 k) (r k) (v k))
def xW (cy : Nat → ClassId) (base : Nat) (sh : List (Nat × Nat)) (ν : Nat → Nat → Option Nat) (μ : Nat → Nat → Int) : va_W := (List.range sh.length).map fun k => (base + k, xE cy base (sh.getD k (7, 0)) (ν k) (μ k))
def xcell (K : Nat) (s : Nat × Nat) (r : Nat → Option Nat) (v : Nat → Int) : Prop := (∀ i, xrg (xty s i) (v i)) ∧ ∀ i b, r i = some b → b < K
def xOKh (sh : List (Nat × Nat)) (ν : Nat → Nat → Option Nat) (μ : Nat → Nat → Int) : Prop := ∀ k s, sh[k]? = some s → xcell sh.length s (ν k) (μ k)
def xRep (D : va_G) (cy : Nat → ClassId) (base : Nat) (sh : List (Nat × Nat)) (ν : Nat → Nat → Option Nat) (μ : Nat → Nat → Int) (H : Heap) : Prop := H.size = base + sh.length ∧ va_P D vwCl (xW cy base sh ν μ) H ∧ xOKh sh ν μ
def xtys (cy : Nat → ClassId) : List (ClassId × FieldType) := [(cy 0, .int), (cy 1, .long), (cy 2, .byte), (cy 3, .boolean), (cy 4, .object RX7), (cy 5, .array .int)]
def up (μ : Nat → Nat → Int) (a k : Nat) (v : Int) : Nat → Nat → Int := fun b j => if b = a ∧ j = k then v else μ b j
def upr (ν : Nat → Nat → Option Nat) (a k : Nat) (v : Option Nat) : Nat → Nat → Option Nat := fun b j => if b = a ∧ j = k then v else ν b j
def zr (μ : Nat → Nat → Int) (a : Nat) : Nat → Nat → Int := fun b j => if b = a then 0 else μ b j
def zrr (ν : Nat → Nat → Option Nat) (a : Nat) : Nat → Nat → Option Nat := fun b j => if b = a then none else ν b j
theorem up_s (μ : Nat → Nat → Int) (a k : Nat) (v : Int) : up μ a k v a k = v := if_pos ⟨rfl, rfl⟩
theorem up_a {μ : Nat → Nat → Int} {a k b : Nat} {v : Int} (h : b ≠ a) (j : Nat) : up μ a k v b j = μ b j := if_neg fun q => h q.1
theorem up_k {μ : Nat → Nat → Int} {a k j : Nat} {v : Int} (h : j ≠ k) (b : Nat) : up μ a k v b j = μ b j := if_neg fun q => h q.2
theorem xW_len {cy : Nat → ClassId} {base : Nat} {sh : List (Nat × Nat)} {ν : Nat → Nat → Option Nat} {μ : Nat → Nat → Int} : (xW cy base sh ν μ).length = sh.length := by simp [xW]
theorem xW_get {cy : Nat → ClassId} {base : Nat} {sh : List (Nat × Nat)} {ν : Nat → Nat → Option Nat} {μ : Nat → Nat → Int} {k : Nat} {s : Nat × Nat} (h : sh[k]? = some s) : (xW cy base sh ν μ)[k]? = some (base + k, xE cy base s (ν k) (μ k)) := by
  have hk : k < sh.length := (List.getElem?_eq_some_iff.mp h).1
  simp [xW, List.getElem?_range hk, h]
theorem xW_none {cy : Nat → ClassId} {base : Nat} {sh : List (Nat × Nat)} {ν : Nat → Nat → Option Nat} {μ : Nat → Nat → Int} {k : Nat} {q : Nat × va_E} (h : (xW cy base sh ν μ)[k]? = some q) : ∃ s, sh[k]? = some s ∧ q = (base + k, xE cy base s (ν k) (μ k)) := by
  have hk : k < sh.length := by
    have := (List.getElem?_eq_some_iff.mp h).1
    rwa [xW_len] at this
  have h2 : sh[k]? = some sh[k] := List.getElem?_eq_getElem hk
  exact ⟨_, h2, Option.some.inj (h.symm.trans (xW_get h2))⟩
theorem xW_set {cy : Nat → ClassId} {base : Nat} {sh : List (Nat × Nat)} {ν ν' : Nat → Nat → Option Nat} {μ μ' : Nat → Nat → Int} {k : Nat} {s : Nat × Nat} {e : va_E} (h : sh[k]? = some s) (hν : ∀ b, b ≠ k → ν' b = ν b) (hμ : ∀ b, b ≠ k → μ' b = μ b) (he : e = xE cy base s (ν' k) (μ' k)) :
    (xW cy base sh ν μ).set k (base + k, e) = xW cy base sh ν' μ' := by
  have hk : k < sh.length := (List.getElem?_eq_some_iff.mp h).1
  apply List.ext_getElem?
  intro i
  by_cases hi : i = k
  · subst hi
    rw [List.getElem?_set_self (by rw [xW_len]; exact hk), xW_get h, he]
  · rw [List.getElem?_set_ne (fun q => hi q.symm)]
    by_cases hl : i < sh.length
    · have h2 : sh[i]? = some sh[i] := List.getElem?_eq_getElem hl
      rw [xW_get h2, xW_get h2, hν i hi, hμ i hi]
    · rw [List.getElem?_eq_none (by rw [xW_len]; omega), List.getElem?_eq_none (by rw [xW_len]; omega)]
theorem xW_push {cy : Nat → ClassId} {base : Nat} {sh : List (Nat × Nat)} {ν ν' : Nat → Nat → Option Nat} {μ μ' : Nat → Nat → Int} {s : Nat × Nat} {e : va_E} (hν : ∀ b, b < sh.length → ν' b = ν b) (hμ : ∀ b, b < sh.length → μ' b = μ b) (he : e = xE cy base s (ν' sh.length) (μ' sh.length)) :
    xW cy base sh ν μ ++ [(base + sh.length, e)] = xW cy base (sh ++ [s]) ν' μ' := by
  apply List.ext_getElem?
  intro i
  by_cases hl : i < sh.length
  · have h2 : sh[i]? = some sh[i] := List.getElem?_eq_getElem hl
    have h3 : (sh ++ [s])[i]? = some sh[i] := by rw [List.getElem?_append_left hl, h2]
    rw [List.getElem?_append_left (by rw [xW_len]; exact hl), xW_get h2, xW_get h3, hν i hl, hμ i hl]
  · by_cases he2 : i = sh.length
    · subst he2
      have h3 : (sh ++ [s])[sh.length]? = some s := by simp
      rw [List.getElem?_append_right (by rw [xW_len]; omega), xW_len, xW_get h3, he]
      simp
    · rw [List.getElem?_eq_none (by simp [xW_len]; omega), List.getElem?_eq_none (by simp [xW_len]; omega)]
theorem xW_D {cy : Nat → ClassId} {base : Nat} {sh : List (Nat × Nat)} {ν : Nat → Nat → Option Nat} {μ : Nat → Nat → Int} : va_D (fun q : Nat => base ≤ q) (xW cy base sh ν μ) := by
  refine ⟨fun i j p q hp hq he => ?_, fun k q hk => ?_⟩
  · obtain ⟨s, -, rfl⟩ := xW_none hp
    obtain ⟨s, -, rfl⟩ := xW_none hq
    have : base + i = base + j := he
    omega
  · obtain ⟨s, -, rfl⟩ := xW_none hk
    exact Nat.le_add_right _ _
theorem xOKh_mu {sh : List (Nat × Nat)} {ν : Nat → Nat → Option Nat} {μ : Nat → Nat → Int} {a k : Nat} {s : Nat × Nat} {v : Int} (h : xOKh sh ν μ) (hs : sh[a]? = some s) (hv : xrg (xty s k) v) : xOKh sh ν (up μ a k v) := by
  intro b t ht
  obtain ⟨h1, h2⟩ := h b t ht
  refine ⟨fun i => ?_, h2⟩
  unfold up
  split
  · rename_i hq
    obtain ⟨rfl, rfl⟩ := hq
    cases hs.symm.trans ht
    exact hv
  · exact h1 i
theorem xOKh_nu {sh : List (Nat × Nat)} {ν : Nat → Nat → Option Nat} {μ : Nat → Nat → Int} {a k : Nat} {v : Option Nat} (h : xOKh sh ν μ) (hv : ∀ b, v = some b → b < sh.length) : xOKh sh (upr ν a k v) μ := by
  intro b t ht
  obtain ⟨h1, h2⟩ := h b t ht
  refine ⟨h1, fun i c hc => ?_⟩
  unfold upr at hc
  split at hc
  · exact hv c hc
  · exact h2 i c hc
theorem xOKh_push {sh : List (Nat × Nat)} {ν ν' : Nat → Nat → Option Nat} {μ μ' : Nat → Nat → Int} {s : Nat × Nat} (h : xOKh sh ν μ) (hν : ∀ b, b < sh.length → ν' b = ν b) (hμ : ∀ b, b < sh.length → μ' b = μ b) (hs : xcell (sh.length + 1) s (ν' sh.length) (μ' sh.length)) : xOKh (sh ++ [s]) ν' μ' := by
  intro b t ht
  have hlen : (sh ++ [s]).length = sh.length + 1 := by simp
  rw [hlen]
  by_cases hl : b < sh.length
  · rw [List.getElem?_append_left hl] at ht
    obtain ⟨h1, h2⟩ := h b t ht
    rw [hν b hl, hμ b hl]
    exact ⟨h1, fun i c hc => Nat.lt_succ_of_lt (h2 i c hc)⟩
  · have hb : b = sh.length := by
      have := (List.getElem?_eq_some_iff.mp ht).1
      rw [hlen] at this
      omega
    subst hb
    have : t = s := by simpa using ht.symm
    subst this
    exact hs
end
section
/-! THE JUDGEMENT OF THE PURE MACHINE, over the kit's W -/
/-- a method: its name, its bytes, its places for variables, its answer's type, its room -/
abbrev xM : Type := MethodName × ByteArray × Nat × Option FieldType × Room
def xT : List Cond := lw_tbl.filter goodWord
theorem x_in {i : Nat} {w : Cond} (h : lw_tbl[i]? = some w) (g : goodWord w = true) : w ∈ xT := List.mem_filter.mpr ⟨List.mem_of_getElem? h, g⟩
theorem xT_good : ∀ w ∈ xT, goodWord w = true := fun _ h => (List.mem_filter.mp h).2
/-- words of the tables that a call does not keep by themselves: links to a nest mate's own methods, arrays of objects -/
def xNest : List (String × Nat × MethodName × String) := [("HouseFronts$Grammar", 19, ⟨"HouseFronts$Parts", "<init>", "()V"⟩, "HouseFronts"), ("HouseFronts$Grammar", 28, ⟨"HouseFronts$Rule", "<init>", "()V"⟩, "HouseFronts"), ("HouseFronts$Rule", 11, ⟨"HouseFronts$Parts", "<init>", "()V"⟩, "HouseFronts"), ("HouseFronts", 18, ⟨"HouseFronts$Layout", "<init>", "()V"⟩, "HouseFronts"), ("HouseFronts", 25, ⟨"HouseFronts$Board", "<init>", "()V"⟩, "HouseFronts"), ("HouseFronts$Chart", 11, ⟨"HouseFronts$Knot", "<init>", "()V"⟩, "HouseFronts"), ("HouseFronts", 53, ⟨"HouseFronts$Front", "<init>", "()V"⟩, "HouseFronts"), ("HouseFronts$Rule", 50, ⟨"HouseFronts", "isWithin", "(III)Z"⟩, "HouseFronts"), ("HouseFronts$Chart", 75, ⟨"HouseFronts", "isName", "(I)Z"⟩, "HouseFronts")]
def xXt (s : State) : Prop := va_AO RX7 s ∧ (Cond.arrayOver (.array .int)).before #[] s = true ∧ ∀ q ∈ xNest, va_Nw (.methodLinkNest q.1 q.2.1 q.2.2.1 q.2.2.2) s
theorem xXt.warm {s U : State} (hW : s.WarmedH U.vm) (h : xXt s) : xXt U := ⟨h.1.moved hW.alike, arrayOver_alikeB hW.alike h.2.1, fun q hq => (h.2.2 q hq).warmM hW⟩
abbrev xQ : Type := Option xV → List (Nat × Nat) → (Nat → Nat → Option Nat) → (Nat → Nat → Int) → Prop
def xC (M : xM) (D : va_G) (cy : Nat → ClassId) (base : Nat) (p : Program) (s : State) (m : MethodId) (args : Array Value) (meth : Method) (c : Code) : Prop :=
  p.tables.exec = Jvm.exec ∧ c.code = M.2.1 ∧ meth.sig.returnType = M.2.2.2.1 ∧ c.maxLocals = M.2.2.1 ∧ s.vm.findClass M.1.cls = some m.cls ∧ (∀ w ∈ xT, w.before args s = true) ∧ va_K D vwCl (xtys cy) s ∧ base ≤ s.heap.size ∧ meth.locks = false ∧ meth.name = M.1.name ∧ xXt s
/-- the return instruction at pc gives v -/
def xRi (M : xM) (pc : Nat) (v : Option xV) : Prop := match v with
  | none => decode M.2.1 pc = .ok (.return_, 1) ∧ M.2.2.2.1 = none
  | some (.inl x) => decode M.2.1 pc = .ok (.ireturn, 1) ∧ (M.2.2.2.1 = some .int ∨ (M.2.2.2.1 = some .boolean ∧ (x = 0 ∨ x = 1)))
  | some (.inr (.inl _)) => decode M.2.1 pc = .ok (.lreturn, 1) ∧ M.2.2.2.1 = some .long
  | some (.inr (.inr _)) => False
def xZ (M : xM) (D : va_G) (cy : Nat → ClassId) (base : Nat) (Q : xQ) (p : Program) (l : Launch) (e : Env) (s : State) (m : MethodId) (args : Array Value) (below : List Frame) (meth : Method) (c : Code) (Z : State → Prop) : Prop :=
  ∀ (v : Option xV) (sh : List (Nat × Nat)) (ν : Nat → Nat → Option Nat) (μ : Nat → Nat → Int) (H : Heap) (locs : List Loc) (pc : Nat) (lsA : Array Slot), Q v sh ν μ → xRep D cy base sh ν μ H → (∀ w, v = some w → xok sh.length w) → va_S (fun q : Nat => base ≤ q) s.heap H locs → xRi M pc v →
    W p l e M.2.2.2.2 s m args below meth c H locs M.2.2.2.2.cells M.2.2.2.2.slots Z (F0 m pc lsA (v.toList.map (xtr base)))
/-- THE JUDGEMENT: from method M at pc, with these variables, this stack, this memory (and k cells of n slots made so far), the method ends, with Q -/
def X (M : xM) (pc : Nat) (ls : List (Nat × xV)) (st : List xV) (sh : List (Nat × Nat)) (ν : Nat → Nat → Option Nat) (μ : Nat → Nat → Int) (k n : Nat) (Q : xQ) : Prop :=
  ∀ (D : va_G) (cy : Nat → ClassId) (base : Nat) (p : Program) (l : Launch) (e : Env) (s : State) (m : MethodId) (args : Array Value) (below : List Frame) (meth : Method) (c : Code) (Z : State → Prop), xC M D cy base p s m args meth c → xZ M D cy base Q p l e s m args below meth c Z →
    ∀ (H : Heap) (locs : List Loc) (lsA : Array Slot), xRep D cy base sh ν μ H → va_S (fun q : Nat => base ≤ q) s.heap H locs → lv_has lsA M.2.2.1 (ls.map fun q => (q.1, xtr base q.2)) → (∀ q ∈ ls, xok sh.length q.2) → (∀ v ∈ st, xok sh.length v) →
      W p l e M.2.2.2.2 s m args below meth c H locs k n Z (F0 m pc lsA (st.map (xtr base)))
section XR
variable {M : xM} {pc : Nat} {ls : List (Nat × xV)} {st : List xV} {sh : List (Nat × Nat)} {ν : Nat → Nat → Option Nat} {μ : Nat → Nat → Int} {k n : Nat} {Q : xQ}
theorem X.eq {pc' : Nat} {ls' : List (Nat × xV)} {st' : List xV} (h1 : pc = pc') (h2 : ls = ls') (h3 : st = st') (K : X M pc' ls' st' sh ν μ k n Q) : X M pc ls st sh ν μ k n Q := by
  subst h1; subst h2; subst h3; exact K
theorem X.stq {st' : List xV} (h3 : st = st') (K : X M pc ls st' sh ν μ k n Q) : X M pc ls st sh ν μ k n Q := h3 ▸ K
theorem X.mu {μ' : Nat → Nat → Int} (h : μ = μ') (K : X M pc ls st sh ν μ' k n Q) : X M pc ls st sh ν μ k n Q := h ▸ K
/-- fewer variables, in another order -/
theorem X.sub {ls' : List (Nat × xV)} (h : ∀ q ∈ ls', q ∈ ls) (K : X M pc ls' st sh ν μ k n Q) : X M pc ls st sh ν μ k n Q := by
  intro D cy base p l e s m args below meth c Z hC hZ H locs lsA hR hS hl okl oks
  refine K D cy base p l e s m args below meth c Z hC hZ H locs lsA hR hS ⟨hl.1, hl.2.1, fun q hq => ?_⟩ (fun q hq => okl q (h q hq)) oks
  obtain ⟨r, hr, rfl⟩ := List.mem_map.mp hq
  exact hl.2.2 _ (List.mem_map.mpr ⟨r, h r hr, rfl⟩)
/-- what the pure state's numbers are known to be -/
theorem X.ok (K : (∀ q ∈ ls, xok sh.length q.2) → (∀ v ∈ st, xok sh.length v) → xOKh sh ν μ → X M pc ls st sh ν μ k n Q) : X M pc ls st sh ν μ k n Q := by
  intro D cy base p l e s m args below meth c Z hC hZ H locs lsA hR hS hl okl oks
  exact K okl oks hR.2.2 D cy base p l e s m args below meth c Z hC hZ H locs lsA hR hS hl okl oks
/-- a step that touches the stack alone -/
theorem X.stk {pc' : Nat} {st' : List xV} (hok : (∀ v ∈ st, xok sh.length v) → ∀ v ∈ st', xok sh.length v)
    (h : ∀ (base : Nat) (p : Program) (l : Launch) (e : Env) (s : State) (m : MethodId) (args : Array Value) (below : List Frame) (meth : Method) (c : Code) (Z : State → Prop) (H : Heap) (locs : List Loc) (lsA : Array Slot), p.tables.exec = Jvm.exec → c.code = M.2.1 → s.vm.findClass M.1.cls = some m.cls → (∀ w ∈ xT, w.before args s = true) → (∀ v ∈ st, xok sh.length v) →
      W p l e M.2.2.2.2 s m args below meth c H locs k n Z (F0 m pc' lsA (st'.map (xtr base))) → W p l e M.2.2.2.2 s m args below meth c H locs k n Z (F0 m pc lsA (st.map (xtr base))))
    (K : X M pc' ls st' sh ν μ k n Q) : X M pc ls st sh ν μ k n Q := by
  intro D cy base p l e s m args below meth c Z hC hZ H locs lsA hR hS hl okl oks
  exact h base p l e s m args below meth c Z H locs lsA hC.1 hC.2.1 hC.2.2.2.2.1 hC.2.2.2.2.2.1 oks (K D cy base p l e s m args below meth c Z hC hZ H locs lsA hR hS hl okl (hok oks))
theorem x_c0 {K : Nat} {v : xV} {st : List xV} (h : xok K v) (hs : ∀ u ∈ st, xok K u) : ∀ u ∈ v :: st, xok K u := fun u hu => (List.mem_cons.mp hu).elim (fun e => e ▸ h) (hs u)
theorem x_t {K : Nat} {v : xV} {st : List xV} (hs : ∀ u ∈ v :: st, xok K u) : ∀ u ∈ st, xok K u := fun u hu => hs u (List.mem_cons_of_mem _ hu)
theorem x_h {K : Nat} {v : xV} {st : List xV} (hs : ∀ u ∈ v :: st, xok K u) : xok K v := hs v List.mem_cons_self
theorem x_cI {K : Nat} {x : Int} {st : List xV} (h : xi32 x) (hs : ∀ u ∈ st, xok K u) : ∀ u ∈ vI x :: st, xok K u := x_c0 (v := vI x) h hs
theorem x_cL {K : Nat} {x : Int} {st : List xV} (h : xi64 x) (hs : ∀ u ∈ st, xok K u) : ∀ u ∈ vL x :: st, xok K u := x_c0 (v := vL x) h hs
theorem x_hI {K : Nat} {x : Int} {st : List xV} (hs : ∀ u ∈ vI x :: st, xok K u) : xi32 x := hs _ List.mem_cons_self
theorem x_hL {K : Nat} {x : Int} {st : List xV} (hs : ∀ u ∈ vL x :: st, xok K u) : xi64 x := hs _ List.mem_cons_self
theorem X.goto {off : Int} {tgt : Nat} (d : decode M.2.1 pc = .ok (.goto off, 3)) (ht : (pc : Int) + off = (tgt : Int)) (K : X M tgt ls st sh ν μ k n Q) : X M pc ls st sh ν μ k n Q :=
  X.stk (fun h => h) (fun base p l e s m args below meth c Z H locs lsA hx hb _ _ _ W => lv_goto hx hb d ht W) K
theorem X.iconst {x : Int} (d : decode M.2.1 pc = .ok (.iconst x, 1)) (hx : xi32 x) (K : X M (pc + 1) ls (vI x :: st) sh ν μ k n Q) : X M pc ls st sh ν μ k n Q :=
  X.stk (fun h => x_cI hx h) (fun base p l e s m args below meth c Z H locs lsA hx hb _ _ _ W => lv_iconst hx hb d rfl W) K
theorem X.bipush {x y : Int} (d : decode M.2.1 pc = .ok (.bipush x, 2)) (hy : (Int8.ofInt x).toInt32 = Int32.ofInt y) (hx : xi32 y) (K : X M (pc + 2) ls (vI y :: st) sh ν μ k n Q) : X M pc ls st sh ν μ k n Q :=
  X.stk (fun h => x_cI hx h) (fun base p l e s m args below meth c Z H locs lsA hx hb _ _ _ W => lv_bipush hx hb d hy W) K
theorem X.sipush {x y : Int} (d : decode M.2.1 pc = .ok (.sipush x, 3)) (hy : (Int16.ofInt x).toInt32 = Int32.ofInt y) (hx : xi32 y) (K : X M (pc + 3) ls (vI y :: st) sh ν μ k n Q) : X M pc ls st sh ν μ k n Q :=
  X.stk (fun h => x_cI hx h) (fun base p l e s m args below meth c Z H locs lsA hx hb _ _ _ W => lv_sipush hx hb d hy W) K
theorem X.lconst {x : Fin 2} {y : Int} (d : decode M.2.1 pc = .ok (.lconst x, 1)) (hy : Int64.ofNat (x : Nat) = Int64.ofInt y) (hx : xi64 y) (K : X M (pc + 1) ls (vL y :: st) sh ν μ k n Q) : X M pc ls st sh ν μ k n Q :=
  X.stk (fun h => x_cL hx h) (fun base p l e s m args below meth c Z H locs lsA hx hb _ _ _ W => lv_lconst hx hb d hy W) K
theorem X.ldc {x : Int32} {y : Int} {i : Nat} (d : decode M.2.1 pc = .ok (.ldc i, 2)) (hw : Cond.constant M.1.cls i x ∈ xT) (hy : x = Int32.ofInt y) (hx : xi32 y) (K : X M (pc + 2) ls (vI y :: st) sh ν μ k n Q) : X M pc ls st sh ν μ k n Q :=
  X.stk (fun h => x_cI hx h) (fun base p l e s m args below meth c Z H locs lsA hx hb ho ht _ W => lv_ldc hx hb ho (ht _ hw) d (by subst hy; exact W)) K
theorem X.ldc2 {x : Int64} {y : Int} {i : Nat} (d : decode M.2.1 pc = .ok (.ldc2_w i, 3)) (hw : Cond.constantLong M.1.cls i x ∈ xT) (hy : x = Int64.ofInt y) (hx : xi64 y) (K : X M (pc + 3) ls (vL y :: st) sh ν μ k n Q) : X M pc ls st sh ν μ k n Q :=
  X.stk (fun h => x_cL hx h) (fun base p l e s m args below meth c Z H locs lsA hx hb ho ht _ W => lv_ldc2 hx hb ho (ht _ hw) d (by subst hy; exact W)) K
theorem X.iadd {a b : Int} (d : decode M.2.1 pc = .ok (.iadd, 1)) (K : X M (pc + 1) ls (vI (w32 (a + b)) :: st) sh ν μ k n Q) : X M pc ls (vI b :: vI a :: st) sh ν μ k n Q :=
  X.stk (fun h => x_cI (w32_r _) (x_t (x_t h))) (fun base p l e s m args below meth c Z H locs lsA hx hb _ _ _ W => lv_iadd hx hb d (by rw [x32_add]; exact W)) K
theorem X.isub {a b : Int} (d : decode M.2.1 pc = .ok (.isub, 1)) (K : X M (pc + 1) ls (vI (w32 (a - b)) :: st) sh ν μ k n Q) : X M pc ls (vI b :: vI a :: st) sh ν μ k n Q :=
  X.stk (fun h => x_cI (w32_r _) (x_t (x_t h))) (fun base p l e s m args below meth c Z H locs lsA hx hb _ _ _ W => lv_isub hx hb d (by rw [x32_sub]; exact W)) K
theorem X.imul {a b : Int} (d : decode M.2.1 pc = .ok (.imul, 1)) (K : X M (pc + 1) ls (vI (w32 (a * b)) :: st) sh ν μ k n Q) : X M pc ls (vI b :: vI a :: st) sh ν μ k n Q :=
  X.stk (fun h => x_cI (w32_r _) (x_t (x_t h))) (fun base p l e s m args below meth c Z H locs lsA hx hb _ _ _ W => lv_imul hx hb d (by rw [x32_mul]; exact W)) K
theorem X.idiv {a b : Int} (d : decode M.2.1 pc = .ok (.idiv, 1)) (h0 : b ≠ 0) (K : X M (pc + 1) ls (vI (w32 (Int.tdiv a b)) :: st) sh ν μ k n Q) : X M pc ls (vI b :: vI a :: st) sh ν μ k n Q :=
  X.stk (fun h => x_cI (w32_r _) (x_t (x_t h))) (fun base p l e s m args below meth c Z H locs lsA hx hb _ _ ho W => lv_idiv hx hb d (fun q => h0 ((x32_eq (x_hI ho) xi32_0).mp q)) (by rw [x32_div (x_hI (x_t ho)) (x_hI ho)]; exact W)) K
theorem X.irem {a b : Int} (d : decode M.2.1 pc = .ok (.irem, 1)) (h0 : b ≠ 0) (K : X M (pc + 1) ls (vI (w32 (Int.tmod a b)) :: st) sh ν μ k n Q) : X M pc ls (vI b :: vI a :: st) sh ν μ k n Q :=
  X.stk (fun h => x_cI (w32_r _) (x_t (x_t h))) (fun base p l e s m args below meth c Z H locs lsA hx hb _ _ ho W => lv_irem hx hb d (fun q => h0 ((x32_eq (x_hI ho) xi32_0).mp q)) (by rw [x32_rem (x_hI (x_t ho)) (x_hI ho)]; exact W)) K
theorem X.ladd {a b : Int} (d : decode M.2.1 pc = .ok (.ladd, 1)) (K : X M (pc + 1) ls (vL (w64 (a + b)) :: st) sh ν μ k n Q) : X M pc ls (vL b :: vL a :: st) sh ν μ k n Q :=
  X.stk (fun h => x_cL (w64_r _) (x_t (x_t h))) (fun base p l e s m args below meth c Z H locs lsA hx hb _ _ _ W => lv_ladd hx hb d (by rw [x64_add]; exact W)) K
theorem X.lmul {a b : Int} (d : decode M.2.1 pc = .ok (.lmul, 1)) (K : X M (pc + 1) ls (vL (w64 (a * b)) :: st) sh ν μ k n Q) : X M pc ls (vL b :: vL a :: st) sh ν μ k n Q :=
  X.stk (fun h => x_cL (w64_r _) (x_t (x_t h))) (fun base p l e s m args below meth c Z H locs lsA hx hb _ _ _ W => lv_lmul hx hb d (by rw [x64_mul]; exact W)) K
theorem xi64_0 : xi64 0 := ⟨by decide, by decide⟩
theorem X.ldiv {a b : Int} (d : decode M.2.1 pc = .ok (.ldiv, 1)) (h0 : b ≠ 0) (K : X M (pc + 1) ls (vL (w64 (Int.tdiv a b)) :: st) sh ν μ k n Q) : X M pc ls (vL b :: vL a :: st) sh ν μ k n Q :=
  X.stk (fun h => x_cL (w64_r _) (x_t (x_t h))) (fun base p l e s m args below meth c Z H locs lsA hx hb _ _ ho W => lv_ldiv hx hb d (fun q => h0 ((x64_eq (x_hL ho) xi64_0).mp q)) (by rw [x64_div (x_hL (x_t ho)) (x_hL ho)]; exact W)) K
theorem X.lrem {a b : Int} (d : decode M.2.1 pc = .ok (.lrem, 1)) (h0 : b ≠ 0) (K : X M (pc + 1) ls (vL (w64 (Int.tmod a b)) :: st) sh ν μ k n Q) : X M pc ls (vL b :: vL a :: st) sh ν μ k n Q :=
  X.stk (fun h => x_cL (w64_r _) (x_t (x_t h))) (fun base p l e s m args below meth c Z H locs lsA hx hb _ _ ho W => lv_lrem hx hb d (fun q => h0 ((x64_eq (x_hL ho) xi64_0).mp q)) (by rw [x64_rem (x_hL (x_t ho)) (x_hL ho)]; exact W)) K
theorem X.iand {a b : Int} (d : decode M.2.1 pc = .ok (.iand, 1)) (K : X M (pc + 1) ls (vI (xand a b) :: st) sh ν μ k n Q) : X M pc ls (vI b :: vI a :: st) sh ν μ k n Q :=
  X.stk (fun h => x_cI (x32_r _) (x_t (x_t h))) (fun base p l e s m args below meth c Z H locs lsA hx hb _ _ _ W => lv_iand hx hb d (by have W := W; simp only [List.map_cons, xtr, xand, Int32.ofInt_toInt] at W; exact W)) K
theorem X.ior {a b : Int} (d : decode M.2.1 pc = .ok (.ior, 1)) (K : X M (pc + 1) ls (vI (xor_ a b) :: st) sh ν μ k n Q) : X M pc ls (vI b :: vI a :: st) sh ν μ k n Q :=
  X.stk (fun h => x_cI (x32_r _) (x_t (x_t h))) (fun base p l e s m args below meth c Z H locs lsA hx hb _ _ _ W => lv_ior hx hb d (by have W := W; simp only [List.map_cons, xtr, xor_, Int32.ofInt_toInt] at W; exact W)) K
theorem X.ixor {a b : Int} (d : decode M.2.1 pc = .ok (.ixor, 1)) (K : X M (pc + 1) ls (vI (xxor a b) :: st) sh ν μ k n Q) : X M pc ls (vI b :: vI a :: st) sh ν μ k n Q :=
  X.stk (fun h => x_cI (x32_r _) (x_t (x_t h))) (fun base p l e s m args below meth c Z H locs lsA hx hb _ _ _ W => lv_ixor hx hb d (by have W := W; simp only [List.map_cons, xtr, xxor, Int32.ofInt_toInt] at W; exact W)) K
theorem X.ishl {a b : Int} (d : decode M.2.1 pc = .ok (.ishl, 1)) (K : X M (pc + 1) ls (vI (xshl a b) :: st) sh ν μ k n Q) : X M pc ls (vI b :: vI a :: st) sh ν μ k n Q :=
  X.stk (fun h => x_cI (x32_r _) (x_t (x_t h))) (fun base p l e s m args below meth c Z H locs lsA hx hb _ _ _ W => lv_ishl hx hb d (by have W := W; simp only [List.map_cons, xtr, xshl, Int32.ofInt_toInt] at W; exact W)) K
theorem X.ishr {a b : Int} (d : decode M.2.1 pc = .ok (.ishr, 1)) (K : X M (pc + 1) ls (vI (xshr a b) :: st) sh ν μ k n Q) : X M pc ls (vI b :: vI a :: st) sh ν μ k n Q :=
  X.stk (fun h => x_cI (x32_r _) (x_t (x_t h))) (fun base p l e s m args below meth c Z H locs lsA hx hb _ _ _ W => lv_ishr hx hb d (by have W := W; simp only [List.map_cons, xtr, xshr, Int32.ofInt_toInt] at W; exact W)) K
theorem X.iushr {a b : Int} (d : decode M.2.1 pc = .ok (.iushr, 1)) (K : X M (pc + 1) ls (vI (xushr a b) :: st) sh ν μ k n Q) : X M pc ls (vI b :: vI a :: st) sh ν μ k n Q :=
  X.stk (fun h => x_cI (x32_r _) (x_t (x_t h))) (fun base p l e s m args below meth c Z H locs lsA hx hb _ _ _ W => lv_iushr hx hb d rfl (by have W := W; simp only [List.map_cons, xtr, xushr, Int32.ofInt_toInt] at W; exact W)) K
theorem X.i2l {a : Int} (d : decode M.2.1 pc = .ok (.i2l, 1)) (K : X M (pc + 1) ls (vL a :: st) sh ν μ k n Q) : X M pc ls (vI a :: st) sh ν μ k n Q := by
  refine X.ok fun _ oks _ => ?_
  have h : xi32 a := x_hI oks
  have h2 : xi64 a := by unfold xi32 at h; unfold xi64; omega
  exact X.stk (fun h => x_cL h2 (x_t h)) (fun base p l e s m args below meth c Z H locs lsA hx hb _ _ ho W => lv_i2l hx hb d (Int64.toInt.inj (by rw [Int32.toInt_toInt64, x32_to h, x64_to h2])) W) K
theorem X.l2i {a : Int} (d : decode M.2.1 pc = .ok (.l2i, 1)) (K : X M (pc + 1) ls (vI (w32 a) :: st) sh ν μ k n Q) : X M pc ls (vL a :: st) sh ν μ k n Q := by
  refine X.ok fun _ oks _ => ?_
  have h : xi64 a := x_hL oks
  exact X.stk (fun h => x_cI (w32_r _) (x_t h)) (fun base p l e s m args below meth c Z H locs lsA hx hb _ _ ho W => lv_l2i hx hb d (Int32.toInt.inj (by rw [Int64.toInt_toInt32, x64_to h, x32_to (w32_r _)]; rfl)) W) K
theorem X.i2b {a : Int} (d : decode M.2.1 pc = .ok (.i2b, 1)) (K : X M (pc + 1) ls (vI (w8 a) :: st) sh ν μ k n Q) : X M pc ls (vI a :: st) sh ν μ k n Q := by
  refine X.ok fun _ oks _ => ?_
  have h : xi32 a := x_hI oks
  have h2 : xi32 (w8 a) := by have := w8_r a; unfold xi32; omega
  exact X.stk (fun h => x_cI h2 (x_t h)) (fun base p l e s m args below meth c Z H locs lsA hx hb _ _ ho W => lv_i2b hx hb d (Int32.toInt.inj (by rw [Int8.toInt_toInt32, Int32.toInt_toInt8, x32_to h, x32_to h2]; rfl)) W) K
theorem X.lcmp {a b : Int} (d : decode M.2.1 pc = .ok (.lcmp, 1)) (K : X M (pc + 1) ls (vI (xlcmp a b) :: st) sh ν μ k n Q) : X M pc ls (vL b :: vL a :: st) sh ν μ k n Q :=
  X.stk (fun h => x_cI (xlcmp_r _ _) (x_t (x_t h))) (fun base p l e s m args below meth c Z H locs lsA hx hb _ _ ho w9 => W.lcmp hx hb d (by rw [x_lcmp (x_hL (x_t ho)) (x_hL ho)]; exact w9)) K
theorem xtr_cat (base : Nat) (v : xV) : (xtr base v).category = xcat v := by
  rcases v with x | x | _ | x <;> rfl
theorem X.dup {v : xV} (d : decode M.2.1 pc = .ok (.dup, 1)) (hc : xcat v = 1) (K : X M (pc + 1) ls (v :: v :: st) sh ν μ k n Q) : X M pc ls (v :: st) sh ν μ k n Q :=
  X.stk (fun h => x_c0 (x_h h) h) (fun base p l e s m args below meth c Z H locs lsA hx hb _ _ ho W => lv_dup hx hb d (by rw [xtr_cat]; exact hc) W) K
theorem X.pop {v : xV} (d : decode M.2.1 pc = .ok (.pop, 1)) (hc : xcat v = 1) (K : X M (pc + 1) ls st sh ν μ k n Q) : X M pc ls (v :: st) sh ν μ k n Q :=
  X.stk (fun h => x_t h) (fun base p l e s m args below meth c Z H locs lsA hx hb _ _ ho W => lv_pop hx hb d (by rw [xtr_cat]; exact hc) W) K
theorem X.dup_x1 {u v : xV} (d : decode M.2.1 pc = .ok (.dup_x1, 1)) (hc : xcat v = 1) (hc2 : xcat u = 1) (K : X M (pc + 1) ls (v :: u :: v :: st) sh ν μ k n Q) : X M pc ls (v :: u :: st) sh ν μ k n Q :=
  X.stk (fun h => x_c0 (x_h h) (x_c0 (x_h (x_t h)) (x_c0 (x_h h) (x_t (x_t h))))) (fun base p l e s m args below meth c Z H locs lsA hx hb _ _ ho W => lv_dup_x1 hx hb d (by rw [xtr_cat]; exact hc) (by rw [xtr_cat]; exact hc2) W) K
theorem X.dup2 {u v : xV} (d : decode M.2.1 pc = .ok (.dup2, 1)) (hc : xcat v = 1) (hc2 : xcat u = 1) (K : X M (pc + 1) ls (v :: u :: v :: u :: st) sh ν μ k n Q) : X M pc ls (v :: u :: st) sh ν μ k n Q :=
  X.stk (fun h => x_c0 (x_h h) (x_c0 (x_h (x_t h)) h)) (fun base p l e s m args below meth c Z H locs lsA hx hb _ _ ho W => lv_dup2_11 hx hb d (by rw [xtr_cat]; exact hc) (by rw [xtr_cat]; exact hc2) W) K
end XR
end
section
/-! rules: variables, branches, memory, calls, ends -/
theorem xN_i {i : Int} {N : Nat} (h0 : 0 ≤ i) (h1 : i < N) (hr : xi32 i) : vp_in (Int32.ofInt i) N ∧ (Int32.ofInt i).toNatClampNeg = i.toNat := by
  refine ⟨vp_in_iff.mpr ?_, ?_⟩
  · rw [x32_to hr]; exact ⟨h0, h1⟩
  · rw [← Int32.toNat_toInt, x32_to hr]
def xflt (i : Nat) (ls : List (Nat × xV)) : List (Nat × xV) := ls.filter (fun q => !(q.1 == i) && !(q.1 + 1 == i && xcat q.2 == 2))
def xflL (i : Nat) (ls : List (Nat × xV)) : List (Nat × xV) := ls.filter (fun q => !(q.1 == i) && (!(q.1 == i + 1) && !(q.1 + 1 == i && xcat q.2 == 2)))
theorem xflt_map (base i : Nat) (ls : List (Nat × xV)) : (ls.map fun q => (q.1, xtr base q.2)).filter (fun q => !(q.1 == i) && !(q.1 + 1 == i && q.2.category == 2)) = (xflt i ls).map fun q => (q.1, xtr base q.2) := by
  unfold xflt
  rw [List.filter_map]
  congr 1
  apply List.filter_congr
  intro q _
  simp [Function.comp, xtr_cat]
theorem xflL_map (base i : Nat) (ls : List (Nat × xV)) : (ls.map fun q => (q.1, xtr base q.2)).filter (fun q => !(q.1 == i) && (!(q.1 == i + 1) && !(q.1 + 1 == i && q.2.category == 2))) = (xflL i ls).map fun q => (q.1, xtr base q.2) := by
  unfold xflL
  rw [List.filter_map]
  congr 1
  apply List.filter_congr
  intro q _
  simp [Function.comp, xtr_cat]
theorem xflt_ok {K i : Nat} {v : xV} {ls : List (Nat × xV)} (hv : xok K v) (h : ∀ q ∈ ls, xok K q.2) : ∀ q ∈ (i, v) :: xflt i ls, xok K q.2 := fun q hq => (List.mem_cons.mp hq).elim (fun e => by rw [e]; exact hv) (fun e => h q (List.mem_filter.mp e).1)
theorem xflL_ok {K i : Nat} {v : xV} {ls : List (Nat × xV)} (hv : xok K v) (h : ∀ q ∈ ls, xok K q.2) : ∀ q ∈ (i, v) :: xflL i ls, xok K q.2 := fun q hq => (List.mem_cons.mp hq).elim (fun e => by rw [e]; exact hv) (fun e => h q (List.mem_filter.mp e).1)
theorem x_lat {lsA : Array Slot} {nL base : Nat} {ls : List (Nat × xV)} (h : lv_has lsA nL (ls.map fun q => (q.1, xtr base q.2))) (j : Nat) {i : Nat} {v : xV} (hj : ls[j]? = some (i, v)) : lsA[i]? = some (.val (xtr base v)) := by
  refine lv_at h j ?_
  rw [List.getElem?_map, hj]
  rfl
section XR
variable {M : xM} {pc : Nat} {ls : List (Nat × xV)} {st : List xV} {sh : List (Nat × Nat)} {ν : Nat → Nat → Option Nat} {μ : Nat → Nat → Int} {k n : Nat} {Q : xQ}
theorem X.iload {i : Nat} {x : Int} (j : Nat) (d : decode M.2.1 pc = .ok (.iload i, 2)) (hj : ls[j]? = some (i, vI x)) (K : X M (pc + 2) ls (vI x :: st) sh ν μ k n Q) : X M pc ls st sh ν μ k n Q := by
  intro D cy base p l e s m args below meth c Z hC hZ H locs lsA hR hS hl okl oks
  exact lv_iload hC.1 hC.2.1 d (x_lat hl j hj) (K D cy base p l e s m args below meth c Z hC hZ H locs lsA hR hS hl okl (x_c0 (v := vI x) (okl _ (List.mem_of_getElem? hj)) oks))
theorem X.iload_n {i : Nat} {x : Int} {f : Fin 4} (j : Nat) (d : decode M.2.1 pc = .ok (.iload_n f, 1)) (hi : (f : Nat) = i) (hj : ls[j]? = some (i, vI x)) (K : X M (pc + 1) ls (vI x :: st) sh ν μ k n Q) : X M pc ls st sh ν μ k n Q := by
  intro D cy base p l e s m args below meth c Z hC hZ H locs lsA hR hS hl okl oks
  exact lv_iload_n hC.1 hC.2.1 d hi (x_lat hl j hj) (K D cy base p l e s m args below meth c Z hC hZ H locs lsA hR hS hl okl (x_c0 (v := vI x) (okl _ (List.mem_of_getElem? hj)) oks))
theorem X.lload {i : Nat} {x : Int} (j : Nat) (d : decode M.2.1 pc = .ok (.lload i, 2)) (hj : ls[j]? = some (i, vL x)) (K : X M (pc + 2) ls (vL x :: st) sh ν μ k n Q) : X M pc ls st sh ν μ k n Q := by
  intro D cy base p l e s m args below meth c Z hC hZ H locs lsA hR hS hl okl oks
  exact lv_lload hC.1 hC.2.1 d (x_lat hl j hj) (K D cy base p l e s m args below meth c Z hC hZ H locs lsA hR hS hl okl (x_c0 (v := vL x) (okl _ (List.mem_of_getElem? hj)) oks))
theorem X.lload_n {i : Nat} {x : Int} {f : Fin 4} (j : Nat) (d : decode M.2.1 pc = .ok (.lload_n f, 1)) (hi : (f : Nat) = i) (hj : ls[j]? = some (i, vL x)) (K : X M (pc + 1) ls (vL x :: st) sh ν μ k n Q) : X M pc ls st sh ν μ k n Q := by
  intro D cy base p l e s m args below meth c Z hC hZ H locs lsA hR hS hl okl oks
  exact lv_lload_n hC.1 hC.2.1 d hi (x_lat hl j hj) (K D cy base p l e s m args below meth c Z hC hZ H locs lsA hR hS hl okl (x_c0 (v := vL x) (okl _ (List.mem_of_getElem? hj)) oks))
theorem X.aload {i : Nat} {x : Nat} (j : Nat) (d : decode M.2.1 pc = .ok (.aload i, 2)) (hj : ls[j]? = some (i, vR x)) (K : X M (pc + 2) ls (vR x :: st) sh ν μ k n Q) : X M pc ls st sh ν μ k n Q := by
  intro D cy base p l e s m args below meth c Z hC hZ H locs lsA hR hS hl okl oks
  exact lv_aload hC.1 hC.2.1 d (x_lat hl j hj) (K D cy base p l e s m args below meth c Z hC hZ H locs lsA hR hS hl okl (x_c0 (v := vR x) (okl _ (List.mem_of_getElem? hj)) oks))
theorem X.aload_n {i : Nat} {x : Nat} {f : Fin 4} (j : Nat) (d : decode M.2.1 pc = .ok (.aload_n f, 1)) (hi : (f : Nat) = i) (hj : ls[j]? = some (i, vR x)) (K : X M (pc + 1) ls (vR x :: st) sh ν μ k n Q) : X M pc ls st sh ν μ k n Q := by
  intro D cy base p l e s m args below meth c Z hC hZ H locs lsA hR hS hl okl oks
  exact lv_aload_n hC.1 hC.2.1 d hi (x_lat hl j hj) (K D cy base p l e s m args below meth c Z hC hZ H locs lsA hR hS hl okl (x_c0 (v := vR x) (okl _ (List.mem_of_getElem? hj)) oks))
theorem X.istore {i : Nat} {x : Int} {ls' : List (Nat × xV)} (d : decode M.2.1 pc = .ok (.istore i, 2)) (hi : i < M.2.2.1) (hl' : (i, vI x) :: xflt i ls = ls') (K : X M (pc + 2) ls' st sh ν μ k n Q) : X M pc ls (vI x :: st) sh ν μ k n Q := by
  subst hl'
  intro D cy base p l e s m args below meth c Z hC hZ H locs lsA hR hS hl okl oks
  exact lv_istore hC.1 hC.2.1 d hl hi (by rw [xflt_map]; rfl) fun ls2 hl2 => K D cy base p l e s m args below meth c Z hC hZ H locs ls2 hR hS hl2 (xflt_ok (x_h oks) okl) (x_t oks)
theorem X.istore_n {i : Nat} {x : Int} {f : Fin 4} {ls' : List (Nat × xV)} (d : decode M.2.1 pc = .ok (.istore_n f, 1)) (hf : (f : Nat) = i) (hi : i < M.2.2.1) (hl' : (i, vI x) :: xflt i ls = ls') (K : X M (pc + 1) ls' st sh ν μ k n Q) : X M pc ls (vI x :: st) sh ν μ k n Q := by
  subst hl'
  intro D cy base p l e s m args below meth c Z hC hZ H locs lsA hR hS hl okl oks
  exact lv_istore_n hC.1 hC.2.1 d hf hl hi (by rw [xflt_map]; rfl) fun ls2 hl2 => K D cy base p l e s m args below meth c Z hC hZ H locs ls2 hR hS hl2 (xflt_ok (x_h oks) okl) (x_t oks)
theorem X.lstore {i : Nat} {x : Int} {ls' : List (Nat × xV)} (d : decode M.2.1 pc = .ok (.lstore i, 2)) (hi : i + 1 < M.2.2.1) (hl' : (i, vL x) :: xflL i ls = ls') (K : X M (pc + 2) ls' st sh ν μ k n Q) : X M pc ls (vL x :: st) sh ν μ k n Q := by
  subst hl'
  intro D cy base p l e s m args below meth c Z hC hZ H locs lsA hR hS hl okl oks
  exact lv_lstore hC.1 hC.2.1 d hl hi (by rw [xflL_map]; rfl) fun ls2 hl2 => K D cy base p l e s m args below meth c Z hC hZ H locs ls2 hR hS hl2 (xflL_ok (x_h oks) okl) (x_t oks)
theorem X.lstore_n {i : Nat} {x : Int} {f : Fin 4} {ls' : List (Nat × xV)} (d : decode M.2.1 pc = .ok (.lstore_n f, 1)) (hf : (f : Nat) = i) (hi : i + 1 < M.2.2.1) (hl' : (i, vL x) :: xflL i ls = ls') (K : X M (pc + 1) ls' st sh ν μ k n Q) : X M pc ls (vL x :: st) sh ν μ k n Q := by
  subst hl'
  intro D cy base p l e s m args below meth c Z hC hZ H locs lsA hR hS hl okl oks
  exact lv_lstore_n hC.1 hC.2.1 d hf hl hi (by rw [xflL_map]; rfl) fun ls2 hl2 => K D cy base p l e s m args below meth c Z hC hZ H locs ls2 hR hS hl2 (xflL_ok (x_h oks) okl) (x_t oks)
theorem X.astore {i : Nat} {x : Nat} {ls' : List (Nat × xV)} (d : decode M.2.1 pc = .ok (.astore i, 2)) (hi : i < M.2.2.1) (hl' : (i, vR x) :: xflt i ls = ls') (K : X M (pc + 2) ls' st sh ν μ k n Q) : X M pc ls (vR x :: st) sh ν μ k n Q := by
  subst hl'
  intro D cy base p l e s m args below meth c Z hC hZ H locs lsA hR hS hl okl oks
  exact lv_astore hC.1 hC.2.1 d hl hi (by rw [xflt_map]; rfl) fun ls2 hl2 => K D cy base p l e s m args below meth c Z hC hZ H locs ls2 hR hS hl2 (xflt_ok (x_h oks) okl) (x_t oks)
theorem X.astore_n {i : Nat} {x : Nat} {f : Fin 4} {ls' : List (Nat × xV)} (d : decode M.2.1 pc = .ok (.astore_n f, 1)) (hf : (f : Nat) = i) (hi : i < M.2.2.1) (hl' : (i, vR x) :: xflt i ls = ls') (K : X M (pc + 1) ls' st sh ν μ k n Q) : X M pc ls (vR x :: st) sh ν μ k n Q := by
  subst hl'
  intro D cy base p l e s m args below meth c Z hC hZ H locs lsA hR hS hl okl oks
  exact lv_astore_n hC.1 hC.2.1 d hf hl hi (by rw [xflt_map]; rfl) fun ls2 hl2 => K D cy base p l e s m args below meth c Z hC hZ H locs ls2 hR hS hl2 (xflt_ok (x_h oks) okl) (x_t oks)
theorem X.iinc {i : Nat} {x y : Int} {ls' : List (Nat × xV)} (j : Nat) (d : decode M.2.1 pc = .ok (.iinc i y, 3)) (hj : ls[j]? = some (i, vI x)) (hi : i < M.2.2.1) (hl' : (i, vI (w32 (x + y))) :: xflt i ls = ls') (K : X M (pc + 3) ls' st sh ν μ k n Q) : X M pc ls st sh ν μ k n Q := by
  subst hl'
  intro D cy base p l e s m args below meth c Z hC hZ H locs lsA hR hS hl okl oks
  exact lv_iinc (k := j) (v := Int32.ofInt (w32 (x + y))) hC.1 hC.2.1 d hl (by rw [List.getElem?_map, hj]; rfl) (x32_add x y) hi (by rw [xflt_map]; rfl) fun ls2 hl2 => K D cy base p l e s m args below meth c Z hC hZ H locs ls2 hR hS hl2 (xflt_ok (v := vI (w32 (x + y))) (w32_r _) okl) oks
theorem X.if_eq {x : Int} {off : Int} (tgt : Nat) (d : decode M.2.1 pc = .ok (.ifCond .eq off, 3)) (ht : (pc : Int) + off = (tgt : Int)) (K : (x = 0 → X M tgt ls st sh ν μ k n Q) ∧ (x ≠ 0 → X M (pc + 3) ls st sh ν μ k n Q)) : X M pc ls (vI x :: st) sh ν μ k n Q := by
  intro D cy base p l e s m args below meth c Z hC hZ H locs lsA hR hS hl okl oks
  have hx := x_hI oks
  exact lv_if_eq hC.1 hC.2.1 d ht (fun h => K.1 ((x32_eq hx xi32_0).mp h) D cy base p l e s m args below meth c Z hC hZ H locs lsA hR hS hl okl (x_t oks)) (fun h => K.2 (fun q => h ((x32_eq hx xi32_0).mpr q)) D cy base p l e s m args below meth c Z hC hZ H locs lsA hR hS hl okl (x_t oks))
theorem X.if_ne {x : Int} {off : Int} (tgt : Nat) (d : decode M.2.1 pc = .ok (.ifCond .ne off, 3)) (ht : (pc : Int) + off = (tgt : Int)) (K : (x ≠ 0 → X M tgt ls st sh ν μ k n Q) ∧ (x = 0 → X M (pc + 3) ls st sh ν μ k n Q)) : X M pc ls (vI x :: st) sh ν μ k n Q := by
  intro D cy base p l e s m args below meth c Z hC hZ H locs lsA hR hS hl okl oks
  have hx := x_hI oks
  exact lv_if_ne hC.1 hC.2.1 d ht (fun h => K.1 (fun q => h ((x32_eq hx xi32_0).mpr q)) D cy base p l e s m args below meth c Z hC hZ H locs lsA hR hS hl okl (x_t oks)) (fun h => K.2 ((x32_eq hx xi32_0).mp h) D cy base p l e s m args below meth c Z hC hZ H locs lsA hR hS hl okl (x_t oks))
theorem X.if_lt {x : Int} {off : Int} (tgt : Nat) (d : decode M.2.1 pc = .ok (.ifCond .lt off, 3)) (ht : (pc : Int) + off = (tgt : Int)) (K : (x < 0 → X M tgt ls st sh ν μ k n Q) ∧ (0 ≤ x → X M (pc + 3) ls st sh ν μ k n Q)) : X M pc ls (vI x :: st) sh ν μ k n Q := by
  intro D cy base p l e s m args below meth c Z hC hZ H locs lsA hR hS hl okl oks
  have hx := x_hI oks
  exact lv_if_lt hC.1 hC.2.1 d ht (fun h => K.1 ((x32_lt hx xi32_0).mp h) D cy base p l e s m args below meth c Z hC hZ H locs lsA hR hS hl okl (x_t oks)) (fun h => K.2 (Int.not_lt.mp fun q => h ((x32_lt hx xi32_0).mpr q)) D cy base p l e s m args below meth c Z hC hZ H locs lsA hR hS hl okl (x_t oks))
theorem X.if_ge {x : Int} {off : Int} (tgt : Nat) (d : decode M.2.1 pc = .ok (.ifCond .ge off, 3)) (ht : (pc : Int) + off = (tgt : Int)) (K : (0 ≤ x → X M tgt ls st sh ν μ k n Q) ∧ (x < 0 → X M (pc + 3) ls st sh ν μ k n Q)) : X M pc ls (vI x :: st) sh ν μ k n Q := by
  intro D cy base p l e s m args below meth c Z hC hZ H locs lsA hR hS hl okl oks
  have hx := x_hI oks
  exact lv_if_ge hC.1 hC.2.1 d ht (fun h => K.1 ((x32_le xi32_0 hx).mp h) D cy base p l e s m args below meth c Z hC hZ H locs lsA hR hS hl okl (x_t oks)) (fun h => K.2 (Int.not_le.mp fun q => h ((x32_le xi32_0 hx).mpr q)) D cy base p l e s m args below meth c Z hC hZ H locs lsA hR hS hl okl (x_t oks))
theorem X.if_gt {x : Int} {off : Int} (tgt : Nat) (d : decode M.2.1 pc = .ok (.ifCond .gt off, 3)) (ht : (pc : Int) + off = (tgt : Int)) (K : (0 < x → X M tgt ls st sh ν μ k n Q) ∧ (x ≤ 0 → X M (pc + 3) ls st sh ν μ k n Q)) : X M pc ls (vI x :: st) sh ν μ k n Q := by
  intro D cy base p l e s m args below meth c Z hC hZ H locs lsA hR hS hl okl oks
  have hx := x_hI oks
  exact lv_if_gt hC.1 hC.2.1 d ht (fun h => K.1 ((x32_lt xi32_0 hx).mp h) D cy base p l e s m args below meth c Z hC hZ H locs lsA hR hS hl okl (x_t oks)) (fun h => K.2 (Int.not_lt.mp fun q => h ((x32_lt xi32_0 hx).mpr q)) D cy base p l e s m args below meth c Z hC hZ H locs lsA hR hS hl okl (x_t oks))
theorem X.if_le {x : Int} {off : Int} (tgt : Nat) (d : decode M.2.1 pc = .ok (.ifCond .le off, 3)) (ht : (pc : Int) + off = (tgt : Int)) (K : (x ≤ 0 → X M tgt ls st sh ν μ k n Q) ∧ (0 < x → X M (pc + 3) ls st sh ν μ k n Q)) : X M pc ls (vI x :: st) sh ν μ k n Q := by
  intro D cy base p l e s m args below meth c Z hC hZ H locs lsA hR hS hl okl oks
  have hx := x_hI oks
  exact lv_if_le hC.1 hC.2.1 d ht (fun h => K.1 ((x32_le hx xi32_0).mp h) D cy base p l e s m args below meth c Z hC hZ H locs lsA hR hS hl okl (x_t oks)) (fun h => K.2 (Int.not_le.mp fun q => h ((x32_le hx xi32_0).mpr q)) D cy base p l e s m args below meth c Z hC hZ H locs lsA hR hS hl okl (x_t oks))
theorem X.icmp_eq {x y : Int} {off : Int} (tgt : Nat) (d : decode M.2.1 pc = .ok (.if_icmp .eq off, 3)) (ht : (pc : Int) + off = (tgt : Int)) (K : (x = y → X M tgt ls st sh ν μ k n Q) ∧ (x ≠ y → X M (pc + 3) ls st sh ν μ k n Q)) : X M pc ls (vI y :: vI x :: st) sh ν μ k n Q := by
  intro D cy base p l e s m args below meth c Z hC hZ H locs lsA hR hS hl okl oks
  have hx := x_hI (x_t oks)
  have hy := x_hI oks
  exact lv_icmp_eq hC.1 hC.2.1 d ht (fun h => K.1 ((x32_eq hx hy).mp h) D cy base p l e s m args below meth c Z hC hZ H locs lsA hR hS hl okl (x_t (x_t oks))) (fun h => K.2 (fun q => h ((x32_eq hx hy).mpr q)) D cy base p l e s m args below meth c Z hC hZ H locs lsA hR hS hl okl (x_t (x_t oks)))
theorem X.icmp_ne {x y : Int} {off : Int} (tgt : Nat) (d : decode M.2.1 pc = .ok (.if_icmp .ne off, 3)) (ht : (pc : Int) + off = (tgt : Int)) (K : (x ≠ y → X M tgt ls st sh ν μ k n Q) ∧ (x = y → X M (pc + 3) ls st sh ν μ k n Q)) : X M pc ls (vI y :: vI x :: st) sh ν μ k n Q := by
  intro D cy base p l e s m args below meth c Z hC hZ H locs lsA hR hS hl okl oks
  have hx := x_hI (x_t oks)
  have hy := x_hI oks
  exact lv_icmp_ne hC.1 hC.2.1 d ht (fun h => K.1 (fun q => h ((x32_eq hx hy).mpr q)) D cy base p l e s m args below meth c Z hC hZ H locs lsA hR hS hl okl (x_t (x_t oks))) (fun h => K.2 ((x32_eq hx hy).mp h) D cy base p l e s m args below meth c Z hC hZ H locs lsA hR hS hl okl (x_t (x_t oks)))
theorem X.icmp_lt {x y : Int} {off : Int} (tgt : Nat) (d : decode M.2.1 pc = .ok (.if_icmp .lt off, 3)) (ht : (pc : Int) + off = (tgt : Int)) (K : (x < y → X M tgt ls st sh ν μ k n Q) ∧ (y ≤ x → X M (pc + 3) ls st sh ν μ k n Q)) : X M pc ls (vI y :: vI x :: st) sh ν μ k n Q := by
  intro D cy base p l e s m args below meth c Z hC hZ H locs lsA hR hS hl okl oks
  have hx := x_hI (x_t oks)
  have hy := x_hI oks
  exact lv_icmp_lt hC.1 hC.2.1 d ht (fun h => K.1 ((x32_lt hx hy).mp h) D cy base p l e s m args below meth c Z hC hZ H locs lsA hR hS hl okl (x_t (x_t oks))) (fun h => K.2 (Int.not_lt.mp fun q => h ((x32_lt hx hy).mpr q)) D cy base p l e s m args below meth c Z hC hZ H locs lsA hR hS hl okl (x_t (x_t oks)))
theorem X.icmp_ge {x y : Int} {off : Int} (tgt : Nat) (d : decode M.2.1 pc = .ok (.if_icmp .ge off, 3)) (ht : (pc : Int) + off = (tgt : Int)) (K : (y ≤ x → X M tgt ls st sh ν μ k n Q) ∧ (x < y → X M (pc + 3) ls st sh ν μ k n Q)) : X M pc ls (vI y :: vI x :: st) sh ν μ k n Q := by
  intro D cy base p l e s m args below meth c Z hC hZ H locs lsA hR hS hl okl oks
  have hx := x_hI (x_t oks)
  have hy := x_hI oks
  exact lv_icmp_ge hC.1 hC.2.1 d ht (fun h => K.1 ((x32_le hy hx).mp h) D cy base p l e s m args below meth c Z hC hZ H locs lsA hR hS hl okl (x_t (x_t oks))) (fun h => K.2 (Int.not_le.mp fun q => h ((x32_le hy hx).mpr q)) D cy base p l e s m args below meth c Z hC hZ H locs lsA hR hS hl okl (x_t (x_t oks)))
theorem X.icmp_gt {x y : Int} {off : Int} (tgt : Nat) (d : decode M.2.1 pc = .ok (.if_icmp .gt off, 3)) (ht : (pc : Int) + off = (tgt : Int)) (K : (y < x → X M tgt ls st sh ν μ k n Q) ∧ (x ≤ y → X M (pc + 3) ls st sh ν μ k n Q)) : X M pc ls (vI y :: vI x :: st) sh ν μ k n Q := by
  intro D cy base p l e s m args below meth c Z hC hZ H locs lsA hR hS hl okl oks
  have hx := x_hI (x_t oks)
  have hy := x_hI oks
  exact lv_icmp_gt hC.1 hC.2.1 d ht (fun h => K.1 ((x32_lt hy hx).mp h) D cy base p l e s m args below meth c Z hC hZ H locs lsA hR hS hl okl (x_t (x_t oks))) (fun h => K.2 (Int.not_lt.mp fun q => h ((x32_lt hy hx).mpr q)) D cy base p l e s m args below meth c Z hC hZ H locs lsA hR hS hl okl (x_t (x_t oks)))
theorem X.icmp_le {x y : Int} {off : Int} (tgt : Nat) (d : decode M.2.1 pc = .ok (.if_icmp .le off, 3)) (ht : (pc : Int) + off = (tgt : Int)) (K : (x ≤ y → X M tgt ls st sh ν μ k n Q) ∧ (y < x → X M (pc + 3) ls st sh ν μ k n Q)) : X M pc ls (vI y :: vI x :: st) sh ν μ k n Q := by
  intro D cy base p l e s m args below meth c Z hC hZ H locs lsA hR hS hl okl oks
  have hx := x_hI (x_t oks)
  have hy := x_hI oks
  exact lv_icmp_le hC.1 hC.2.1 d ht (fun h => K.1 ((x32_le hx hy).mp h) D cy base p l e s m args below meth c Z hC hZ H locs lsA hR hS hl okl (x_t (x_t oks))) (fun h => K.2 (Int.not_le.mp fun q => h ((x32_le hx hy).mpr q)) D cy base p l e s m args below meth c Z hC hZ H locs lsA hR hS hl okl (x_t (x_t oks)))
theorem X.tsIn {x : Int} {dflt lo hi : Int} {offs : Array Int} {len : Nat} {off : Int} (tgt : Nat) (d : decode M.2.1 pc = .ok (.tableswitch dflt lo hi offs, len)) (h1 : lo ≤ x) (h2 : x ≤ hi) (ho : offs[(x - lo).toNat]? = some off) (ht : (pc : Int) + off = (tgt : Int)) (K : X M tgt ls st sh ν μ k n Q) : X M pc ls (vI x :: st) sh ν μ k n Q := by
  intro D cy base p l e s m args below meth c Z hC hZ H locs lsA hR hS hl okl oks
  have hx := x32_to (x_hI oks)
  exact lv_tableIn hC.1 hC.2.1 d (by rw [hx]; omega) (by rw [hx]; omega) (by rw [hx]; exact ho) ht (K D cy base p l e s m args below meth c Z hC hZ H locs lsA hR hS hl okl (x_t oks))
theorem X.tsOut {x : Int} {dflt lo hi : Int} {offs : Array Int} {len : Nat} (tgt : Nat) (d : decode M.2.1 pc = .ok (.tableswitch dflt lo hi offs, len)) (h : x < lo ∨ hi < x) (ht : (pc : Int) + dflt = (tgt : Int)) (K : X M tgt ls st sh ν μ k n Q) : X M pc ls (vI x :: st) sh ν μ k n Q := by
  intro D cy base p l e s m args below meth c Z hC hZ H locs lsA hR hS hl okl oks
  have hx := x32_to (x_hI oks)
  exact lv_tableOut hC.1 hC.2.1 d (by rw [hx]; exact h) ht (K D cy base p l e s m args below meth c Z hC hZ H locs lsA hR hS hl okl (x_t oks))
theorem X.iret {x : Int} (d : decode M.2.1 pc = .ok (.ireturn, 1)) (hr : M.2.2.2.1 = some .int) (hk : k ≤ M.2.2.2.2.cells) (hn : n ≤ M.2.2.2.2.slots) (hq : Q (some (vI x)) sh ν μ) : X M pc ls [vI x] sh ν μ k n Q := by
  intro D cy base p l e s m args below meth c Z hC hZ H locs lsA hR hS hl okl oks
  exact W.widen hk hn (hZ (some (vI x)) sh ν μ H locs pc lsA hq hR (fun w hw => by cases hw; exact x_h oks) hS ⟨d, Or.inl hr⟩)
theorem X.zret {x : Int} (d : decode M.2.1 pc = .ok (.ireturn, 1)) (hr : M.2.2.2.1 = some .boolean) (hx : x = 0 ∨ x = 1) (hk : k ≤ M.2.2.2.2.cells) (hn : n ≤ M.2.2.2.2.slots) (hq : Q (some (vI x)) sh ν μ) : X M pc ls [vI x] sh ν μ k n Q := by
  intro D cy base p l e s m args below meth c Z hC hZ H locs lsA hR hS hl okl oks
  exact W.widen hk hn (hZ (some (vI x)) sh ν μ H locs pc lsA hq hR (fun w hw => by cases hw; exact x_h oks) hS ⟨d, Or.inr ⟨hr, hx⟩⟩)
theorem X.lret {x : Int} (d : decode M.2.1 pc = .ok (.lreturn, 1)) (hr : M.2.2.2.1 = some .long) (hk : k ≤ M.2.2.2.2.cells) (hn : n ≤ M.2.2.2.2.slots) (hq : Q (some (vL x)) sh ν μ) : X M pc ls [vL x] sh ν μ k n Q := by
  intro D cy base p l e s m args below meth c Z hC hZ H locs lsA hR hS hl okl oks
  exact W.widen hk hn (hZ (some (vL x)) sh ν μ H locs pc lsA hq hR (fun w hw => by cases hw; exact x_h oks) hS ⟨d, hr⟩)
theorem X.vret (d : decode M.2.1 pc = .ok (.return_, 1)) (hr : M.2.2.2.1 = none) (hk : k ≤ M.2.2.2.2.cells) (hn : n ≤ M.2.2.2.2.slots) (hq : Q none sh ν μ) : X M pc ls [] sh ν μ k n Q := by
  intro D cy base p l e s m args below meth c Z hC hZ H locs lsA hR hS hl okl oks
  exact W.widen hk hn (hZ none sh ν μ H locs pc lsA hq hR (fun w hw => by cases hw) hS ⟨d, hr⟩)
end XR
end
section
/-! rules: fields, arrays, new cells -/
def xCL (ci : Nat) (C : String) (T : u_T) (N : Nat) : Prop := vwCl[ci]? = some (C, T, N) ∧ N = xN ci ∧ (∀ w ∈ u_ws C T N, w ∈ xT) ∧ (∀ j, j < N → parseFieldDescriptor (T j).2.2.1 = some (xfT ci j)) ∧ (∀ a, a < N → ∀ b, b < N → a ≠ b → (T a).2.1 ≠ (T b).2.1) ∧ ∀ j, j < N → (T j).1 = C
/-- entry idx of the pool of 'own' is field k of the objects of kind ci -/
def xFL (own : String) (idx ci k : Nat) (fin : Bool) (ty : FieldType) : Prop := ∃ (C : String) (T : u_T) (N : Nat), xCL ci C T N ∧ k < N ∧ Cond.fieldLink own idx (T k).1 (T k).2.1 (T k).2.2.1 ∈ xT ∧ (T k).2.2.2 = fin ∧ xfT ci k = ty
def xisI (ty : FieldType) : Bool := match ty with
  | .int => true
  | .boolean => true
  | _ => false
def xisR (ty : FieldType) : Bool := match ty with
  | .object _ => true
  | .array _ => true
  | _ => false
theorem xF_I {ty : FieldType} (h : xisI ty = true) (base : Nat) (r : Option Nat) (v : Int) : xF base ty r v = .int (Int32.ofInt v) := by
  cases ty <;> first | rfl | cases h
theorem xF_R {ty : FieldType} (h : xisR ty = true) (base : Nat) (r : Option Nat) (v : Int) : xF base ty r v = va_rf (r.map (base + ·)) := by
  cases ty <;> first | rfl | cases h
theorem xrg_I {ty : FieldType} (h : xisI ty = true) {v : Int} (hv : xrg ty v) : xi32 v := by
  cases ty <;> first | exact hv | (rcases hv with rfl | rfl <;> exact ⟨by decide, by decide⟩) | cases h
theorem xrg_R {ty : FieldType} (h : xisR ty = true) (v : Int) (hv : xi32 v) : xrg ty v := by
  cases ty <;> first | exact hv | cases h
theorem xE_o (cy : Nat → ClassId) (base ci : Nat) (r : Nat → Option Nat) (v : Nat → Int) : xE cy base (6, ci) r v = .inr (ci, (List.range (xN ci)).map fun k => xF base (xfT ci k) (r k) (v k)) := rfl
theorem xfs_get {base ci k : Nat} (hk : k < xN ci) (r : Nat → Option Nat) (v : Nat → Int) : ((List.range (xN ci)).map fun k => xF base (xfT ci k) (r k) (v k))[k]? = some (xF base (xfT ci k) (r k) (v k)) := by
  simp [List.getElem?_range hk]
theorem xfs_set {base ci k : Nat} {r r' : Nat → Option Nat} {v v' : Nat → Int} {x : Value} (hr : ∀ j, j ≠ k → r' j = r j) (hv : ∀ j, j ≠ k → v' j = v j) (hx : x = xF base (xfT ci k) (r' k) (v' k)) :
    ((List.range (xN ci)).map fun k => xF base (xfT ci k) (r k) (v k)).set k x = (List.range (xN ci)).map fun k => xF base (xfT ci k) (r' k) (v' k) := by
  apply List.ext_getElem?
  intro i
  by_cases hi : i = k
  · subst hi
    by_cases hl : i < xN ci
    · rw [List.getElem?_set_self (by simpa using hl), xfs_get hl, hx]
    · rw [List.getElem?_eq_none (by simp; omega), List.getElem?_eq_none (by simp; omega)]
  · rw [List.getElem?_set_ne (fun q => hi q.symm)]
    by_cases hl : i < xN ci
    · rw [xfs_get hl, xfs_get hl, hr i hi, hv i hi]
    · rw [List.getElem?_eq_none (by simp; omega), List.getElem?_eq_none (by simp; omega)]
theorem up_o {μ : Nat → Nat → Int} {a k : Nat} {v : Int} : ∀ b, b ≠ a → up μ a k v b = μ b := fun b h => funext fun j => up_a h j
theorem upr_s (ν : Nat → Nat → Option Nat) (a k : Nat) (v : Option Nat) : upr ν a k v a k = v := if_pos ⟨rfl, rfl⟩
theorem upr_k {ν : Nat → Nat → Option Nat} {a k j : Nat} {v : Option Nat} (h : j ≠ k) (b : Nat) : upr ν a k v b j = ν b j := if_neg fun q => h q.2
theorem upr_a {ν : Nat → Nat → Option Nat} {a k b : Nat} {v : Option Nat} (h : b ≠ a) (j : Nat) : upr ν a k v b j = ν b j := if_neg fun q => h q.1
theorem upr_o {ν : Nat → Nat → Option Nat} {a k : Nat} {v : Option Nat} : ∀ b, b ≠ a → upr ν a k v b = ν b := fun b h => funext fun j => upr_a h j
theorem xOKh_refl {sh : List (Nat × Nat)} {ν : Nat → Nat → Option Nat} {μ : Nat → Nat → Int} (h : xOKh sh ν μ) {a : Nat} {s : Nat × Nat} (hs : sh[a]? = some s) (i : Nat) : xrg (xty s i) (μ a i) := (h a s hs).1 i
theorem va_S_mono {A : Nat → Prop} {H0 H H1 : Heap} {locs : List Loc} (hS : va_S A H0 H locs) (z : H.size ≤ H1.size) (o1 : ∀ q : Nat, q < H.size → H1[q]? = H[q]?) : va_S A H0 H1 locs := ⟨Nat.le_trans hS.1 z, fun x h1 h2 => (o1 x (Nat.lt_of_lt_of_le h1 hS.1)).trans (hS.2.1 x h1 h2), hS.2.2⟩
section XR
variable {M : xM} {pc : Nat} {ls : List (Nat × xV)} {st : List xV} {sh : List (Nat × Nat)} {ν : Nat → Nat → Option Nat} {μ : Nat → Nat → Int} {k n : Nat} {Q : xQ}
theorem X.getI {a idx ci f : Nat} {fin : Bool} {ty : FieldType} (d : decode M.2.1 pc = .ok (.getfield idx, 3)) (hf : xFL M.1.cls idx ci f fin ty) (hty : xisI ty = true) (hs : sh[a]? = some (6, ci)) (K : X M (pc + 3) ls (vI (μ a f) :: st) sh ν μ k n Q) : X M pc ls (vR a :: st) sh ν μ k n Q := by
  intro D cy base p l e s m args below meth c Z hC hZ H locs lsA hR hS hl okl oks
  obtain ⟨C, T, N, hcl, hk, hw, -, rfl⟩ := hf
  have hg := xOKh_refl hR.2.2 hs f
  have hv : ((List.range (xN ci)).map fun k => xF base (xfT ci k) (ν a k) (μ a k))[f]? = some (.int (Int32.ofInt (μ a f))) := by
    rw [xfs_get (by rw [← hcl.2.1]; exact hk), xF_I hty]
  exact va_get hC.1 hC.2.1 hC.2.2.2.2.2.1 hcl.2.2.1 hC.2.2.2.2.1 hC.2.2.2.2.2.2.1 hR.2.1 a ((xW_get hs).trans (by rw [xE_o])) hcl.1 f hk (hC.2.2.2.2.2.1 _ hw) (fun _ h9 => h9) hv d (K D cy base p l e s m args below meth c Z hC hZ H locs lsA hR hS hl okl (x_c0 (v := vI (μ a f)) (xrg_I hty hg) (x_t oks)))
theorem X.getR {a b idx ci f : Nat} {fin : Bool} {ty : FieldType} (d : decode M.2.1 pc = .ok (.getfield idx, 3)) (hf : xFL M.1.cls idx ci f fin ty) (hty : xisR ty = true) (hs : sh[a]? = some (6, ci)) (hb : ν a f = some b) (K : X M (pc + 3) ls (vR b :: st) sh ν μ k n Q) : X M pc ls (vR a :: st) sh ν μ k n Q := by
  intro D cy base p l e s m args below meth c Z hC hZ H locs lsA hR hS hl okl oks
  obtain ⟨C, T, N, hcl, hk, hw, -, rfl⟩ := hf
  have hg := (hR.2.2 a _ hs).2 f b hb
  have hv : ((List.range (xN ci)).map fun k => xF base (xfT ci k) (ν a k) (μ a k))[f]? = some (.ref (base + b)) := by
    rw [xfs_get (by rw [← hcl.2.1]; exact hk), xF_R hty, hb]
    rfl
  exact va_get hC.1 hC.2.1 hC.2.2.2.2.2.1 hcl.2.2.1 hC.2.2.2.2.1 hC.2.2.2.2.2.2.1 hR.2.1 a ((xW_get hs).trans (by rw [xE_o])) hcl.1 f hk (hC.2.2.2.2.2.1 _ hw) (fun _ h9 => h9) hv d (K D cy base p l e s m args below meth c Z hC hZ H locs lsA hR hS hl okl (x_c0 (v := vR b) hg (x_t oks)))
theorem x_nar {ty : FieldType} (h : xisI ty = true) {v : Int} (hv : ty = .int ∨ v = 0 ∨ v = 1) : narrow ty (.int (Int32.ofInt v)) = .int (Int32.ofInt v) ∧ fits ty (.int (Int32.ofInt v)) = true := by
  cases ty <;> first | (exact ⟨rfl, rfl⟩) | (rcases hv with hv | rfl | rfl <;> first | exact ⟨by decide, by decide⟩ | cases hv) | cases h
theorem x_xrg {ty : FieldType} (h : xisI ty = true) {v : Int} (hi : xi32 v) (hv : ty = .int ∨ v = 0 ∨ v = 1) : xrg ty v := by
  cases ty <;> first | exact absurd h (by decide) | exact hi | (rcases hv with hv | hv | hv <;> first | exact Or.inl hv | exact Or.inr hv | cases hv) | cases h
theorem x_set1 {D : va_G} {cy : Nat → ClassId} {base a : Nat} {s : Nat × Nat} {ν' : Nat → Nat → Option Nat} {μ' : Nat → Nat → Int} {H H1 : Heap} (hR : xRep D cy base sh ν μ H) (hs : sh[a]? = some s) (z : H1.size = H.size) (oq : ∀ q : Nat, q ≠ base + a → H1[q]? = H[q]?) (he : va_at D vwCl (base + a, xE cy base s (ν' a) (μ' a)) H1) (hν : ∀ b, b ≠ a → ν' b = ν b) (hμ : ∀ b, b ≠ a → μ' b = μ b) (hok : xOKh sh ν' μ') : xRep D cy base sh ν' μ' H1 :=
  ⟨z.trans hR.1, by rw [← xW_set (ν := ν) (μ := μ) hs hν hμ rfl]; exact hR.2.1.set xW_D (xW_get hs) he oq, hok⟩
theorem xisRI {ty : FieldType} (h : xisI ty = true) : xisR ty = false := by
  cases ty <;> first | rfl | cases h
/-- a store to a field: what the low row wants -/
theorem x_putW {D : va_G} {cy : Nat → ClassId} {base : Nat} {p : Program} {l : Launch} {e : Env} {s : State} {m : MethodId} {args : Array Value} {below : List Frame} {meth : Method} {c : Code} {Z : State → Prop} {H : Heap} {locs : List Loc} {lsA : Array Slot} {rest : List Value} {a idx ci f : Nat} {fin : Bool} {ty : FieldType} {v : Value} {ν' : Nat → Nat → Option Nat} {μ' : Nat → Nat → Int}
    (hC : xC M D cy base p s m args meth c) (hR : xRep D cy base sh ν μ H) (hS : va_S (fun q : Nat => base ≤ q) s.heap H locs) (d : decode M.2.1 pc = .ok (.putfield idx, 3)) (hf : xFL M.1.cls idx ci f fin ty) (hfi : fin = true → M.1.name = "<init>" ∧ (vwCl[ci]?).map (·.1) = some M.1.cls) (hs : sh[a]? = some (6, ci)) (hn : narrow ty v = v) (hfit : fits ty v = true)
    (hν : ∀ b, b ≠ a → ν' b = ν b) (hμ : ∀ b, b ≠ a → μ' b = μ b) (hνa : ∀ j, j ≠ f → ν' a j = ν a j) (hμa : ∀ j, j ≠ f → μ' a j = μ a j) (hv : v = xF base ty (ν' a f) (μ' a f)) (hok : xOKh sh ν' μ')
    (kk : ∀ (H1 : Heap) (locs1 : List Loc), xRep D cy base sh ν' μ' H1 → va_S (fun q : Nat => base ≤ q) s.heap H1 locs1 → W p l e M.2.2.2.2 s m args below meth c H1 locs1 k n Z (F0 m (pc + 3) lsA rest)) : W p l e M.2.2.2.2 s m args below meth c H locs k n Z (F0 m pc lsA (v :: .ref (base + a) :: rest)) := by
  obtain ⟨C, T, N, hcl, hk, hw, hfin, rfl⟩ := hf
  obtain ⟨hx, hb, -, -, hown, hts, hK, -, -, hname, -⟩ := hC
  have hap := va_apart (own := M.1.cls) hts hcl.2.2.1 (xfT ci) hcl.2.2.2.1 hcl.2.2.2.2.1 hK hcl.1
  have hPa := hR.2.1 a _ (xW_get hs)
  obtain ⟨r, h1, cell, q1, q2, q3, q4⟩ := hPa
  have hr : r = (C, T, N) := Option.some.inj (h1.symm.trans hcl.1)
  subst hr
  obtain ⟨hSl, hfc, kC, hkC, hkind⟩ := hK.1 ci _ hcl.1
  obtain ⟨cf, kf, fi, fd, hi, hsl⟩ := hSl f hk
  have hlay := hts _ (hcl.2.2.1 _ (u_in_lay hk))
  unfold u_lay at hlay
  have hst := (u_facts hfc hkC (u_lays hts hcl.2.2.1 hk) hi).1
  have hlenN : f < ((List.range (xN ci)).map fun k => xF base (xfT ci k) (ν a k) (μ a k)).length := by simp; rw [← hcl.2.1]; exact hk
  have last : ∀ H' : Heap, H'[base + a]? = some (cell.setSlot fd.slot v) → H'.size = H.size → (∀ q, q ≠ base + a → H'[q]? = H[q]?) → W p l e M.2.2.2.2 s m args below meth c H' (locs ++ [⟨base + a, fd.slot⟩]) k n Z (F0 m (pc + 3) lsA rest) := by
    intro H' e1 e2 e3
    rw [hsl] at e1 ⊢
    refine kk H' _ (x_set1 (ν' := ν') (μ' := μ') hR hs e2 e3 ?_ hν hμ hok) (hS.put e2 e3 (Nat.le_add_right _ _))
    refine ⟨_, hcl.1, t_OB.to (V := updV (vp_V ((List.range (xN ci)).map fun k => xF base (xfT ci k) (ν a k) (μ a k))) f v) ⟨_, e1, q2, q3, t_set q4 hap hk v⟩ (fun j _ => ?_)⟩
    rw [vp_updV_set hlenN v j]
    show vp_V _ j = vp_V ((List.range (xN ci)).map fun k => xF base (xfT ci k) (ν' a k) (μ' a k)) j
    rw [xfs_set (r' := ν' a) (v' := μ' a) hνa hμa hv]
  cases fin with
  | false =>
    rw [if_neg (by rw [hfin]; decide)] at hlay
    have h6 := u_store hfc hkC hkind hlay hi (hcl.2.2.2.1 f hk) hn hfit
    exact W.putK hx hb (f := fd) ⟨hown, hts _ hw, ⟨_, _, _, hi⟩, hst⟩ (by rw [q2]; exact h6) q1 q3 (by rw [hsl]; exact k2_hasslot (q4 f hk)) rfl rfl d last
  | true =>
    rw [if_pos hfin] at hlay
    have hcf : m.cls = cf := by
      obtain ⟨_, _, c', _, _, _, -, -, hf', -, -, -, hown2, -⟩ := Cond.laysFinal_spec hlay
      have e1 : c' = cf := by have := hi.symm.trans hf'; simp at this; exact this.1.symm
      have hC2 : C = M.1.cls := by
        have h9 := (hfi rfl).2
        rw [hcl.1] at h9
        exact Option.some.inj h9
      rw [hcl.2.2.2.2.2 f hk, hC2] at hown2
      rw [← e1]; exact Option.some.inj (hown.symm.trans hown2)
    have h6 := u_fits hfc hkC hkind (Or.inr hlay) hi (hcl.2.2.2.1 f hk) hn hfit
    exact W.putFinK hx hb hown (hts _ hw) hi hst hcf (hname.trans (hfi rfl).1) (by rw [q2]; exact h6) q1 q3 (by rw [hsl]; exact k2_hasslot (q4 f hk)) rfl rfl d last
theorem X.putI {a idx ci f : Nat} {fin : Bool} {ty : FieldType} {v : Int} (d : decode M.2.1 pc = .ok (.putfield idx, 3)) (hf : xFL M.1.cls idx ci f fin ty) (hty : xisI ty = true) (hfi : fin = true → M.1.name = "<init>" ∧ (vwCl[ci]?).map (·.1) = some M.1.cls) (hs : sh[a]? = some (6, ci)) (hv : ty = .int ∨ v = 0 ∨ v = 1) (K : X M (pc + 3) ls st sh ν (up μ a f v) k n Q) : X M pc ls (vI v :: vR a :: st) sh ν μ k n Q := by
  intro D cy base p l e s m args below meth c Z hC hZ H locs lsA hR hS hl okl oks
  have hvi : xi32 v := x_hI oks
  have hxt : xrg (xty (6, ci) f) v := by
    obtain ⟨C, T, N, -, -, -, -, h⟩ := hf
    show xrg (xfT ci f) v
    rw [h]
    exact x_xrg hty hvi hv
  exact x_putW (ν' := ν) (μ' := up μ a f v) hC hR hS d hf hfi hs (x_nar hty hv).1 (x_nar hty hv).2 (fun _ _ => rfl) up_o (fun _ _ => rfl) (fun j hj => up_k hj a) (by rw [up_s, xF_I hty]; rfl) (xOKh_mu hR.2.2 hs hxt) fun H1 locs1 hR1 hS1 => K D cy base p l e s m args below meth c Z hC hZ H1 locs1 lsA hR1 hS1 hl okl (x_t (x_t oks))
theorem X.putR {a b idx ci f : Nat} {fin : Bool} {ty : FieldType} (d : decode M.2.1 pc = .ok (.putfield idx, 3)) (hf : xFL M.1.cls idx ci f fin ty) (hty : xisR ty = true) (hfi : fin = true → M.1.name = "<init>" ∧ (vwCl[ci]?).map (·.1) = some M.1.cls) (hs : sh[a]? = some (6, ci)) (K : X M (pc + 3) ls st sh (upr ν a f (some b)) μ k n Q) : X M pc ls (vR b :: vR a :: st) sh ν μ k n Q := by
  intro D cy base p l e s m args below meth c Z hC hZ H locs lsA hR hS hl okl oks
  have hb : b < sh.length := x_h oks
  have hn : narrow ty (.ref (base + b)) = .ref (base + b) ∧ fits ty (.ref (base + b)) = true := by
    cases ty <;> first | exact ⟨rfl, rfl⟩ | cases hty
  exact x_putW (ν' := upr ν a f (some b)) (μ' := μ) hC hR hS d hf hfi hs hn.1 hn.2 upr_o (fun _ _ => rfl) (fun j hj => upr_k hj a) (fun _ _ => rfl) (by rw [upr_s, xF_R hty]; rfl) (xOKh_nu hR.2.2 (fun c hc => by cases hc; exact hb)) fun H1 locs1 hR1 hS1 => K D cy base p l e s m args below meth c Z hC hZ H1 locs1 lsA hR1 hS1 hl okl (x_t (x_t oks))
theorem X.alen {a t N : Nat} (d : decode M.2.1 pc = .ok (.arraylength, 1)) (hs : sh[a]? = some (t, N)) (ht : t ≤ 5) (hN : N ≤ 2147483647) (K : X M (pc + 1) ls (vI N :: st) sh ν μ k n Q) : X M pc ls (vR a :: st) sh ν μ k n Q := by
  intro D cy base p l e s m args below meth c Z hC hZ H locs lsA hR hS hl okl oks
  have K2 := K D cy base p l e s m args below meth c Z hC hZ H locs lsA hR hS hl okl (x_cI (by unfold xi32; omega) (x_t oks))
  have hg := xW_get (cy := cy) (base := base) (ν := ν) (μ := μ) hs
  have hN2 : Int32.ofNat N = Int32.ofInt (N : Int) := (Int32.ofInt_eq_ofNat).symm
  match t, ht with
  | 0, _ => exact va_alen hC.1 hC.2.1 hC.2.2.2.2.2.2.1 hR.2.1 a 0 hg (ty := .int) rfl hN2 d K2
  | 1, _ => exact va_alen hC.1 hC.2.1 hC.2.2.2.2.2.2.1 hR.2.1 a 1 hg (ty := .long) rfl hN2 d K2
  | 2, _ => exact va_alen hC.1 hC.2.1 hC.2.2.2.2.2.2.1 hR.2.1 a 2 hg (ty := .byte) rfl hN2 d K2
  | 3, _ => exact va_alen hC.1 hC.2.1 hC.2.2.2.2.2.2.1 hR.2.1 a 3 hg (ty := .boolean) rfl hN2 d K2
  | 4, _ => exact va_alen hC.1 hC.2.1 hC.2.2.2.2.2.2.1 hR.2.1 a 4 hg (ty := .object RX7) rfl hN2 d K2
  | 5, _ => exact va_alen hC.1 hC.2.1 hC.2.2.2.2.2.2.1 hR.2.1 a 5 hg (ty := .array .int) rfl hN2 d K2
theorem X.iaload {a N : Nat} {i : Int} (d : decode M.2.1 pc = .ok (.iaload, 1)) (hs : sh[a]? = some (0, N)) (hi : 0 ≤ i ∧ i < N) (K : X M (pc + 1) ls (vI (μ a i.toNat) :: st) sh ν μ k n Q) : X M pc ls (vI i :: vR a :: st) sh ν μ k n Q := by
  intro D cy base p l e s m args below meth c Z hC hZ H locs lsA hR hS hl okl oks
  obtain ⟨h1, h2⟩ := xN_i hi.1 hi.2 (x_hI oks)
  have hg := xOKh_refl hR.2.2 hs i.toNat
  have K2 := K D cy base p l e s m args below meth c Z hC hZ H locs lsA hR hS hl okl (x_cI hg (x_t (x_t oks)))
  exact va_iald hC.1 hC.2.1 hC.2.2.2.2.2.2.1 hR.2.1 a 0 (xW_get hs) rfl h1 d (by rw [h2]; exact K2)
theorem X.laload {a N : Nat} {i : Int} (d : decode M.2.1 pc = .ok (.laload, 1)) (hs : sh[a]? = some (1, N)) (hi : 0 ≤ i ∧ i < N) (K : X M (pc + 1) ls (vL (μ a i.toNat) :: st) sh ν μ k n Q) : X M pc ls (vI i :: vR a :: st) sh ν μ k n Q := by
  intro D cy base p l e s m args below meth c Z hC hZ H locs lsA hR hS hl okl oks
  obtain ⟨h1, h2⟩ := xN_i hi.1 hi.2 (x_hI oks)
  have hg := xOKh_refl hR.2.2 hs i.toNat
  have K2 := K D cy base p l e s m args below meth c Z hC hZ H locs lsA hR hS hl okl (x_cL hg (x_t (x_t oks)))
  exact va_lald hC.1 hC.2.1 hC.2.2.2.2.2.2.1 hR.2.1 a 1 (xW_get hs) rfl h1 d (by rw [h2]; exact K2)
theorem X.baload {a N : Nat} {i : Int} (d : decode M.2.1 pc = .ok (.baload, 1)) (hs : sh[a]? = some (2, N)) (hi : 0 ≤ i ∧ i < N) (K : X M (pc + 1) ls (vI (μ a i.toNat) :: st) sh ν μ k n Q) : X M pc ls (vI i :: vR a :: st) sh ν μ k n Q := by
  intro D cy base p l e s m args below meth c Z hC hZ H locs lsA hR hS hl okl oks
  obtain ⟨h1, h2⟩ := xN_i hi.1 hi.2 (x_hI oks)
  have hg : -128 ≤ μ a i.toNat ∧ μ a i.toNat ≤ 127 := xOKh_refl hR.2.2 hs i.toNat
  have K2 := K D cy base p l e s m args below meth c Z hC hZ H locs lsA hR hS hl okl (x_cI (by unfold xi32; omega) (x_t (x_t oks)))
  exact va_bald hC.1 hC.2.1 hC.2.2.2.2.2.2.1 hR.2.1 a 2 (xW_get hs) rfl h1 d (by rw [h2]; exact K2)
theorem X.zaload {a N : Nat} {i : Int} (d : decode M.2.1 pc = .ok (.baload, 1)) (hs : sh[a]? = some (3, N)) (hi : 0 ≤ i ∧ i < N) (K : X M (pc + 1) ls (vI (μ a i.toNat) :: st) sh ν μ k n Q) : X M pc ls (vI i :: vR a :: st) sh ν μ k n Q := by
  intro D cy base p l e s m args below meth c Z hC hZ H locs lsA hR hS hl okl oks
  obtain ⟨h1, h2⟩ := xN_i hi.1 hi.2 (x_hI oks)
  have hg : μ a i.toNat = 0 ∨ μ a i.toNat = 1 := xOKh_refl hR.2.2 hs i.toNat
  have K2 := K D cy base p l e s m args below meth c Z hC hZ H locs lsA hR hS hl okl (x_cI (by unfold xi32; omega) (x_t (x_t oks)))
  exact va_zald hC.1 hC.2.1 hC.2.2.2.2.2.2.1 hR.2.1 a 3 (xW_get hs) rfl h1 d (by rw [h2]; exact K2)
theorem X.aaload {a b t N : Nat} {i : Int} (d : decode M.2.1 pc = .ok (.aaload, 1)) (hs : sh[a]? = some (t, N)) (ht : t = 4 ∨ t = 5) (hi : 0 ≤ i ∧ i < N) (hb : ν a i.toNat = some b) (K : X M (pc + 1) ls (vR b :: st) sh ν μ k n Q) : X M pc ls (vI i :: vR a :: st) sh ν μ k n Q := by
  intro D cy base p l e s m args below meth c Z hC hZ H locs lsA hR hS hl okl oks
  obtain ⟨h1, h2⟩ := xN_i hi.1 hi.2 (x_hI oks)
  have hg := (hR.2.2 a _ hs).2 _ b hb
  have K2 := K D cy base p l e s m args below meth c Z hC hZ H locs lsA hR hS hl okl (x_c0 (v := vR b) hg (x_t (x_t oks)))
  have hlt : (Int32.ofInt i).toNatClampNeg < N := by rw [h2]; omega
  rcases ht with rfl | rfl
  · exact W.aald (v := .ref (base + b)) (ty := .object RX7) hC.1 hC.2.1 (hR.2.1 a _ (xW_get hs)) ((hC.2.2.2.2.2.2.1.2 4 _ rfl).1 N (fun j => va_rf ((ν a j).map (base + ·)))) rfl (fun q => by cases q) (by show ¬ (_ < 0 ∨ (arrV _ _ _).slots.size ≤ _); rw [arrV_size]; exact h1) (by show (arrV _ _ _).slots[_]? = _; rw [arrV_read _ _ hlt, h2]; show some (va_rf ((ν a i.toNat).map _)) = _; rw [hb]; rfl) rfl rfl d K2
  · exact W.aald (v := .ref (base + b)) (ty := .array .int) hC.1 hC.2.1 (hR.2.1 a _ (xW_get hs)) ((hC.2.2.2.2.2.2.1.2 5 _ rfl).1 N (fun j => va_rf ((ν a j).map (base + ·)))) rfl (fun q => by cases q) (by show ¬ (_ < 0 ∨ (arrV _ _ _).slots.size ≤ _); rw [arrV_size]; exact h1) (by show (arrV _ _ _).slots[_]? = _; rw [arrV_read _ _ hlt, h2]; show some (va_rf ((ν a i.toNat).map _)) = _; rw [hb]; rfl) rfl rfl d K2
theorem x_arrI {cA : ClassId} {N j : Nat} {f f' : Nat → Int} {x : Value} {y : Int} (hx : x = .int (Int32.ofInt y)) (h1 : f' j = y) (h2 : ∀ i, i ≠ j → f' i = f i) : (vp_cell cA (N, .inl fun i => Int32.ofInt (f i))).setSlot j x = vp_cell cA (N, .inl fun i => Int32.ofInt (f' i)) := by
  subst hx
  rw [vp_cell_i, vp_cell_i, arrV_store]
  congr 1
  funext q
  by_cases hq : q = j
  · subst hq; simp [updV, h1]
  · simp [updV, hq, h2 q hq]
theorem x_arrL {cA : ClassId} {N j : Nat} {f f' : Nat → Int} {y : Int} (h1 : f' j = y) (h2 : ∀ i, i ≠ j → f' i = f i) : (vp_cell cA (N, .inr (.inl fun i => Int64.ofInt (f i)))).setSlot j (.long (Int64.ofInt y)) = vp_cell cA (N, .inr (.inl fun i => Int64.ofInt (f' i))) := by
  rw [vp_cell_l, vp_cell_l, arrV_store]
  congr 1
  funext q
  by_cases hq : q = j
  · subst hq; simp [updV, h1]
  · simp [updV, hq, h2 q hq]
theorem X.iastore {a N : Nat} {i v : Int} (d : decode M.2.1 pc = .ok (.iastore, 1)) (hs : sh[a]? = some (0, N)) (hi : 0 ≤ i ∧ i < N) (K : X M (pc + 1) ls st sh ν (up μ a i.toNat v) k n Q) : X M pc ls (vI v :: vI i :: vR a :: st) sh ν μ k n Q := by
  intro D cy base p l e s m args below meth c Z hC hZ H locs lsA hR hS hl okl oks
  obtain ⟨h1, h2⟩ := xN_i hi.1 hi.2 (x_hI (x_t oks))
  have hv : xi32 v := x_hI oks
  refine W.iast hC.1 hC.2.1 (hR.2.1 a _ (xW_get hs)) ((hC.2.2.2.2.2.2.1.2 0 _ rfl).1 N (fun j => .int (Int32.ofInt (μ a j)))) (fun q => by cases q) (by show ¬ (_ < 0 ∨ (arrV _ _ _).slots.size ≤ _); rw [arrV_size]; exact h1) rfl rfl d fun H1 e1 z oq => ?_
  refine K D cy base p l e s m args below meth c Z hC hZ H1 _ lsA (x_set1 (ν' := ν) (μ' := up μ a i.toNat v) hR hs z oq ?_ (fun _ _ => rfl) up_o (xOKh_mu hR.2.2 hs hv)) (hS.put z oq (Nat.le_add_right _ _)) hl okl (x_t (x_t (x_t oks)))
  exact e1.trans (congrArg some (x_arrI rfl (by rw [h2, up_s]) (fun j hj => up_k (by rw [← h2]; exact hj) a)))
theorem X.lastore {a N : Nat} {i v : Int} (d : decode M.2.1 pc = .ok (.lastore, 1)) (hs : sh[a]? = some (1, N)) (hi : 0 ≤ i ∧ i < N) (K : X M (pc + 1) ls st sh ν (up μ a i.toNat v) k n Q) : X M pc ls (vL v :: vI i :: vR a :: st) sh ν μ k n Q := by
  intro D cy base p l e s m args below meth c Z hC hZ H locs lsA hR hS hl okl oks
  obtain ⟨h1, h2⟩ := xN_i hi.1 hi.2 (x_hI (x_t oks))
  have hv : xi64 v := x_hL oks
  refine W.last hC.1 hC.2.1 (hR.2.1 a _ (xW_get hs)) ((hC.2.2.2.2.2.2.1.2 1 _ rfl).1 N (fun j => .long (Int64.ofInt (μ a j)))) (fun q => by cases q) (by show ¬ (_ < 0 ∨ (arrV _ _ _).slots.size ≤ _); rw [arrV_size]; exact h1) rfl rfl d fun H1 e1 z oq => ?_
  refine K D cy base p l e s m args below meth c Z hC hZ H1 _ lsA (x_set1 (ν' := ν) (μ' := up μ a i.toNat v) hR hs z oq ?_ (fun _ _ => rfl) up_o (xOKh_mu hR.2.2 hs hv)) (hS.put z oq (Nat.le_add_right _ _)) hl okl (x_t (x_t (x_t oks)))
  exact e1.trans (congrArg some (x_arrL (by rw [h2, up_s]) (fun j hj => up_k (by rw [← h2]; exact hj) a)))
theorem x_nb {v : Int} (hv : xi32 v) : narrow .byte (.int (Int32.ofInt v)) = .int (Int32.ofInt (w8 v)) := by
  show Value.int (Int32.ofInt v).toInt8.toInt32 = _
  congr 1
  have h2 : xi32 (w8 v) := by have := w8_r v; unfold xi32; omega
  exact Int32.toInt.inj (by rw [Int8.toInt_toInt32, Int32.toInt_toInt8, x32_to hv, x32_to h2]; rfl)
theorem X.bastore {a N : Nat} {i v : Int} (d : decode M.2.1 pc = .ok (.bastore, 1)) (hs : sh[a]? = some (2, N)) (hi : 0 ≤ i ∧ i < N) (K : X M (pc + 1) ls st sh ν (up μ a i.toNat (w8 v)) k n Q) : X M pc ls (vI v :: vI i :: vR a :: st) sh ν μ k n Q := by
  intro D cy base p l e s m args below meth c Z hC hZ H locs lsA hR hS hl okl oks
  obtain ⟨h1, h2⟩ := xN_i hi.1 hi.2 (x_hI (x_t oks))
  have hv : xi32 v := x_hI oks
  refine W.bast hC.1 hC.2.1 (hR.2.1 a _ (xW_get hs)) ((hC.2.2.2.2.2.2.1.2 2 _ rfl).1 N (fun j => .int (Int32.ofInt (μ a j)))) (fun q => by cases q) (by show ¬ (_ < 0 ∨ (arrV _ _ _).slots.size ≤ _); rw [arrV_size]; exact h1) rfl rfl d fun H1 e1 z oq => ?_
  refine K D cy base p l e s m args below meth c Z hC hZ H1 _ lsA (x_set1 (ν' := ν) (μ' := up μ a i.toNat (w8 v)) hR hs z oq ?_ (fun _ _ => rfl) up_o (xOKh_mu hR.2.2 hs (w8_r v))) (hS.put z oq (Nat.le_add_right _ _)) hl okl (x_t (x_t (x_t oks)))
  exact e1.trans (congrArg some (x_arrI (x_nb hv) (by rw [h2, up_s]) (fun j hj => up_k (by rw [← h2]; exact hj) a)))
theorem X.zastore {a N : Nat} {i v : Int} (d : decode M.2.1 pc = .ok (.bastore, 1)) (hs : sh[a]? = some (3, N)) (hi : 0 ≤ i ∧ i < N) (hv : v = 0 ∨ v = 1) (K : X M (pc + 1) ls st sh ν (up μ a i.toNat v) k n Q) : X M pc ls (vI v :: vI i :: vR a :: st) sh ν μ k n Q := by
  intro D cy base p l e s m args below meth c Z hC hZ H locs lsA hR hS hl okl oks
  obtain ⟨h1, h2⟩ := xN_i hi.1 hi.2 (x_hI (x_t oks))
  refine W.zast hC.1 hC.2.1 (hR.2.1 a _ (xW_get hs)) ((hC.2.2.2.2.2.2.1.2 3 _ rfl).1 N (fun j => .int (Int32.ofInt (μ a j)))) (fun q => by cases q) (by show ¬ (_ < 0 ∨ (arrV _ _ _).slots.size ≤ _); rw [arrV_size]; exact h1) rfl rfl d fun H1 e1 z oq => ?_
  refine K D cy base p l e s m args below meth c Z hC hZ H1 _ lsA (x_set1 (ν' := ν) (μ' := up μ a i.toNat v) hR hs z oq ?_ (fun _ _ => rfl) up_o (xOKh_mu hR.2.2 hs hv)) (hS.put z oq (Nat.le_add_right _ _)) hl okl (x_t (x_t (x_t oks)))
  exact e1.trans (congrArg some (x_arrI (x_nar (ty := .boolean) rfl (Or.inr hv)).1 (by rw [h2, up_s]) (fun j hj => up_k (by rw [← h2]; exact hj) a)))
end XR
end
section
/-! rules: calls, new cells, the library's methods -/
def xargs : Nat → List xV → List (Nat × xV)
  | _, [] => []
  | i, v :: vs => (i, v) :: xargs (i + xcat v) vs
theorem xargs_lv (base : Nat) : ∀ (vs : List xV) (i : Nat), lv_args i (vs.map (xtr base)) = (xargs i vs).map fun q => (q.1, xtr base q.2)
  | [], _ => rfl
  | v :: vs, i => by
    show (i, xtr base v) :: lv_args _ (vs.map (xtr base)) = (i, xtr base v) :: (xargs (i + xcat v) vs).map fun q => (q.1, xtr base q.2)
    have h : (if (xtr base v).category = 2 then i + 2 else i + 1) = i + xcat v := by
      rw [xtr_cat]
      rcases v with x | x | _ | x <;> rfl
    rw [h, xargs_lv base vs]
theorem xsl_len (base : Nat) : ∀ vs : List xV, (lg_sl (vs.map (xtr base))).length = (vs.map xcat).sum
  | [] => rfl
  | v :: vs => by
    have h := xsl_len base vs
    unfold lg_sl at h ⊢
    rw [List.map_cons, List.flatMap_cons, List.length_append, h, xtr_cat]
    rcases v with x | x | _ | x <;> simp [xcat]
theorem xargs_ok {K : Nat} : ∀ (vs : List xV) (i : Nat), (∀ v ∈ vs, xok K v) → ∀ q ∈ xargs i vs, xok K q.2
  | [], _, _, q, hq => by cases hq
  | v :: vs, i, h, q, hq => by
    rcases List.mem_cons.mp hq with e | e
    · rw [e]; exact h v List.mem_cons_self
    · exact xargs_ok vs _ (fun u hu => h u (List.mem_cons_of_mem _ hu)) q e
/-- what the tables have of a method; n: how many parameters -/
def xOKM (M : xM) (n : Nat) : Prop := Cond.code M.1 M.2.1 M.2.2.1 M.2.2.2.1 ∈ xT ∧ Cond.initialized M.1.cls ∈ xT ∧ plainName M.1.cls = true ∧ (M.1.cls ≠ "java/lang/invoke/MethodHandle" ∧ M.1.cls ≠ "java/lang/invoke/VarHandle" ∧ (parseMethodDescriptor M.1.desc).map (fun d => d.parameters.length) = some n)
abbrev xws (M : xM) : List Cond := Cond.code M.1 M.2.1 M.2.2.1 M.2.2.2.1 :: xT
theorem xws_good {M : xM} {n : Nat} (h : xOKM M n) : GoodIn xT (xws M) := by
  intro w hw
  rcases List.mem_cons.mp hw with e | e
  · rw [e]; exact ⟨h.1, good_of_word (xT_good _ h.1)⟩
  · exact ⟨e, good_of_word (xT_good _ e)⟩
def xPc (D : va_G) (cy : Nat → ClassId) (base : Nat) (vs : List xV) (sh : List (Nat × Nat)) (ν : Nat → Nat → Option Nat) (μ : Nat → Nat → Int) : Array Value → State → Prop := fun a U => a = (vs.map (xtr base)).toArray ∧ xRep D cy base sh ν μ U.heap ∧ va_K D vwCl (xtys cy) U ∧ xXt U
def xQc (D : va_G) (cy : Nat → ClassId) (base : Nat) (Q : xQ) : Array Value → State → Outcome → State → Prop := fun _ st o t => ∃ (v : Option xV) (sh : List (Nat × Nat)) (ν : Nat → Nat → Option Nat) (μ : Nat → Nat → Int), o = .returned (v.map (xtr base)) ∧ Q v sh ν μ ∧ (∀ w, v = some w → xok sh.length w) ∧ xRep D cy base sh ν μ t.heap ∧ va_F (fun q : Nat => base ≤ q) st t
theorem x_met {l : Launch} {M : xM} {n : Nat} {D : va_G} {cy : Nat → ClassId} {base : Nat} {vs : List xV} {sh : List (Nat × Nat)} {ν : Nat → Nat → Option Nat} {μ : Nat → Nat → Int} {Q : xQ} (hM : xOKM M n) (hlen : (vs.map xcat).sum ≤ M.2.2.1) (hok : ∀ v ∈ vs, xok sh.length v) (K : X M 0 (xargs 0 vs) [] sh ν μ 0 0 Q) :
    Met l M.1 (xws M) M.2.2.2.2 (xPc D cy base vs sh ν μ) (xQc D cy base Q) M.2.2.2.2.cells M.2.2.2.2.slots (fun q : Nat => base ≤ q) := by
  refine Met.ofW (cc := M.2.1) (maxL := M.2.2.1) (ret := M.2.2.2.1) hM.2.2.1 rfl ?_
  intro p e s m args below meth c s₁ B hml hv
  obtain ⟨rfl, hR, hK, hXt⟩ := hv
  have hts := atoms_spec (ws := xws M) B.pre
  have hown : s.vm.findClass M.1.cls = some m.cls := findClass_of_methodNamed B.named
  have hC : xC M D cy base p s m (vs.map (xtr base)).toArray meth c := ⟨B.exec, B.bytes, B.returns, hml, hown, fun w hw => hts w (List.mem_cons_of_mem _ hw), hK, by rw [hR.1]; exact Nat.le_add_right _ _, B.notSynchronized, (name_of_methodNamed B.named B.method).1, hXt⟩
  have hl := lv_entry (vs.map (xtr base)) (n := M.2.2.1) (by rw [xsl_len]; exact hlen)
  rw [lg_entry_eq]
  generalize (lg_sl (vs.map (xtr base)) ++ List.replicate (M.2.2.1 - (lg_sl (vs.map (xtr base))).length) Slot.unset).toArray = lsA at hl ⊢
  rw [xargs_lv] at hl
  refine K D cy base p l e s m _ below meth c _ hC ?_ s.heap [] lsA hR va_S.rf hl (xargs_ok vs 0 hok) (fun v hv => by cases hv)
  intro v sh' ν' μ' H locs pc lsA' hQ hR' hok' hS hri
  have hq : ∀ t : State, t.heap = H → s.WarmedH t.vm → xQc D cy base Q (vs.map (xtr base)).toArray s (.returned (v.map (xtr base))) t := fun t ht _ => ⟨v, sh', ν', μ', rfl, hQ, hok', by rw [ht]; exact hR', hS.F ht⟩
  rcases v with _ | x | x | x
  · exact W.vret B.exec B.bytes (B.returns.trans hri.2) hq hS.2.2 hri.1 B.notSynchronized
  · obtain ⟨h1, h2 | ⟨h2, h3⟩⟩ := hri
    · exact W.iret B.exec B.bytes (B.returns.trans h2) hq hS.2.2 h1 B.notSynchronized
    · exact W.zret B.exec B.bytes (B.returns.trans h2) (x_nar (ty := .boolean) rfl (Or.inr h3)).1 hq hS.2.2 h1 B.notSynchronized
  · exact W.lret B.exec B.bytes (B.returns.trans hri.2) hq hS.2.2 hri.1 B.notSynchronized
  · exact hri.elim
theorem x_blind {D : va_G} {cy : Nat → ClassId} {base : Nat} {vs : List xV} {sh : List (Nat × Nat)} {ν : Nat → Nat → Option Nat} {μ : Nat → Nat → Int} : FrameBlind (xPc D cy base vs sh ν μ) := by
  intro a U g mk q
  obtain ⟨q1, q2, q3, q4⟩ := q
  exact ⟨q1, q2, va_K.moved (u := U) (U := U.calling g mk a) (Vm.Alike.refl U.vm) q3, q4⟩
theorem x_toL (base : Nat) (v : Option xV) (st : List xV) : (v.map (xtr base)).toList ++ st.map (xtr base) = (v.toList ++ st).map (xtr base) := by
  cases v <;> simp
/-- behind a call -/
theorem x_back {M M' : xM} {D : va_G} {cy : Nat → ClassId} {base : Nat} {Q : xQ} {p : Program} {l : Launch} {e : Env} {s : State} {m : MethodId} {args : Array Value} {below : List Frame} {meth : Method} {c : Code} {Z : State → Prop} {H : Heap} {locs : List Loc} {lsA : Array Slot} {pc : Nat} {ls : List (Nat × xV)} {st st0 : List xV} {a : Array Value} {sh : List (Nat × Nat)} {k n : Nat}
    (hC : xC M D cy base p s m args meth c) (hZ : xZ M D cy base Q p l e s m args below meth c Z) (hS : va_S (fun q : Nat => base ≤ q) s.heap H locs) (hl : lv_has lsA M.2.2.1 (ls.map fun q => (q.1, xtr base q.2))) (okl : ∀ q ∈ ls, xok sh.length q.2) (oks : ∀ v ∈ st, xok sh.length v) (hsz : H.size = base + sh.length)
    (hr : va_Run p l e M.2.2.2.2 s m args below meth c H locs k n M'.2.2.2.2.cells M'.2.2.2.2.slots (F0 m pc lsA (st0.map (xtr base))) (st.map (xtr base)) (xQc D cy base (fun v sh' ν' μ' => X M (pc + 3) ls (v.toList ++ st) sh' ν' μ' (k + M'.2.2.2.2.cells) (n + M'.2.2.2.2.slots) Q) a) (fun q : Nat => base ≤ q)) :
    W p l e M.2.2.2.2 s m args below meth c H locs k n Z (F0 m pc lsA (st0.map (xtr base))) := by
  intro T hT X1
  obtain ⟨v, st₀, t, T', L, h0, X', hL, e1, e2, ⟨v', sh', ν', μ', hv, hK, hokv, hR', hz, hkeep⟩, stp⟩ := hr T hT X1
  cases hv
  rw [h0] at hz hkeep
  have hR2 : xRep D cy base sh' ν' μ' T'.heap := by rw [e1]; exact hR'
  have hlen : sh.length ≤ sh'.length := by
    have h1 := hR'.1
    omega
  have okm : ∀ v : xV, xok sh.length v → xok sh'.length v := by
    intro v hv
    rcases v with x | x | _ | x
    · exact hv
    · exact hv
    · exact hv
    · exact Nat.lt_of_lt_of_le hv hlen
  have hS' : va_S (fun q : Nat => base ≤ q) s.heap T'.heap (locs ++ L) := ⟨Nat.le_trans hS.1 (by rw [e1]; exact hz), fun q h1 h2 => by rw [e1, hkeep q (Nat.lt_of_lt_of_le h1 hS.1) h2]; exact hS.2.1 q h1 h2, fun q hq => by
      rcases List.mem_append.mp hq with h | h
      · exact hS.2.2 q h
      · exact hL q h⟩
  obtain ⟨t2, a1, b1⟩ := hK D cy base p l e s m args below meth c Z hC hZ T'.heap (locs ++ L) lsA hR2 hS' hl (fun q hq => okm _ (okl q hq)) (fun u hu => by
      rcases List.mem_append.mp hu with h | h
      · cases v' with
        | none => cases h
        | some w => rw [List.mem_singleton.mp h]; exact hokv w rfl
      · exact okm _ (oks u h)) T' rfl X'
  refine ⟨t2, stp t2 ?_, b1⟩
  rw [← x_toL] at a1
  exact a1
theorem x_catsum (base : Nat) (st : List xV) : ((st.map (xtr base)).map fun v => v.category).sum = (st.map xcat).sum := by
  rw [List.map_map]
  congr 1
  apply List.map_congr_left
  intro v _
  exact xtr_cat base v
section XR
variable {M : xM} {pc : Nat} {ls : List (Nat × xV)} {st : List xV} {sh : List (Nat × Nat)} {ν : Nat → Nat → Option Nat} {μ : Nat → Nat → Int} {k n : Nat} {Q : xQ}
theorem x_oks_split {K : Nat} {vs st : List xV} (h : ∀ v ∈ vs.reverse ++ st, xok K v) : (∀ v ∈ vs, xok K v) ∧ ∀ v ∈ st, xok K v := ⟨fun v hv => h v (List.mem_append_left _ (List.mem_reverse.mpr hv)), fun v hv => h v (List.mem_append_right _ hv)⟩
/-- the room that a call wants of its caller -/
def xRm (M M' : xM) (k n : Nat) (st : List xV) : Prop := (M'.2.2.2.2.frames + 1 ≤ M.2.2.2.2.frames ∧ 8 + (M'.2.2.1 + 11) + M'.2.2.2.2.locals ≤ M.2.2.2.2.locals) ∧ (k + M'.2.2.2.2.cells ≤ M.2.2.2.2.cells ∧ n + M'.2.2.2.2.slots ≤ M.2.2.2.2.slots) ∧ (st.map xcat).sum ≤ 8
theorem X.callV {M' : xM} {idx ci a N : Nat} {vs : List xV} {st0 : List xV} (d : decode M.2.1 pc = .ok (.invokevirtual idx, 3)) (hst : st0 = vs.reverse ++ vR a :: st) (hM : xOKM M' N) (hN : vs.length = N) (hw : Cond.methodLink M.1.cls idx M'.1 ∈ xT) (hi : Cond.instanceMethod M'.1 ∈ xT) (hse : Cond.selects M'.1.cls M'.1 M'.1 ∈ xT) (hs : sh[a]? = some (6, ci)) (hci : (vwCl[ci]?).map (·.1) = some M'.1.cls)
    (hrm : xRm M M' k n st) (hlen : 1 + (vs.map xcat).sum ≤ M'.2.2.1) (K : X M' 0 (xargs 0 (vR a :: vs)) [] sh ν μ 0 0 (fun v sh' ν' μ' => X M (pc + 3) ls (v.toList ++ st) sh' ν' μ' (k + M'.2.2.2.2.cells) (n + M'.2.2.2.2.slots) Q)) : X M pc ls st0 sh ν μ k n Q := by
  subst hst
  intro D cy base p l e s m args below meth c Z hC hZ H locs lsA hR hS hl okl oks
  obtain ⟨okv, ok2⟩ := x_oks_split oks
  have oka : ∀ v ∈ vR a :: vs, xok sh.length v := x_c0 (x_h ok2) okv
  have hmet := x_met (l := l) (D := D) (cy := cy) (base := base) (n := N) hM (vs := vR a :: vs) hlen oka K
  obtain ⟨hx, hb, hr, hml, hown, hts, hK, hbase, hlk, hnm, hXt⟩ := hC
  have hPa := hR.2.1 a _ (xW_get hs)
  obtain ⟨r, h1, cell, q1, q2, q3, q4⟩ := hPa
  have hr0 : r.1 = M'.1.cls := by
    rw [h1] at hci
    exact Option.some.inj hci
  obtain ⟨hSl, hfc, -⟩ := hK.1 ci r h1
  refine x_back (M' := M') (k := k) (n := n) (sh := sh) (st0 := vs.reverse ++ vR a :: st) ⟨hx, hb, hr, hml, hown, hts, hK, hbase, hlk, hnm, hXt⟩ hZ hS hl okl (x_t ok2) hR.1 (va_runV (As := vs.map (xtr base)) (b := base + a) (C := M'.1.cls) (Ts := xT) ⟨hx, hb, hml, hown, hts⟩ hmet ⟨callB_of N hts (xws_good hM) rfl rfl rfl (hts _ hM.2.1) (hts _ hw) hM.2.2.2 hrm.1, hts _ hi, hts _ hse⟩ ⟨x_blind, ⟨cell, q1, by rw [q3]; rfl, by rw [q2, ← hr0]; exact hfc⟩, ?_⟩ rfl (by rw [List.length_map]; exact hN) hl.1 ?_ ?_ d hrm.2.1)
  · intro U hU hW
    exact ⟨rfl, by rw [hU]; exact hR, va_K.moved hW.alike hK, hXt.warm hW⟩
  · simp [xtr]
  · rw [x_catsum]
    exact (show 2 * 0 + (st.map xcat).sum ≤ 8 by have := hrm.2.2; omega)
theorem X.callS {M' : xM} {idx N : Nat} {vs : List xV} {st0 : List xV} (d : decode M.2.1 pc = .ok (.invokestatic idx, 3)) (hst : st0 = vs.reverse ++ st) (hM : xOKM M' N) (hN : vs.length = N) (hw : Cond.methodLink M.1.cls idx M'.1 ∈ xT) (hi : Cond.static M'.1 ∈ xT)
    (hrm : xRm M M' k n st) (hlen : (vs.map xcat).sum ≤ M'.2.2.1) (K : X M' 0 (xargs 0 vs) [] sh ν μ 0 0 (fun v sh' ν' μ' => X M (pc + 3) ls (v.toList ++ st) sh' ν' μ' (k + M'.2.2.2.2.cells) (n + M'.2.2.2.2.slots) Q)) : X M pc ls st0 sh ν μ k n Q := by
  subst hst
  intro D cy base p l e s m args below meth c Z hC hZ H locs lsA hR hS hl okl oks
  obtain ⟨okv, ok2⟩ := x_oks_split oks
  have hmet := x_met (l := l) (D := D) (cy := cy) (base := base) (n := N) hM (vs := vs) hlen okv K
  obtain ⟨hx, hb, hr, hml, hown, hts, hK, hbase, hlk, hnm, hXt⟩ := hC
  refine x_back (M' := M') (k := k) (n := n) (sh := sh) (st0 := vs.reverse ++ st) ⟨hx, hb, hr, hml, hown, hts, hK, hbase, hlk, hnm, hXt⟩ hZ hS hl okl ok2 hR.1 (va_runS (As := vs.map (xtr base)) (Ts := xT) ⟨hx, hb, hml, hown, hts⟩ hmet ⟨callB_of N hts (xws_good hM) rfl rfl rfl (hts _ hM.2.1) (hts _ hw) hM.2.2.2 hrm.1, hts _ hi⟩ ⟨x_blind, ?_⟩ rfl (by rw [List.length_map]; exact hN) hl.1 ?_ ?_ d hrm.2.1)
  · intro U hU hW
    exact ⟨rfl, by rw [hU]; exact hR, va_K.moved hW.alike hK, hXt.warm hW⟩
  · simp
  · rw [x_catsum]
    exact (show 2 * 0 + (st.map xcat).sum ≤ 8 by have := hrm.2.2; omega)
theorem x_cn {M M' : xM} {s : State} {args : Array Value} {N idx : Nat} {host : String} {Ts : List Cond} (hts : ∀ w ∈ xT, w.before args s = true) (hM : xOKM M' N) (hXt : xXt s) (hw : (M.1.cls, idx, M'.1, host) ∈ xNest) (hR : M'.2.2.2.2.frames + 1 ≤ M.2.2.2.2.frames ∧ 8 + (M'.2.2.1 + 11) + M'.2.2.2.2.locals ≤ M.2.2.2.2.locals) :
    va_CN M.2.2.2.2 s args M.1.cls idx M'.1 host M'.2.1 M'.2.2.1 M'.2.2.2.1 (xws M') M'.2.2.2.2 M'.2.2.2.2.cells M'.2.2.2.2.slots N := va_cnB N hts (xws_good hM) rfl rfl rfl (hXt.2.2 _ hw) (hts _ hM.2.1) hM.2.2.2 hR
theorem X.callSN {M' : xM} {idx N : Nat} {host : String} {vs : List xV} {st0 : List xV} (d : decode M.2.1 pc = .ok (.invokestatic idx, 3)) (hst : st0 = vs.reverse ++ st) (hM : xOKM M' N) (hN : vs.length = N) (hw : (M.1.cls, idx, M'.1, host) ∈ xNest) (hi : Cond.static M'.1 ∈ xT)
    (hrm : xRm M M' k n st) (hlen : (vs.map xcat).sum ≤ M'.2.2.1) (K : X M' 0 (xargs 0 vs) [] sh ν μ 0 0 (fun v sh' ν' μ' => X M (pc + 3) ls (v.toList ++ st) sh' ν' μ' (k + M'.2.2.2.2.cells) (n + M'.2.2.2.2.slots) Q)) : X M pc ls st0 sh ν μ k n Q := by
  subst hst
  intro D cy base p l e s m args below meth c Z hC hZ H locs lsA hR hS hl okl oks
  obtain ⟨okv, ok2⟩ := x_oks_split oks
  have hmet := x_met (l := l) (D := D) (cy := cy) (base := base) (n := N) hM (vs := vs) hlen okv K
  obtain ⟨hx, hb, hr, hml, hown, hts, hK, hbase, hlk, hnm, hXt⟩ := hC
  refine x_back (M' := M') (k := k) (n := n) (sh := sh) (st0 := vs.reverse ++ st) ⟨hx, hb, hr, hml, hown, hts, hK, hbase, hlk, hnm, hXt⟩ hZ hS hl okl ok2 hR.1 (va_runSN (As := vs.map (xtr base)) (Ts := xT) ⟨hx, hb, hml, hown, hts⟩ hmet ⟨x_cn (Ts := []) hts hM hXt hw hrm.1, hts _ hi, trivial⟩ ⟨x_blind, ?_⟩ rfl (by rw [List.length_map]; exact hN) hl.1 ?_ ?_ d hrm.2.1)
  · intro U hU hW
    exact ⟨rfl, by rw [hU]; exact hR, va_K.moved hW.alike hK, hXt.warm hW⟩
  · simp
  · rw [x_catsum]
    exact (show 2 * 0 + (st.map xcat).sum ≤ 8 by have := hrm.2.2; omega)
/-- a constructor, its own or a nest mate's -/
theorem X.callI {M' : xM} {idx a N : Nat} {vs : List xV} {st0 : List xV} (d : decode M.2.1 pc = .ok (.invokespecial idx, 3)) (hst : st0 = vs.reverse ++ vR a :: st) (hM : xOKM M' N) (hN : vs.length = N) (hw : Cond.methodLink M.1.cls idx M'.1 ∈ xT) (hi : Cond.instanceMethod M'.1 ∈ xT) (hnm : M'.1.name = "<init>") (hret : M'.2.2.2.1 = none)
    (hrm : xRm M M' k n st) (hlen : 1 + (vs.map xcat).sum ≤ M'.2.2.1) (K : X M' 0 (xargs 0 (vR a :: vs)) [] sh ν μ 0 0 (fun v sh' ν' μ' => X M (pc + 3) ls (v.toList ++ st) sh' ν' μ' (k + M'.2.2.2.2.cells) (n + M'.2.2.2.2.slots) Q)) : X M pc ls st0 sh ν μ k n Q := by
  subst hst
  intro D cy base p l e s m args below meth c Z hC hZ H locs lsA hR hS hl okl oks
  obtain ⟨okv, ok2⟩ := x_oks_split oks
  have oka : ∀ v ∈ vR a :: vs, xok sh.length v := x_c0 (x_h ok2) okv
  have hmet := x_met (l := l) (D := D) (cy := cy) (base := base) (n := N) hM (vs := vR a :: vs) hlen oka K
  obtain ⟨hx, hb, hr, hml, hown, hts, hK, hbase, hlk, hnm2, hXt⟩ := hC
  have hMc : Cond.code M'.1 M'.2.1 M'.2.2.1 none ∈ xT := by rw [← hret]; exact hM.1
  refine x_back (M' := M') (k := k) (n := n) (sh := sh) (st0 := vs.reverse ++ vR a :: st) ⟨hx, hb, hr, hml, hown, hts, hK, hbase, hlk, hnm2, hXt⟩ hZ hS hl okl (x_t ok2) hR.1 (va_runI (As := vs.map (xtr base)) (b := base + a) (Ts := xT) (bytes := M'.2.1) (maxL := M'.2.2.1) ⟨hx, hb, hml, hown, hts⟩ hmet ⟨by rw [← hret]; exact callB_of N hts (xws_good hM) rfl rfl rfl (hts _ hM.2.1) (hts _ hw) hM.2.2.2 hrm.1, hnm, hts _ hi⟩ ⟨x_blind, ?_⟩ rfl (by rw [List.length_map]; exact hN) hl.1 ?_ ?_ d hrm.2.1)
  · intro U hU hW
    exact ⟨rfl, by rw [hU]; exact hR, va_K.moved hW.alike hK, hXt.warm hW⟩
  · simp [xtr]
  · rw [x_catsum]
    exact (show 2 * 0 + (st.map xcat).sum ≤ 8 by have := hrm.2.2; omega)
theorem X.callIN {M' : xM} {idx a N : Nat} {host : String} {vs : List xV} {st0 : List xV} (d : decode M.2.1 pc = .ok (.invokespecial idx, 3)) (hst : st0 = vs.reverse ++ vR a :: st) (hM : xOKM M' N) (hN : vs.length = N) (hw : (M.1.cls, idx, M'.1, host) ∈ xNest) (hi : Cond.instanceMethod M'.1 ∈ xT) (hnm : M'.1.name = "<init>") (hret : M'.2.2.2.1 = none)
    (hrm : xRm M M' k n st) (hlen : 1 + (vs.map xcat).sum ≤ M'.2.2.1) (K : X M' 0 (xargs 0 (vR a :: vs)) [] sh ν μ 0 0 (fun v sh' ν' μ' => X M (pc + 3) ls (v.toList ++ st) sh' ν' μ' (k + M'.2.2.2.2.cells) (n + M'.2.2.2.2.slots) Q)) : X M pc ls st0 sh ν μ k n Q := by
  subst hst
  intro D cy base p l e s m args below meth c Z hC hZ H locs lsA hR hS hl okl oks
  obtain ⟨okv, ok2⟩ := x_oks_split oks
  have oka : ∀ v ∈ vR a :: vs, xok sh.length v := x_c0 (x_h ok2) okv
  have hmet := x_met (l := l) (D := D) (cy := cy) (base := base) (n := N) hM (vs := vR a :: vs) hlen oka K
  obtain ⟨hx, hb, hr, hml, hown, hts, hK, hbase, hlk, hnm2, hXt⟩ := hC
  refine x_back (M' := M') (k := k) (n := n) (sh := sh) (st0 := vs.reverse ++ vR a :: st) ⟨hx, hb, hr, hml, hown, hts, hK, hbase, hlk, hnm2, hXt⟩ hZ hS hl okl (x_t ok2) hR.1 (va_runIN (As := vs.map (xtr base)) (b := base + a) (Ts := xT) (bytes := M'.2.1) (maxL := M'.2.2.1) ⟨hx, hb, hml, hown, hts⟩ hmet ⟨by rw [← hret]; exact x_cn (Ts := []) hts hM hXt hw hrm.1, hnm, hts _ hi⟩ ⟨x_blind, ?_⟩ rfl (by rw [List.length_map]; exact hN) hl.1 ?_ ?_ d hrm.2.1)
  · intro U hU hW
    exact ⟨rfl, by rw [hU]; exact hR, va_K.moved hW.alike hK, hXt.warm hW⟩
  · simp [xtr]
  · rw [x_catsum]
    exact (show 2 * 0 + (st.map xcat).sum ≤ 8 by have := hrm.2.2; omega)
end XR
end
section
/-! rules: new cells, the library's methods that the kit has rows for -/
theorem x_ra {t : Nat} (ht : t ≤ 3) {U : State} {cy : Nat → ClassId} {D : va_G} (hK : va_K D vwCl (xtys cy) U) : U.vm.findClass ("[" ++ (xkt t).toString) = some (cy t) := by
  match t, ht with
  | 0, _ => exact (hK.2 0 _ rfl).2
  | 1, _ => exact (hK.2 1 _ rfl).2
  | 2, _ => exact (hK.2 2 _ rfl).2
  | 3, _ => exact (hK.2 3 _ rfl).2
theorem zr_s (μ : Nat → Nat → Int) (a : Nat) : zr μ a a = fun _ => 0 := funext fun _ => if_pos rfl
theorem zrr_s (ν : Nat → Nat → Option Nat) (a : Nat) : zrr ν a a = fun _ => none := funext fun _ => if_pos rfl
theorem zr_o {μ : Nat → Nat → Int} {a b : Nat} (h : b ≠ a) : zr μ a b = μ b := funext fun _ => if_neg h
theorem zrr_o {ν : Nat → Nat → Option Nat} {a b : Nat} (h : b ≠ a) : zrr ν a b = ν b := funext fun _ => if_neg h
theorem x_okup {K K' : Nat} (h : K ≤ K') {v : xV} (hv : xok K v) : xok K' v := by
  rcases v with x | x | _ | x
  · exact hv
  · exact hv
  · exact hv
  · exact Nat.lt_of_lt_of_le hv h
theorem x_push1 {D : va_G} {cy : Nat → ClassId} {base : Nat} {sh : List (Nat × Nat)} {ν : Nat → Nat → Option Nat} {μ : Nat → Nat → Int} {H H1 : Heap} {s : Nat × Nat} (hR : xRep D cy base sh ν μ H) (z : H1.size = H.size + 1) (o1 : ∀ q : Nat, q < H.size → H1[q]? = H[q]?) (he : va_at D vwCl (base + sh.length, xE cy base s (fun _ => none) (fun _ => 0)) H1) : xRep D cy base (sh ++ [s]) (zrr ν sh.length) (zr μ sh.length) H1 := by
  have hν : ∀ b, b < sh.length → zrr ν sh.length b = ν b := fun b h => zrr_o (Nat.ne_of_lt h)
  have hμ : ∀ b, b < sh.length → zr μ sh.length b = μ b := fun b h => zr_o (Nat.ne_of_lt h)
  refine ⟨by rw [z, hR.1]; simp; omega, ?_, xOKh_push hR.2.2 hν hμ ?_⟩
  · rw [← xW_push (ν := ν) (μ := μ) hν hμ rfl, zrr_s, zr_s]
    refine va_P.app (hR.2.1.kept fun k x hx => o1 x.1 ((hR.2.1 k x hx).lt)) fun k x hx => ?_
    have hz : k < 1 := (List.getElem?_eq_some_iff.mp hx).1
    rw [show k = 0 by omega] at hx
    cases hx
    exact he
  · rw [zrr_s, zr_s]
    exact ⟨fun i => xrg_0 _, fun i b h => by cases h⟩
theorem vp_z (cA : ClassId) (N : Nat) : arrV cA N (fun _ => .int 0) = vp_cell cA (N, .inl fun _ => Int32.ofInt 0) := by rw [vp_cell_i]; rfl
theorem vp_zL (cA : ClassId) (N : Nat) : arrV cA N (fun _ => .long 0) = vp_cell cA (N, .inr (.inl fun _ => Int64.ofInt 0)) := by rw [vp_cell_l]; rfl
section XR
variable {M : xM} {pc : Nat} {ls : List (Nat × xV)} {st : List xV} {sh : List (Nat × Nat)} {ν : Nat → Nat → Option Nat} {μ : Nat → Nat → Int} {k n : Nat} {Q : xQ}
theorem X.newa {at' : ArrayType} {t N : Nat} (d : decode M.2.1 pc = .ok (.newarray at', 2)) (ht : t ≤ 3) (hat : newarray.typeOf at' = xkt t) (hw : Cond.arrayClass (xkt t) ∈ xT) (hN : N ≤ 60000) (hc : k + 1 ≤ M.2.2.2.2.cells) (hsl : n + N ≤ M.2.2.2.2.slots) (K : X M (pc + 2) ls (vR sh.length :: st) (sh ++ [(t, N)]) (zrr ν sh.length) (zr μ sh.length) (k + 1) (n + N) Q) : X M pc ls (vI N :: st) sh ν μ k n Q := by
  intro D cy base p l e s m args below meth c Z hC hZ H locs lsA hR hS hl okl oks
  have hr : xi32 (N : Int) := by unfold xi32; omega
  have e1 : (Int32.ofInt (N : Int)).toNatClampNeg = N := by rw [← Int32.toNat_toInt, x32_to hr]; rfl
  have h0 : ¬ Int32.ofInt (N : Int) < 0 := fun h => by have := (x32_lt hr xi32_0).mp h; omega
  have hb : N * componentBytes (newarray.typeOf at') ≤ 536870912 := by
    rw [hat]
    have : componentBytes (xkt t) ≤ 8 := by
      match t, ht with
      | 0, _ => decide
      | 1, _ => decide
      | 2, _ => decide
      | 3, _ => decide
    have h2 : N * componentBytes (xkt t) ≤ 60000 * 8 := Nat.mul_le_mul hN this
    omega
  refine va_newaK hC.1 hC.2.1 (by rw [hat]; exact hC.2.2.2.2.2.1 _ hw) rfl d rfl h0 e1 hb hc hsl hR.1 fun H1 cA e2 z o1 hAr hNm => ?_
  have hcA : cA = cy t := by
    rw [hat] at hNm
    exact Option.some.inj (hNm.symm.trans (x_ra ht hC.2.2.2.2.2.2.1))
  subst hcA
  have hlen : (sh ++ [(t, N)]).length = sh.length + 1 := by simp
  refine K D cy base p l e s m args below meth c Z hC hZ H1 locs lsA (x_push1 hR (by rw [z, hR.1]) (fun q hq => o1 q (by rw [← hR.1]; exact hq)) ?_) (va_S_mono hS (by rw [z, hR.1]; omega) (fun q hq => o1 q (by rw [← hR.1]; exact hq))) hl (fun q hq => x_okup (by rw [hlen]; omega) (okl q hq)) (x_c0 (show sh.length < _ by rw [hlen]; omega) fun v hv => x_okup (by rw [hlen]; omega) (x_t oks v hv))
  rw [hat] at e2
  match t, ht with
  | 0, _ => exact e2.trans (congrArg some (vp_z _ N))
  | 1, _ => exact e2.trans (congrArg some (vp_zL _ N))
  | 2, _ => exact e2.trans (congrArg some (vp_z _ N))
  | 3, _ => exact e2.trans (congrArg some (vp_z _ N))
def xNL (own : String) (idx ci : Nat) : Prop := ∃ (C : String) (T : u_T) (N : Nat), xCL ci C T N ∧ Cond.classLink own idx C ∈ xT ∧ Cond.instantiable C N ∈ xT ∧ Cond.initialized C ∈ xT ∧ ∀ j, j < N → defaultValue (xfT ci j) = xF 0 (xfT ci j) none 0
theorem xF_0 (base : Nat) (ty : FieldType) : xF base ty none 0 = xF 0 ty none 0 := by cases ty <;> rfl
theorem X.new {idx ci : Nat} (d : decode M.2.1 pc = .ok (.new idx, 3)) (hn : xNL M.1.cls idx ci) (hc : k + 1 ≤ M.2.2.2.2.cells) (hsl : n + xN ci ≤ M.2.2.2.2.slots) (K : X M (pc + 3) ls (vR sh.length :: st) (sh ++ [(6, ci)]) (zrr ν sh.length) (zr μ sh.length) (k + 1) (n + xN ci) Q) : X M pc ls st sh ν μ k n Q := by
  intro D cy base p l e s m args below meth c Z hC hZ H locs lsA hR hS hl okl oks
  obtain ⟨C, T, N, hcl, hw1, hw2, hw3, hdf⟩ := hn
  have hts := hC.2.2.2.2.2.1
  have hKn := hC.2.2.2.2.2.2.1.1 ci _ hcl.1
  have hNe := hcl.2.1
  subst hNe
  refine W.newcK hC.1 hC.2.1 hC.2.2.2.2.1 (hts _ hw1) (hts _ hw2) (hts _ hw3) rfl d hc hsl hKn.2.1 hR.1 fun H1 kC hkC e1 z o1 => ?_
  have hlen : (sh ++ [(6, ci)]).length = sh.length + 1 := by simp
  refine K D cy base p l e s m args below meth c Z hC hZ H1 locs lsA (x_push1 hR (by rw [z, hR.1]) (fun q hq => o1 q (by rw [← hR.1]; exact hq)) ?_) (va_S_mono hS (by rw [z, hR.1]; omega) (fun q hq => o1 q (by rw [← hR.1]; exact hq))) hl (fun q hq => x_okup (by rw [hlen]; omega) (okl q hq)) (x_c0 (show sh.length < _ by rw [hlen]; omega) fun v hv => x_okup (by rw [hlen]; omega) (oks v hv))
  refine ⟨_, hcl.1, (u_born (xfT ci) hts hcl.2.2.1 hKn hkC e1 hcl.2.2.2.1).to fun j hj => ?_⟩
  show defaultValue (xfT ci j) = ((List.range (xN ci)).map fun k => xF base (xfT ci k) none 0).getD j .null
  rw [hdf j hj]
  simp [List.getD, List.getElem?_range hj, xF_0 base]
theorem X.newq {idx N : Nat} (d : decode M.2.1 pc = .ok (.anewarray idx, 3)) (hw : Cond.classLink M.1.cls idx RX7 ∈ xT) (hN : N ≤ 60000) (hc : k + 1 ≤ M.2.2.2.2.cells) (hsl : n + N ≤ M.2.2.2.2.slots) (K : X M (pc + 3) ls (vR sh.length :: st) (sh ++ [(4, N)]) (zrr ν sh.length) (zr μ sh.length) (k + 1) (n + N) Q) : X M pc ls (vI N :: st) sh ν μ k n Q := by
  intro D cy base p l e s m args below meth c Z hC hZ H locs lsA hR hS hl okl oks
  have hr : xi32 (N : Int) := by unfold xi32; omega
  have e0 : (Int32.ofInt (N : Int)).toNatClampNeg = N := by rw [← Int32.toNat_toInt, x32_to hr]; rfl
  have h0 : ¬ Int32.ofInt (N : Int) < 0 := fun h => by have := (x32_lt hr xi32_0).mp h; omega
  have hXt := hC.2.2.2.2.2.2.2.2.2.2
  refine W.anew hC.1 hC.2.1 hC.2.2.2.2.1 (hC.2.2.2.2.2.1 _ hw) hXt.1.use rfl d rfl h0 (by rw [e0]; omega) hc (by rw [e0]; exact hsl) fun cA kA comp f1 f2 f3 f4 => ?_
  rw [e0]
  have hcA : cA = cy 4 := by
    obtain ⟨kA', comp', -, -, -, g4⟩ := (hC.2.2.2.2.2.2.1.2 4 _ rfl).2
    exact Option.some.inj (f1.symm.trans g4)
  subst hcA
  have hlen : (sh ++ [(4, N)]).length = sh.length + 1 := by simp
  generalize hH1 : H.push ({ cls := cy 4, slots := Array.replicate N .null, vm := .none } : Cell) = H1
  have z1 : H1.size = H.size + 1 := by rw [← hH1, Array.size_push]
  have e1 : H1[H.size]? = some (arrV (cy 4) N (fun _ => .null)) := by rw [← hH1, Array.getElem?_push_size, ← arrV_new]
  have o1 : ∀ q : Nat, q < H.size → H1[q]? = H[q]? := fun q hq => by rw [← hH1, Array.getElem?_push, if_neg (Nat.ne_of_lt hq)]
  have K2 := K D cy base p l e s m args below meth c Z hC hZ H1 locs lsA (x_push1 hR z1 o1 (by rw [hR.1] at e1; exact e1)) (va_S_mono hS (by rw [z1]; omega) o1) hl (fun q hq => x_okup (by rw [hlen]; omega) (okl q hq)) (x_c0 (show sh.length < _ by rw [hlen]; omega) fun v hv => x_okup (by rw [hlen]; omega) (x_t oks v hv))
  have K3 : W p l e M.2.2.2.2 s m args below meth c H1 locs (k + 1) (n + N) Z (F0 m (pc + 3) lsA (.ref (base + sh.length) :: st.map (xtr base))) := K2
  rw [← hR.1] at K3
  exact K3
theorem X.aastore {a b N : Nat} {i : Int} (d : decode M.2.1 pc = .ok (.aastore, 1)) (hs : sh[a]? = some (4, N)) (hb : sh[b]? = some (6, 7)) (hi : 0 ≤ i ∧ i < N) (K : X M (pc + 1) ls st sh (upr ν a i.toNat (some b)) μ k n Q) : X M pc ls (vR b :: vI i :: vR a :: st) sh ν μ k n Q := by
  intro D cy base p l e s m args below meth c Z hC hZ H locs lsA hR hS hl okl oks
  obtain ⟨h1, h2⟩ := xN_i hi.1 hi.2 (x_hI (x_t oks))
  have hlt : (Int32.ofInt i).toNatClampNeg < N := by rw [h2]; omega
  have h0 : ¬ Int32.ofInt i < 0 := fun q => h1 (Or.inl q)
  have hK := hC.2.2.2.2.2.2.1
  obtain ⟨r', hr', cellV, g1, g2, g3, -⟩ := hR.2.1 b _ (xW_get hb)
  have hcls := (hK.1 7 _ rfl).2
  obtain ⟨kA, comp, k1, k2, k3, -⟩ := (hK.2 4 _ rfl).2
  have hcomp : comp = D.1 7 := Option.some.inj (k3.symm.trans hcls.1)
  subst hcomp
  obtain ⟨kC, hkC, -⟩ := hcls.2
  refine W.aast hC.1 hC.2.1 (hR.2.1 a _ (xW_get hs)) (fun q h => by cases h) (fun h => by cases h) k1 k2 rfl hkC ⟨h0, by show _ < (arrV _ _ _).slots.size; rw [arrV_size]; exact hlt⟩ g1 (fun q h => by rw [g3] at h; cases h) (by rw [g2]; exact hkC) (by rw [g2]; exact va_assign hcls) rfl rfl d fun H1 e z oq => ?_
  refine K D cy base p l _ s m args below meth c Z hC hZ H1 _ lsA (x_set1 (ν' := upr ν a i.toNat (some b)) (μ' := μ) hR hs z oq ?_ upr_o (fun _ _ => rfl) (xOKh_nu hR.2.2 (fun c hc => by cases hc; exact x_h oks))) (hS.put z oq (Nat.le_add_right _ _)) hl okl (x_t (x_t (x_t oks)))
  refine e.trans (congrArg some ?_)
  show (vp_cell (cy 4) (N, .inr (.inr (.inr (.inr fun i => (ν a i).map (base + ·)))))).setSlot _ _ = vp_cell (cy 4) (N, .inr (.inr (.inr (.inr fun j => (upr ν a i.toNat (some b) a j).map (base + ·)))))
  rw [vp_cell_q, vp_cell_q, arrV_store, h2]
  congr 1
  funext q
  by_cases hq : q = i.toNat
  · subst hq
    simp [updV, upr_s, va_rf]
  · simp [updV, hq, upr_k hq]
theorem X.objInit {idx a : Nat} (d : decode M.2.1 pc = .ok (.invokespecial idx, 3)) (hw : Cond.methodLink M.1.cls idx objectInit ∈ xT) (hi : Cond.instanceMethod objectInit ∈ xT) (hc : Cond.code objectInit ⟨#[0xb1]⟩ 1 none ∈ xT) (hf : 1 ≤ M.2.2.2.2.frames) (hlo : (st.map xcat).sum + 12 ≤ M.2.2.2.2.locals) (K : X M (pc + 3) ls st sh ν μ k n Q) : X M pc ls (vR a :: st) sh ν μ k n Q := by
  intro D cy base p l e s m args below meth c Z hC hZ H locs lsA hR hS hl okl oks
  have hts := hC.2.2.2.2.2.1
  refine W.objInit hC.1 hC.2.1 hC.2.2.2.2.1 (hts _ hw) (hts _ hi) (hts _ hc) rfl (by rw [hC.2.2.2.1]; exact hl.1) rfl d hf ?_ (K D cy base p l e s m args below meth c Z hC hZ H locs lsA hR hS hl okl (x_t oks))
  rw [x_catsum]
  exact (show 2 * 0 + (st.map xcat).sum + 12 ≤ M.2.2.2.2.locals by omega)
theorem X.mmin {idx : Nat} {a b : Int} (d : decode M.2.1 pc = .ok (.invokestatic idx, 3)) (hw : Cond.methodLink M.1.cls idx Lib.MathLoose.min_long.x ∈ xT) (hi : Cond.static Lib.MathLoose.min_long.x ∈ xT) (hini : Cond.initialized "java/lang/Math" ∈ xT) (hc : Cond.code Lib.MathLoose.min_long.x Lib.MathLoose.min_long.code 4 (some .long) ∈ xT) (hf : 1 ≤ M.2.2.2.2.frames) (hlo : (st.map xcat).sum + 15 ≤ M.2.2.2.2.locals) (hk : k ≤ M.2.2.2.2.cells) (hn : n ≤ M.2.2.2.2.slots)
    (K : X M (pc + 3) ls (vL (min a b) :: st) sh ν μ k n Q) : X M pc ls (vL b :: vL a :: st) sh ν μ k n Q := by
  intro D cy base p l e s m args below meth c Z hC hZ H locs lsA hR hS hl okl oks
  have hts := hC.2.2.2.2.2.1
  have ha : xi64 a := x_hL (x_t oks)
  have hb : xi64 b := x_hL oks
  have hm : (if Int64.ofInt b < Int64.ofInt a then Int64.ofInt b else Int64.ofInt a) = Int64.ofInt (min a b) := by
    by_cases h : b < a
    · rw [if_pos ((x64_lt hb ha).mpr h), Int.min_eq_right (by omega)]
    · rw [if_neg (fun q => h ((x64_lt hb ha).mp q)), Int.min_eq_left (by omega)]
  have hmr : xi64 (min a b) := by
    unfold xi64 at ha hb ⊢
    omega
  refine va_mmin_long hC.1 hC.2.1 (hC.2.2.2.1.trans hl.1.symm) hC.2.2.2.2.1 (hts _ hw) (hts _ hi) (hts _ hini) (hts _ hc) hf (by rw [x_catsum]; exact hlo) hk hn d ?_
  rw [hm]
  exact K D cy base p l e s m args below meth c Z hC hZ H locs lsA hR hS hl okl (x_cL hmr (x_t (x_t oks)))
end XR
end
section
/-! rules: System.arraycopy of a whole row of longs; new int[n][m] -/
def cpy (μ : Nat → Nat → Int) (a0 a N : Nat) : Nat → Nat → Int := fun b j => if b = a ∧ j < N then μ a0 j else μ b j
theorem cpy_o {μ : Nat → Nat → Int} {a0 a N : Nat} : ∀ b, b ≠ a → cpy μ a0 a N b = μ b := fun b h => funext fun j => if_neg fun q => h q.1
theorem xOKh_cpy {sh : List (Nat × Nat)} {ν : Nat → Nat → Option Nat} {μ : Nat → Nat → Int} {a0 a N0 N : Nat} (h : xOKh sh ν μ) (h0 : sh[a0]? = some (1, N0)) (hs : sh[a]? = some (1, N)) : xOKh sh ν (cpy μ a0 a N) := by
  intro b t ht
  obtain ⟨h1, h2⟩ := h b t ht
  refine ⟨fun i => ?_, h2⟩
  unfold cpy
  split
  · rename_i hq
    obtain ⟨rfl, -⟩ := hq
    cases hs.symm.trans ht
    exact (h a0 _ h0).1 i
  · exact h1 i
section XR
variable {M : xM} {pc : Nat} {ls : List (Nat × xV)} {st : List xV} {sh : List (Nat × Nat)} {ν : Nat → Nat → Option Nat} {μ : Nat → Nat → Int} {k n : Nat} {Q : xQ}
theorem X.copyl {idx a0 a N : Nat} (d : decode M.2.1 pc = .ok (.invokestatic idx, 3)) (hw : Cond.methodLink M.1.cls idx arraycopyName ∈ xT) (hnat : Cond.native arraycopyName ∈ xT) (hi : Cond.static arraycopyName ∈ xT) (hini : Cond.initialized "java/lang/System" ∈ xT) (h0 : sh[a0]? = some (1, N)) (hs : sh[a]? = some (1, N)) (hN : N ≤ 2147483647) (hf : 1 ≤ M.2.2.2.2.frames) (hlo : (st.map xcat).sum + (nativeFrameWords "java/lang/System" "arraycopy" 5 + 11) ≤ M.2.2.2.2.locals)
    (K : X M (pc + 3) ls st sh ν (cpy μ a0 a N) k n Q) : X M pc ls (vI N :: vI 0 :: vR a :: vI 0 :: vR a0 :: st) sh ν μ k n Q := by
  intro D cy base p l e s m args below meth c Z hC hZ H locs lsA hR hS hl okl oks
  have hts := hC.2.2.2.2.2.1
  have hr : xi32 (N : Int) := x_hI oks
  have eN : (Int32.ofInt (N : Int)).toInt = N := x32_to hr
  have e0 : (Int32.ofInt (N : Int)).toNatClampNeg = N := by rw [← Int32.toNat_toInt, eN]; rfl
  have hn0 : ¬ Int32.ofInt (N : Int) < 0 := fun h => by have := (x32_lt hr xi32_0).mp h; omega
  have hc0 : H[base + a0]? = some (vp_cell (cy 1) (N, .inr (.inl fun i => Int64.ofInt (μ a0 i)))) := hR.2.1 a0 _ (xW_get h0)
  have hc1 : H[base + a]? = some (vp_cell (cy 1) (N, .inr (.inl fun i => Int64.ofInt (μ a i)))) := hR.2.1 a _ (xW_get hs)
  have hK := hC.2.2.2.2.2.2.1
  obtain ⟨-, k0, hk0, cm0, hkk0⟩ := (hK.2 1 _ rfl).1 N (fun j => .long (Int64.ofInt (μ a0 j)))
  obtain ⟨-, k1, hk1, cm1, hkk1⟩ := (hK.2 1 _ rfl).1 N (fun j => .long (Int64.ofInt (μ a j)))
  intro T hT X1
  obtain ⟨vm', X', step⟩ := X1.arraycopy hC.1 hC.2.2.2.2.1 (hts _ hw) (hts _ hnat) (hts _ hi) (hts _ hini) (src := base + a0) (dst := base + a) (cs := vp_cell (cy 1) (N, .inr (.inl fun i => Int64.ofInt (μ a0 i)))) (cd := vp_cell (cy 1) (N, .inr (.inl fun i => Int64.ofInt (μ a i)))) (srcPos := 0) (destPos := 0) (n := Int32.ofInt (N : Int)) (by rw [hT]; exact hc0) (by rw [hT]; exact hc1)
    (fun _ h => by cases h) (fun _ h => by cases h) (fun h => by cases h) (fun h => by cases h) hk0 hk1 hkk0 hkk1 (by simp [show refKind FieldType.long = false from rfl]) (by decide) (by decide) hn0
    (by rw [eN]; show ¬ _ > ((arrV (cy 1) N (fun j => .long (Int64.ofInt (μ a0 j)))).slots.size : Int); rw [arrV_size]; show ¬ (0 + (N : Int)) > (N : Int); omega)
    (by rw [eN]; show ¬ _ > ((arrV (cy 1) N (fun j => .long (Int64.ofInt (μ a j)))).slots.size : Int); rw [arrV_size]; show ¬ (0 + (N : Int)) > (N : Int); omega)
    (fun vm₁ _ i hi => by
      rw [e0] at hi
      have e : (vp_cell (cy 1) (N, .inr (.inl fun i => Int64.ofInt (μ a0 i)))).slots.getD ((0 : Int32).toNatClampNeg + i) .null = .long (Int64.ofInt (μ a0 i)) := by
        show (arrV (cy 1) N (fun j => .long (Int64.ofInt (μ a0 j)))).slots.getD _ _ = _
        have z : (0 : Int32).toNatClampNeg = 0 := by decide
        rw [z, Nat.zero_add, Array.getD_eq_getD_getElem?, arrV_read _ _ hi]
        rfl
      rw [e]
      exact ⟨rfl, trivial⟩)
    (g := F0 m pc lsA ((vI N :: vI 0 :: vR a :: vI 0 :: vR a0 :: st).map (xtr base))) rfl (by rw [hC.2.2.2.1]; exact hl.1) (rest := st.map (xtr base)) rfl (by rw [hC.2.1]; exact d) hf (by rw [x_catsum]; show 2 * 0 + _ + _ ≤ _; omega)
  have e1 : copied (vp_cell (cy 1) (N, .inr (.inl fun i => Int64.ofInt (μ a0 i)))) (vp_cell (cy 1) (N, .inr (.inl fun i => Int64.ofInt (μ a i)))) 0 0 (Int32.ofInt (N : Int)) = vp_cell (cy 1) (N, .inr (.inl fun i => Int64.ofInt (cpy μ a0 a N a i))) := by
    have z : (0 : Int32).toNatClampNeg = 0 := by decide
    have h := va_copied (sp := 0) (dp := 0) (n := N) (fun z => .long z) (cy 1) (cy 1) (n0 := N) (n1 := N) (fun i => Int64.ofInt (μ a0 i)) (fun i => Int64.ofInt (μ a i)) (by omega)
    have h2 : copied (vp_cell (cy 1) (N, .inr (.inl fun i => Int64.ofInt (μ a0 i)))) (vp_cell (cy 1) (N, .inr (.inl fun i => Int64.ofInt (μ a i)))) 0 0 (Int32.ofInt (N : Int)) = (arrV (cy 1) N (fun j => .long (Int64.ofInt (μ a j)))).storeRun 0 ((arrV (cy 1) N (fun j => .long (Int64.ofInt (μ a0 j)))).stretch 0 N) := by
      unfold copied
      rw [e0, z]
      rfl
    refine h2.trans ?_
    refine h.trans ?_
    rw [vp_cell_l]
    refine congrArg (arrV (cy 1) N) (funext fun i => congrArg Value.long ?_)
    unfold va_cpy cpy
    by_cases hi : i < N
    · rw [if_pos ⟨Nat.zero_le _, by omega⟩, if_pos ⟨rfl, hi⟩]
      simp
    · rw [if_neg (fun q => hi (by have := q.2; omega)), if_neg (fun q => hi q.2)]
  rw [e1] at X' step
  have hlt : base + a < H.size := (Array.getElem?_eq_some_iff.mp hc1).1
  generalize hH1 : H.setIfInBounds (base + a) (vp_cell (cy 1) (N, .inr (.inl fun i => Int64.ofInt (cpy μ a0 a N a i)))) = H1
  have hheap : ((T.setVm vm').setCell (base + a) (vp_cell (cy 1) (N, .inr (.inl fun i => Int64.ofInt (cpy μ a0 a N a i))))).heap = H1 := by rw [← hH1, ← hT]; rfl
  have z : H1.size = H.size := by rw [← hH1]; simp
  have oq : ∀ q : Nat, q ≠ base + a → H1[q]? = H[q]? := fun q hq => by rw [← hH1]; simp [Array.getElem?_setIfInBounds, Ne.symm hq]
  obtain ⟨t, a1, b1⟩ := K D cy base p l e s m args below meth c Z hC hZ H1 _ lsA (x_set1 (ν' := ν) (μ' := cpy μ a0 a N) hR hs z oq (show H1[base + a]? = some _ by rw [← hH1]; simp [Array.getElem?_setIfInBounds, hlt]) (fun _ _ => rfl) cpy_o (xOKh_cpy hR.2.2 h0 hs)) ⟨by rw [z]; exact hS.1, fun q g1 g2 => by
      rw [oq q (fun e => g2 (by rw [e]; exact Nat.le_add_right _ _))]
      exact hS.2.1 q g1 g2, fun q hq => by
      rcases List.mem_append.mp hq with h | h
      · exact hS.2.2 q h
      · obtain ⟨z, -, hz⟩ := List.mem_map.mp h
        rw [← hz]
        exact Nat.le_add_right _ _⟩ hl okl (x_t (x_t (x_t (x_t (x_t oks))))) _ hheap X'
  exact ⟨t, step t a1, b1⟩
/-- memory behind new int[N][N2] -/
def mnu (ν : Nat → Nat → Option Nat) (L N : Nat) : Nat → Nat → Option Nat := fun b j => if b = L then (if j < N then some (L + 1 + j) else none) else if L < b then none else ν b j
def mmu (μ : Nat → Nat → Int) (L : Nat) : Nat → Nat → Int := fun b j => if L ≤ b then 0 else μ b j
theorem x_outer (c : ClassId) (N h0 : Nat) : ∀ i : Nat, Jvm.Free.Multi.outerC c N h0 i = arrV c N (fun j => va_rf (if j < i then some (h0 + 1 + j) else none))
  | 0 => by
    show ({ cls := c, slots := Array.replicate N .null, vm := .none } : Cell) = _
    rw [arrV_new]
    refine congrArg (arrV c N) (funext fun j => ?_)
    simp [va_rf]
  | i + 1 => by
    show (Jvm.Free.Multi.outerC c N h0 i).setSlot i (.ref (h0 + 1 + i)) = _
    rw [x_outer c N h0 i, arrV_store]
    refine congrArg (arrV c N) (funext fun j => ?_)
    by_cases e : j = i
    · subst e
      simp [updV, va_rf]
    · by_cases h : j < i
      · simp [updV, e, h, Nat.lt_succ_of_lt h]
      · simp [updV, e, h, show ¬ j < i + 1 by omega]
theorem X.mna {idx N N2 : Nat} (d : decode M.2.1 pc = .ok (.multianewarray idx 2, 4)) (hw : Cond.classLink M.1.cls idx "[[I" ∈ xT) (hw2 : Cond.arrayClass .int ∈ xT) (hN : N ≤ 60000) (hN2 : N2 ≤ 60000) (hc : k + (1 + N) ≤ M.2.2.2.2.cells) (hsl : n + (N + N * N2) ≤ M.2.2.2.2.slots)
    (K : X M (pc + 4) ls (vR sh.length :: st) (sh ++ (5, N) :: List.replicate N (0, N2)) (mnu ν sh.length N) (mmu μ sh.length) (k + 1 + N) (n + N + N * N2) Q) : X M pc ls (vI N2 :: vI N :: st) sh ν μ k n Q := by
  intro D cy base p l e s m args below meth c Z hC hZ H locs lsA hR hS hl okl oks
  have hts := hC.2.2.2.2.2.1
  have hr : xi32 (N : Int) := by unfold xi32; omega
  have hr2 : xi32 (N2 : Int) := by unfold xi32; omega
  have e0 : (Int32.ofInt (N : Int)).toNatClampNeg = N := by rw [← Int32.toNat_toInt, x32_to hr]; rfl
  have e02 : (Int32.ofInt (N2 : Int)).toNatClampNeg = N2 := by rw [← Int32.toNat_toInt, x32_to hr2]; rfl
  have h0 : ¬ Int32.ofInt (N : Int) < 0 := fun h => by have := (x32_lt hr xi32_0).mp h; omega
  have h02 : ¬ Int32.ofInt (N2 : Int) < 0 := fun h => by have := (x32_lt hr2 xi32_0).mp h; omega
  intro T hT Xs
  obtain ⟨vm₁, cA, comp, -, fA, fC, hO, -, X', step⟩ := Xs.multianewarray2F hC.1 (ty := .int) hC.2.2.2.2.1 (hts _ hw) hC.2.2.2.2.2.2.2.2.2.2.2.1 (hts _ hw2) (g := F0 m pc lsA ((vI N2 :: vI N :: st).map (xtr base))) rfl (by rw [hC.2.1]; exact d) rfl h0 h02 (by rw [e0]; omega) (by rw [e02]; show N2 * 4 ≤ _; omega) (by rw [e02]; omega) rfl rfl (by rw [e0]; exact hc) (by rw [e0, e02]; exact hsl)
  rw [e0, e02] at X' step
  have hK := hC.2.2.2.2.2.2.1
  have hcA : cA = cy 5 := Option.some.inj (fA.symm.trans (hK.2 5 _ rfl).2)
  have hcC : comp = cy 0 := Option.some.inj (fC.symm.trans (hK.2 0 _ rfl).2)
  subst hcA
  subst hcC
  generalize hF : Jvm.Free.Multi.fill (T.setVm vm₁) (cy 5) (cy 0) N N2 (defaultValue .int) N = F at X' step
  have hTh : (T.setVm vm₁).heap = H := hT
  obtain ⟨f1, f2, -, -⟩ := Jvm.Free.Multi.fill_facts (T.setVm vm₁) (cy 5) (cy 0) N N2 (defaultValue .int) N
  rw [hF, hTh] at f1 f2
  have hold : ∀ x : Nat, x < H.size → F.heap[x]? = H[x]? := fun x hx => by
    have := Jvm.Free.Multi.fill_old (T.setVm vm₁) (cy 5) (cy 0) N N2 (defaultValue .int) (a := x) (by rw [hTh]; exact hx) N
    rw [hF, hTh] at this
    exact this
  have hrow : ∀ j : Nat, j < N → F.heap[H.size + 1 + j]? = some (arrV (cy 0) N2 (fun _ => .int 0)) := fun j hj => by
    have := Jvm.Free.Multi.fill_inner (T.setVm vm₁) (cy 5) (cy 0) N N2 (defaultValue .int) N j hj
    rw [hF, hTh] at this
    rw [this, ← arrV_new]
    rfl
  rw [x_outer] at f2
  have hlen : (sh ++ (5, N) :: List.replicate N (0, N2)).length = sh.length + 1 + N := by simp; omega
  have hν : ∀ b, b < sh.length → mnu ν sh.length N b = ν b := fun b h => funext fun j => by
    unfold mnu
    rw [if_neg (Nat.ne_of_lt h), if_neg (by omega)]
  have hμ : ∀ b, b < sh.length → mmu μ sh.length b = μ b := fun b h => funext fun j => by
    unfold mmu
    rw [if_neg (by omega)]
  have hcase : ∀ (b : Nat) (t : Nat × Nat), (sh ++ (5, N) :: List.replicate N (0, N2))[b]? = some t → (b < sh.length ∧ sh[b]? = some t) ∨ (b = sh.length ∧ t = (5, N)) ∨ (∃ j, j < N ∧ b = sh.length + 1 + j ∧ t = (0, N2)) := by
    intro b t ht
    by_cases hb : b < sh.length
    · rw [List.getElem?_append_left hb] at ht
      exact Or.inl ⟨hb, ht⟩
    · rw [List.getElem?_append_right (by omega)] at ht
      cases hq : b - sh.length with
      | zero =>
        rw [hq] at ht
        exact Or.inr (Or.inl ⟨by omega, (Option.some.inj ht).symm⟩)
      | succ j =>
        rw [hq, List.getElem?_cons_succ] at ht
        have hj : j < N := by
          have := (List.getElem?_eq_some_iff.mp ht).1
          simpa using this
        rw [List.getElem?_replicate, if_pos hj] at ht
        exact Or.inr (Or.inr ⟨j, hj, by omega, (Option.some.inj ht).symm⟩)
  have hR2 : xRep D cy base (sh ++ (5, N) :: List.replicate N (0, N2)) (mnu ν sh.length N) (mmu μ sh.length) F.heap := by
    refine ⟨by rw [f1, hlen, hR.1]; omega, fun b q hq => ?_, fun b t ht => ?_⟩
    · obtain ⟨t, ht, rfl⟩ := xW_none hq
      rcases hcase b t ht with ⟨hb, ht2⟩ | ⟨rfl, rfl⟩ | ⟨j, hj, rfl, rfl⟩
      · rw [hν b hb, hμ b hb]
        exact (hR.2.1 b _ (xW_get ht2)).kept (hold _ (by rw [hR.1]; omega))
      · show F.heap[base + sh.length]? = some (vp_cell (cy 5) (N, .inr (.inr (.inr (.inr fun i => (mnu ν sh.length N sh.length i).map (base + ·))))))
        rw [vp_cell_q]
        rw [hR.1] at f2
        rw [f2]
        congr 2
        funext i
        unfold mnu
        rw [if_pos rfl]
        by_cases hi : i < N
        · rw [if_pos hi, if_pos hi]
          show Value.ref (base + sh.length + 1 + i) = Value.ref (base + (sh.length + 1 + i))
          rw [show base + sh.length + 1 + i = base + (sh.length + 1 + i) by omega]
        · rw [if_neg hi, if_neg hi]
          rfl
      · show F.heap[base + (sh.length + 1 + j)]? = some (vp_cell (cy 0) (N2, .inl fun i => Int32.ofInt (mmu μ sh.length (sh.length + 1 + j) i)))
        have := hrow j hj
        rw [hR.1] at this
        rw [show base + (sh.length + 1 + j) = base + sh.length + 1 + j by omega, this, vp_z]
        refine congrArg some (congrArg (vp_cell (cy 0)) (Prod.ext rfl (congrArg Sum.inl (funext fun i => ?_))))
        unfold mmu
        rw [if_pos (by omega)]
    · rw [hlen]
      rcases hcase b t ht with ⟨hb, ht2⟩ | ⟨rfl, rfl⟩ | ⟨j, hj, rfl, rfl⟩
      · obtain ⟨h1, h2⟩ := hR.2.2 b t ht2
        rw [hν b hb, hμ b hb]
        exact ⟨h1, fun i c hc => by have := h2 i c hc; omega⟩
      · refine ⟨fun i => ?_, fun i c hc => ?_⟩
        · unfold mmu
          rw [if_pos (Nat.le_refl _)]
          exact xrg_0 _
        · unfold mnu at hc
          rw [if_pos rfl] at hc
          split at hc
          · cases hc; omega
          · cases hc
      · refine ⟨fun i => ?_, fun i c hc => ?_⟩
        · unfold mmu
          rw [if_pos (by omega)]
          exact xrg_0 _
        · unfold mnu at hc
          rw [if_neg (by omega), if_pos (by omega)] at hc
          cases hc
  obtain ⟨t, a1, b1⟩ := K D cy base p l e s m args below meth c Z hC hZ F.heap locs lsA hR2 (va_S_mono hS (by rw [f1]; omega) hold) hl (fun q hq => x_okup (by rw [hlen]; omega) (okl q hq)) (x_c0 (show sh.length < _ by rw [hlen]; omega) fun v hv => x_okup (by rw [hlen]; omega) (x_t (x_t oks) v hv)) F rfl X'
  refine ⟨t, step t ?_, b1⟩
  have e9 : T.heap.size = base + sh.length := by rw [hT, hR.1]
  rw [e9]
  exact a1
end XR
end
section
theorem cl_X0 : xCL 0 RX0 TX0 3 := by
  refine ⟨rfl, rfl, fun w hw => List.mem_filter.mpr ⟨?_, ?_⟩, tyX0_ok, nmX0, by decide +kernel⟩
  · have h : ∀ w ∈ u_ws RX0 TX0 3, w ∈ lw_tbl := by
      have e : u_ws RX0 TX0 3 = [219, 221, 223].filterMap (fun i => lw_tbl[i]?) := by decide +kernel
      intro w hw
      rw [e] at hw
      obtain ⟨i, -, hi⟩ := List.mem_filterMap.mp hw
      exact List.mem_of_getElem? hi
    exact h w hw
  · have h : (u_ws RX0 TX0 3).all goodWord = true := by decide +kernel
    exact List.all_eq_true.mp h w hw
theorem cl_X1 : xCL 1 RX1 TX1 14 := by
  refine ⟨rfl, rfl, fun w hw => List.mem_filter.mpr ⟨?_, ?_⟩, tyX1_ok, nmX1, by decide +kernel⟩
  · have h : ∀ w ∈ u_ws RX1 TX1 14, w ∈ lw_tbl := by
      have e : u_ws RX1 TX1 14 = [291, 293, 295, 297, 299, 301, 303, 305, 307, 309, 311, 313, 315, 317].filterMap (fun i => lw_tbl[i]?) := by decide +kernel
      intro w hw
      rw [e] at hw
      obtain ⟨i, -, hi⟩ := List.mem_filterMap.mp hw
      exact List.mem_of_getElem? hi
    exact h w hw
  · have h : (u_ws RX1 TX1 14).all goodWord = true := by decide +kernel
    exact List.all_eq_true.mp h w hw
theorem cl_X2 : xCL 2 RX2 TX2 6 := by
  refine ⟨rfl, rfl, fun w hw => List.mem_filter.mpr ⟨?_, ?_⟩, tyX2_ok, nmX2, by decide +kernel⟩
  · have h : ∀ w ∈ u_ws RX2 TX2 6, w ∈ lw_tbl := by
      have e : u_ws RX2 TX2 6 = [388, 390, 392, 394, 396, 398].filterMap (fun i => lw_tbl[i]?) := by decide +kernel
      intro w hw
      rw [e] at hw
      obtain ⟨i, -, hi⟩ := List.mem_filterMap.mp hw
      exact List.mem_of_getElem? hi
    exact h w hw
  · have h : (u_ws RX2 TX2 6).all goodWord = true := by decide +kernel
    exact List.all_eq_true.mp h w hw
theorem cl_X3 : xCL 3 RX3 TX3 3 := by
  refine ⟨rfl, rfl, fun w hw => List.mem_filter.mpr ⟨?_, ?_⟩, tyX3_ok, nmX3, by decide +kernel⟩
  · have h : ∀ w ∈ u_ws RX3 TX3 3, w ∈ lw_tbl := by
      have e : u_ws RX3 TX3 3 = [170, 172, 174].filterMap (fun i => lw_tbl[i]?) := by decide +kernel
      intro w hw
      rw [e] at hw
      obtain ⟨i, -, hi⟩ := List.mem_filterMap.mp hw
      exact List.mem_of_getElem? hi
    exact h w hw
  · have h : (u_ws RX3 TX3 3).all goodWord = true := by decide +kernel
    exact List.all_eq_true.mp h w hw
theorem cl_X4 : xCL 4 RX4 TX4 11 := by
  refine ⟨rfl, rfl, fun w hw => List.mem_filter.mpr ⟨?_, ?_⟩, tyX4_ok, nmX4, by decide +kernel⟩
  · have h : ∀ w ∈ u_ws RX4 TX4 11, w ∈ lw_tbl := by
      have e : u_ws RX4 TX4 11 = [252, 254, 256, 258, 260, 262, 264, 266, 268, 270, 272].filterMap (fun i => lw_tbl[i]?) := by decide +kernel
      intro w hw
      rw [e] at hw
      obtain ⟨i, -, hi⟩ := List.mem_filterMap.mp hw
      exact List.mem_of_getElem? hi
    exact h w hw
  · have h : (u_ws RX4 TX4 11).all goodWord = true := by decide +kernel
    exact List.all_eq_true.mp h w hw
theorem cl_X5 : xCL 5 RX5 TX5 4 := by
  refine ⟨rfl, rfl, fun w hw => List.mem_filter.mpr ⟨?_, ?_⟩, tyX5_ok, nmX5, by decide +kernel⟩
  · have h : ∀ w ∈ u_ws RX5 TX5 4, w ∈ lw_tbl := by
      have e : u_ws RX5 TX5 4 = [198, 200, 202, 204].filterMap (fun i => lw_tbl[i]?) := by decide +kernel
      intro w hw
      rw [e] at hw
      obtain ⟨i, -, hi⟩ := List.mem_filterMap.mp hw
      exact List.mem_of_getElem? hi
    exact h w hw
  · have h : (u_ws RX5 TX5 4).all goodWord = true := by decide +kernel
    exact List.all_eq_true.mp h w hw
theorem cl_X6 : xCL 6 RX6 TX6 6 := by
  refine ⟨rfl, rfl, fun w hw => List.mem_filter.mpr ⟨?_, ?_⟩, tyX6_ok, nmX6, by decide +kernel⟩
  · have h : ∀ w ∈ u_ws RX6 TX6 6, w ∈ lw_tbl := by
      have e : u_ws RX6 TX6 6 = [95, 97, 99, 101, 103, 105].filterMap (fun i => lw_tbl[i]?) := by decide +kernel
      intro w hw
      rw [e] at hw
      obtain ⟨i, -, hi⟩ := List.mem_filterMap.mp hw
      exact List.mem_of_getElem? hi
    exact h w hw
  · have h : (u_ws RX6 TX6 6).all goodWord = true := by decide +kernel
    exact List.all_eq_true.mp h w hw
theorem cl_X7 : xCL 7 RX7 TX7 9 := by
  refine ⟨rfl, rfl, fun w hw => List.mem_filter.mpr ⟨?_, ?_⟩, tyX7_ok, nmX7, by decide +kernel⟩
  · have h : ∀ w ∈ u_ws RX7 TX7 9, w ∈ lw_tbl := by
      have e : u_ws RX7 TX7 9 = [141, 143, 145, 147, 149, 151, 153, 155, 157].filterMap (fun i => lw_tbl[i]?) := by decide +kernel
      intro w hw
      rw [e] at hw
      obtain ⟨i, -, hi⟩ := List.mem_filterMap.mp hw
      exact List.mem_of_getElem? hi
    exact h w hw
  · have h : (u_ws RX7 TX7 9).all goodWord = true := by decide +kernel
    exact List.all_eq_true.mp h w hw
theorem cl_X8 : xCL 8 RX8 TX8 12 := by
  refine ⟨rfl, rfl, fun w hw => List.mem_filter.mpr ⟨?_, ?_⟩, tyX8_ok, nmX8, by decide +kernel⟩
  · have h : ∀ w ∈ u_ws RX8 TX8 12, w ∈ lw_tbl := by
      have e : u_ws RX8 TX8 12 = [346, 348, 350, 352, 354, 356, 358, 360, 362, 364, 366, 368].filterMap (fun i => lw_tbl[i]?) := by decide +kernel
      intro w hw
      rw [e] at hw
      obtain ⟨i, -, hi⟩ := List.mem_filterMap.mp hw
      exact List.mem_of_getElem? hi
    exact h w hw
  · have h : (u_ws RX8 TX8 12).all goodWord = true := by decide +kernel
    exact List.all_eq_true.mp h w hw
theorem cl_X9 : xCL 9 RX9 TX9 9 := by
  refine ⟨rfl, rfl, fun w hw => List.mem_filter.mpr ⟨?_, ?_⟩, tyX9_ok, nmX9, by decide +kernel⟩
  · have h : ∀ w ∈ u_ws RX9 TX9 9, w ∈ lw_tbl := by
      have e : u_ws RX9 TX9 9 = [410, 412, 414, 416, 418, 420, 422, 424, 426].filterMap (fun i => lw_tbl[i]?) := by decide +kernel
      intro w hw
      rw [e] at hw
      obtain ⟨i, -, hi⟩ := List.mem_filterMap.mp hw
      exact List.mem_of_getElem? hi
    exact h w hw
  · have h : (u_ws RX9 TX9 9).all goodWord = true := by decide +kernel
    exact List.all_eq_true.mp h w hw
theorem cl_X10 : xCL 10 RX10 TX10 51 := by
  refine ⟨rfl, rfl, fun w hw => List.mem_filter.mpr ⟨?_, ?_⟩, tyX10_ok, nmX10, by decide +kernel⟩
  · have h : ∀ w ∈ u_ws RX10 TX10 51, w ∈ lw_tbl := by
      have e : u_ws RX10 TX10 51 = [893, 895, 897, 899, 901, 903, 905, 907, 909, 911, 913, 915, 917, 919, 921, 923, 925, 927, 929, 931, 933, 935, 937, 939, 941, 943, 945, 947, 949, 951, 953, 955, 957, 959, 961, 963, 965, 967, 969, 971, 973, 975, 977, 979, 981, 983, 985, 987, 989, 991, 993].filterMap (fun i => lw_tbl[i]?) := by decide +kernel
      intro w hw
      rw [e] at hw
      obtain ⟨i, -, hi⟩ := List.mem_filterMap.mp hw
      exact List.mem_of_getElem? hi
    exact h w hw
  · have h : (u_ws RX10 TX10 51).all goodWord = true := by decide +kernel
    exact List.all_eq_true.mp h w hw
abbrev mX0_init : xM := (yX0_init, cX0_init, 1, none, { frames := 1, cells := 1, slots := 81, locals := 20 })
abbrev mX0_begin : xM := (yX0_begin, cX0_begin, 3, none, { frames := 1, cells := 0, slots := 0, locals := 23 })
abbrev mX0_has : xM := (yX0_has, cX0_has, 2, (some .boolean), { frames := 0, cells := 0, slots := 0, locals := 0 })
abbrev mX0_set : xM := (yX0_set, cX0_set, 5, none, { frames := 1, cells := 0, slots := 0, locals := 21 })
abbrev mX0_soleLetter : xM := (yX0_soleLetter, cX0_soleLetter, 10, (some .int), { frames := 1, cells := 0, slots := 0, locals := 21 })
abbrev mX1_init : xM := (yX1_init, cX1_init, 10, none, { frames := 2, cells := 17, slots := 52951, locals := 40 })
abbrev mX1_settle : xM := (yX1_settle, cX1_settle, 8, (some .int), { frames := 5, cells := 0, slots := 0, locals := 138 })
abbrev mX1_waysOf : xM := (yX1_waysOf, cX1_waysOf, 2, (some .long), { frames := 0, cells := 0, slots := 0, locals := 0 })
abbrev mX1_costOf : xM := (yX1_costOf, cX1_costOf, 4, (some .int), { frames := 1, cells := 0, slots := 0, locals := 21 })
abbrev mX1_stepsOf : xM := (yX1_stepsOf, cX1_stepsOf, 4, (some .int), { frames := 1, cells := 0, slots := 0, locals := 21 })
abbrev mX1_pickOf : xM := (yX1_pickOf, cX1_pickOf, 2, (some .int), { frames := 0, cells := 0, slots := 0, locals := 0 })
abbrev mX1_weightOf : xM := (yX1_weightOf, cX1_weightOf, 2, (some .long), { frames := 0, cells := 0, slots := 0, locals := 0 })
abbrev mX1_spanOf : xM := (yX1_spanOf, cX1_spanOf, 3, (some .int), { frames := 0, cells := 0, slots := 0, locals := 0 })
abbrev mX1_cellOfPart : xM := (yX1_cellOfPart, cX1_cellOfPart, 6, (some .int), { frames := 1, cells := 0, slots := 0, locals := 22 })
abbrev mX1_askBelow : xM := (yX1_askBelow, cX1_askBelow, 9, none, { frames := 3, cells := 0, slots := 0, locals := 73 })
abbrev mX1_askParts : xM := (yX1_askParts, cX1_askParts, 5, none, { frames := 2, cells := 0, slots := 0, locals := 47 })
abbrev mX1_settleCell : xM := (yX1_settleCell, cX1_settleCell, 8, none, { frames := 4, cells := 0, slots := 0, locals := 111 })
abbrev mX1_gainOfParts : xM := (yX1_gainOfParts, cX1_gainOfParts, 14, none, { frames := 3, cells := 0, slots := 0, locals := 72 })
abbrev mX1_keep : xM := (yX1_keep, cX1_keep, 5, none, { frames := 1, cells := 0, slots := 0, locals := 21 })
abbrev mX1_times : xM := (yX1_times, cX1_times, 4, (some .long), { frames := 0, cells := 0, slots := 0, locals := 0 })
abbrev mX2_init : xM := (yX2_init, cX2_init, 1, none, { frames := 1, cells := 2, slots := 8400, locals := 20 })
abbrev mX2_empty : xM := (yX2_empty, cX2_empty, 1, none, { frames := 1, cells := 0, slots := 0, locals := 22 })
abbrev mX2_begin : xM := (yX2_begin, cX2_begin, 3, none, { frames := 0, cells := 0, slots := 0, locals := 0 })
abbrev mX2_add : xM := (yX2_add, cX2_add, 3, none, { frames := 0, cells := 0, slots := 0, locals := 0 })
abbrev mX2_letterOf : xM := (yX2_letterOf, cX2_letterOf, 4, (some .int), { frames := 0, cells := 0, slots := 0, locals := 0 })
abbrev mX2_paint : xM := (yX2_paint, cX2_paint, 8, none, { frames := 2, cells := 0, slots := 0, locals := 46 })
abbrev mX3_init : xM := (yX3_init, cX3_init, 2, none, { frames := 3, cells := 205, slots := 1384, locals := 60 })
abbrev mX3_isFull : xM := (yX3_isFull, cX3_isFull, 1, (some .boolean), { frames := 0, cells := 0, slots := 0, locals := 0 })
abbrev mX3_has : xM := (yX3_has, cX3_has, 2, (some .boolean), { frames := 0, cells := 0, slots := 0, locals := 0 })
abbrev mX3_empty : xM := (yX3_empty, cX3_empty, 1, none, { frames := 1, cells := 0, slots := 0, locals := 20 })
abbrev mX3_addFill : xM := (yX3_addFill, cX3_addFill, 4, (some .int), { frames := 2, cells := 0, slots := 0, locals := 46 })
abbrev mX3_addSplit : xM := (yX3_addSplit, cX3_addSplit, 4, (some .int), { frames := 2, cells := 0, slots := 0, locals := 46 })
abbrev mX3_addRepeat : xM := (yX3_addRepeat, cX3_addRepeat, 6, (some .int), { frames := 2, cells := 0, slots := 0, locals := 46 })
abbrev mX4_init : xM := (yX4_init, cX4_init, 1, none, { frames := 1, cells := 9, slots := 200, locals := 20 })
abbrev mX4_begin : xM := (yX4_begin, cX4_begin, 1, none, { frames := 1, cells := 0, slots := 0, locals := 24 })
abbrev mX4_gain : xM := (yX4_gain, cX4_gain, 7, none, { frames := 2, cells := 0, slots := 0, locals := 46 })
abbrev mX4_tie : xM := (yX4_tie, cX4_tie, 6, none, { frames := 0, cells := 0, slots := 0, locals := 0 })
abbrev mX4_waysOf : xM := (yX4_waysOf, cX4_waysOf, 2, (some .long), { frames := 0, cells := 0, slots := 0, locals := 0 })
abbrev mX4_settle : xM := (yX4_settle, cX4_settle, 1, none, { frames := 3, cells := 0, slots := 0, locals := 91 })
abbrev mX4_findEndless : xM := (yX4_findEndless, cX4_findEndless, 4, none, { frames := 1, cells := 0, slots := 0, locals := 23 })
abbrev mX4_tiedTo : xM := (yX4_tiedTo, cX4_tiedTo, 4, (some .int), { frames := 0, cells := 0, slots := 0, locals := 0 })
abbrev mX4_sumTies : xM := (yX4_sumTies, cX4_sumTies, 4, none, { frames := 2, cells := 0, slots := 0, locals := 68 })
abbrev mX4_lightenByTies : xM := (yX4_lightenByTies, cX4_lightenByTies, 6, none, { frames := 0, cells := 0, slots := 0, locals := 0 })
abbrev mX4_pickAmongTies : xM := (yX4_pickAmongTies, cX4_pickAmongTies, 5, none, { frames := 0, cells := 0, slots := 0, locals := 0 })
abbrev mX4_plus : xM := (yX4_plus, cX4_plus, 4, (some .long), { frames := 1, cells := 0, slots := 0, locals := 23 })
abbrev mX5_init : xM := (yX5_init, cX5_init, 1, none, { frames := 1, cells := 3, slots := 60, locals := 20 })
abbrev mX5_lay : xM := (yX5_lay, cX5_lay, 6, (some .boolean), { frames := 2, cells := 0, slots := 0, locals := 48 })
abbrev mX5_laySplit : xM := (yX5_laySplit, cX5_laySplit, 7, (some .boolean), { frames := 1, cells := 0, slots := 0, locals := 22 })
abbrev mX5_layRepeat : xM := (yX5_layRepeat, cX5_layRepeat, 6, (some .boolean), { frames := 1, cells := 0, slots := 0, locals := 22 })
abbrev mX5_laidOneAfterAnother : xM := (yX5_laidOneAfterAnother, cX5_laidOneAfterAnother, 3, (some .boolean), { frames := 0, cells := 0, slots := 0, locals := 0 })
abbrev mX6_init : xM := (yX6_init, cX6_init, 1, none, { frames := 1, cells := 3, slots := 18, locals := 20 })
abbrev mX6_empty : xM := (yX6_empty, cX6_empty, 1, none, { frames := 0, cells := 0, slots := 0, locals := 0 })
abbrev mX6_add : xM := (yX6_add, cX6_add, 4, none, { frames := 0, cells := 0, slots := 0, locals := 0 })
abbrev mX6_copy : xM := (yX6_copy, cX6_copy, 3, none, { frames := 1, cells := 0, slots := 0, locals := 23 })
abbrev mX7_init : xM := (yX7_init, cX7_init, 1, none, { frames := 2, cells := 4, slots := 24, locals := 40 })
abbrev mX7_begin : xM := (yX7_begin, cX7_begin, 4, none, { frames := 1, cells := 0, slots := 0, locals := 23 })
abbrev mX7_limit : xM := (yX7_limit, cX7_limit, 4, none, { frames := 0, cells := 0, slots := 0, locals := 0 })
abbrev mX7_admits : xM := (yX7_admits, cX7_admits, 3, (some .boolean), { frames := 1, cells := 0, slots := 0, locals := 22 })
abbrev mX7_isAlongY : xM := (yX7_isAlongY, cX7_isAlongY, 1, (some .boolean), { frames := 0, cells := 0, slots := 0, locals := 0 })
abbrev mX7_isRepeat : xM := (yX7_isRepeat, cX7_isRepeat, 1, (some .boolean), { frames := 0, cells := 0, slots := 0, locals := 0 })
abbrev mX7_weight : xM := (yX7_weight, cX7_weight, 1, (some .long), { frames := 0, cells := 0, slots := 0, locals := 0 })
abbrev mX8_init : xM := (yX8_init, cX8_init, 3, none, { frames := 1, cells := 9, slots := 2847, locals := 20 })
abbrev mX8_begin : xM := (yX8_begin, cX8_begin, 4, none, { frames := 1, cells := 0, slots := 0, locals := 27 })
abbrev mX8_push : xM := (yX8_push, cX8_push, 8, none, { frames := 0, cells := 0, slots := 0, locals := 0 })
abbrev mX8_next : xM := (yX8_next, cX8_next, 1, (some .boolean), { frames := 0, cells := 0, slots := 0, locals := 0 })
abbrev mX8_spread : xM := (yX8_spread, cX8_spread, 7, none, { frames := 3, cells := 0, slots := 0, locals := 73 })
abbrev mX8_grow : xM := (yX8_grow, cX8_grow, 8, (some .int), { frames := 4, cells := 0, slots := 0, locals := 99 })
abbrev mX8_choose : xM := (yX8_choose, cX8_choose, 4, (some .int), { frames := 3, cells := 0, slots := 0, locals := 73 })
abbrev mX9_init : xM := (yX9_init, cX9_init, 1, none, { frames := 4, cells := 264, slots := 127136, locals := 81 })
abbrev mX9_fill : xM := (yX9_fill, cX9_fill, 4, (some .int), { frames := 3, cells := 0, slots := 0, locals := 69 })
abbrev mX9_part : xM := (yX9_part, cX9_part, 4, (some .int), { frames := 2, cells := 0, slots := 0, locals := 42 })
abbrev mX9_split : xM := (yX9_split, cX9_split, 4, (some .int), { frames := 3, cells := 0, slots := 0, locals := 69 })
abbrev mX9_repeat : xM := (yX9_repeat, cX9_repeat, 6, (some .int), { frames := 3, cells := 0, slots := 0, locals := 71 })
abbrev mX9_only : xM := (yX9_only, cX9_only, 5, (some .int), { frames := 1, cells := 0, slots := 0, locals := 23 })
abbrev mX9_clear : xM := (yX9_clear, cX9_clear, 2, (some .int), { frames := 2, cells := 0, slots := 0, locals := 42 })
abbrev mX9_rule : xM := (yX9_rule, cX9_rule, 4, (some .int), { frames := 1, cells := 0, slots := 0, locals := 21 })
abbrev mX9_holds : xM := (yX9_holds, cX9_holds, 4, (some .int), { frames := 3, cells := 0, slots := 0, locals := 73 })
abbrev mX9_piece : xM := (yX9_piece, cX9_piece, 6, (some .int), { frames := 3, cells := 0, slots := 0, locals := 73 })
abbrev mX9_draw : xM := (yX9_draw, cX9_draw, 6, (some .int), { frames := 5, cells := 0, slots := 0, locals := 126 })
abbrev mX9_at : xM := (yX9_at, cX9_at, 3, (some .int), { frames := 1, cells := 0, slots := 0, locals := 23 })
abbrev mX9_step : xM := (yX9_step, cX9_step, 2, (some .int), { frames := 0, cells := 0, slots := 0, locals := 0 })
abbrev mX9_drawn : xM := (yX9_drawn, cX9_drawn, 1, (some .int), { frames := 0, cells := 0, slots := 0, locals := 0 })
abbrev mX9_fault : xM := (yX9_fault, cX9_fault, 1, (some .int), { frames := 0, cells := 0, slots := 0, locals := 0 })
abbrev mX9_take : xM := (yX9_take, cX9_take, 3, (some .int), { frames := 2, cells := 0, slots := 0, locals := 45 })
abbrev mX9_ways : xM := (yX9_ways, cX9_ways, 4, (some .long), { frames := 6, cells := 0, slots := 0, locals := 165 })
abbrev mX9_least : xM := (yX9_least, cX9_least, 4, (some .int), { frames := 6, cells := 0, slots := 0, locals := 165 })
abbrev mX9_board : xM := (yX9_board, cX9_board, 3, (some .int), { frames := 2, cells := 0, slots := 0, locals := 45 })
abbrev mX9_put : xM := (yX9_put, cX9_put, 4, (some .int), { frames := 1, cells := 0, slots := 0, locals := 22 })
abbrev mX9_parses : xM := (yX9_parses, cX9_parses, 1, (some .long), { frames := 7, cells := 0, slots := 0, locals := 185 })
abbrev mX9_best : xM := (yX9_best, cX9_best, 1, (some .int), { frames := 7, cells := 0, slots := 0, locals := 185 })
abbrev mX9_bestStep : xM := (yX9_bestStep, cX9_bestStep, 4, (some .int), { frames := 7, cells := 0, slots := 0, locals := 185 })
abbrev mX9_stands : xM := (yX9_stands, cX9_stands, 7, (some .long), { frames := 6, cells := 0, slots := 0, locals := 165 })
abbrev mX9_count : xM := (yX9_count, cX9_count, 2, (some .int), { frames := 0, cells := 0, slots := 0, locals := 0 })
abbrev mX9_settleBoard : xM := (yX9_settleBoard, cX9_settleBoard, 1, (some .int), { frames := 6, cells := 0, slots := 0, locals := 165 })
abbrev mX9_forgetParses : xM := (yX9_forgetParses, cX9_forgetParses, 1, none, { frames := 0, cells := 0, slots := 0, locals := 0 })
abbrev mX9_isName : xM := (yX9_isName, cX9_isName, 1, (some .boolean), { frames := 1, cells := 0, slots := 0, locals := 22 })
abbrev mX9_isCost : xM := (yX9_isCost, cX9_isCost, 1, (some .boolean), { frames := 1, cells := 0, slots := 0, locals := 22 })
abbrev mX9_isScope : xM := (yX9_isScope, cX9_isScope, 2, (some .boolean), { frames := 1, cells := 0, slots := 0, locals := 22 })
abbrev mX9_isWithin : xM := (yX9_isWithin, cX9_isWithin, 3, (some .boolean), { frames := 0, cells := 0, slots := 0, locals := 0 })
abbrev mX10_init : xM := (yX10_init, cX10_init, 1, none, { frames := 1, cells := 35, slots := 245135, locals := 23 })
abbrev mX10_in : xM := (yX10_in, cX10_in, 6, (some .boolean), { frames := 0, cells := 0, slots := 0, locals := 0 })
abbrev mX10_isName : xM := (yX10_isName, cX10_isName, 1, (some .boolean), { frames := 1, cells := 0, slots := 0, locals := 25 })
abbrev mX10_add : xM := (yX10_add, cX10_add, 6, (some .int), { frames := 1, cells := 0, slots := 0, locals := 20 })
abbrev mX10_addPart : xM := (yX10_addPart, cX10_addPart, 6, none, { frames := 0, cells := 0, slots := 0, locals := 0 })
abbrev mX10_fill : xM := (yX10_fill, cX10_fill, 4, (some .int), { frames := 2, cells := 0, slots := 0, locals := 45 })
abbrev mX10_part : xM := (yX10_part, cX10_part, 4, (some .int), { frames := 2, cells := 0, slots := 0, locals := 45 })
abbrev mX10_split : xM := (yX10_split, cX10_split, 6, (some .int), { frames := 2, cells := 0, slots := 0, locals := 45 })
abbrev mX10_repeat : xM := (yX10_repeat, cX10_repeat, 7, (some .int), { frames := 2, cells := 0, slots := 0, locals := 45 })
abbrev mX10_isRule : xM := (yX10_isRule, cX10_isRule, 2, (some .boolean), { frames := 1, cells := 0, slots := 0, locals := 25 })
abbrev mX10_isLength : xM := (yX10_isLength, cX10_isLength, 1, (some .boolean), { frames := 1, cells := 0, slots := 0, locals := 25 })
abbrev mX10_only : xM := (yX10_only, cX10_only, 6, (some .int), { frames := 2, cells := 0, slots := 0, locals := 46 })
abbrev mX10_clear : xM := (yX10_clear, cX10_clear, 2, (some .int), { frames := 1, cells := 0, slots := 0, locals := 20 })
abbrev mX10_rule : xM := (yX10_rule, cX10_rule, 3, (some .int), { frames := 2, cells := 0, slots := 0, locals := 46 })
abbrev mX10_isAlongY : xM := (yX10_isAlongY, cX10_isAlongY, 2, (some .boolean), { frames := 0, cells := 0, slots := 0, locals := 0 })
abbrev mX10_layRepeat : xM := (yX10_layRepeat, cX10_layRepeat, 7, (some .boolean), { frames := 0, cells := 0, slots := 0, locals := 0 })
abbrev mX10_laySplit : xM := (yX10_laySplit, cX10_laySplit, 9, (some .boolean), { frames := 0, cells := 0, slots := 0, locals := 0 })
abbrev mX10_lay : xM := (yX10_lay, cX10_lay, 6, (some .boolean), { frames := 1, cells := 0, slots := 0, locals := 28 })
abbrev mX10_holds : xM := (yX10_holds, cX10_holds, 4, (some .int), { frames := 2, cells := 0, slots := 0, locals := 53 })
abbrev mX10_piece : xM := (yX10_piece, cX10_piece, 6, (some .int), { frames := 2, cells := 0, slots := 0, locals := 53 })
abbrev mX10_put : xM := (yX10_put, cX10_put, 6, none, { frames := 0, cells := 0, slots := 0, locals := 0 })
abbrev mX10_picked : xM := (yX10_picked, cX10_picked, 8, (some .int), { frames := 2, cells := 0, slots := 0, locals := 53 })
abbrev mX10_putPieces : xM := (yX10_putPieces, cX10_putPieces, 10, none, { frames := 1, cells := 0, slots := 0, locals := 25 })
abbrev mX10_draw : xM := (yX10_draw, cX10_draw, 12, (some .int), { frames := 3, cells := 0, slots := 0, locals := 80 })
abbrev mX10_fillDraft : xM := (yX10_fillDraft, cX10_fillDraft, 8, none, { frames := 0, cells := 0, slots := 0, locals := 0 })
abbrev mX10_at : xM := (yX10_at, cX10_at, 3, (some .int), { frames := 1, cells := 0, slots := 0, locals := 25 })
abbrev mX10_step : xM := (yX10_step, cX10_step, 2, (some .int), { frames := 1, cells := 0, slots := 0, locals := 25 })
abbrev mX10_drawn : xM := (yX10_drawn, cX10_drawn, 1, (some .int), { frames := 0, cells := 0, slots := 0, locals := 0 })
abbrev mX10_fault : xM := (yX10_fault, cX10_fault, 1, (some .int), { frames := 0, cells := 0, slots := 0, locals := 0 })
abbrev mX10_take : xM := (yX10_take, cX10_take, 3, (some .int), { frames := 1, cells := 0, slots := 0, locals := 23 })
abbrev mX10_boards : xM := (yX10_boards, cX10_boards, 4, none, { frames := 0, cells := 0, slots := 0, locals := 0 })
abbrev mX10_board : xM := (yX10_board, cX10_board, 3, (some .int), { frames := 1, cells := 0, slots := 0, locals := 25 })
abbrev mX10_isPlace : xM := (yX10_isPlace, cX10_isPlace, 2, (some .boolean), { frames := 1, cells := 0, slots := 0, locals := 25 })
abbrev mX10_put_ : xM := (yX10_put_, cX10_put_, 4, (some .int), { frames := 2, cells := 0, slots := 0, locals := 46 })
abbrev mX10_place : xM := (yX10_place, cX10_place, 5, (some .int), { frames := 0, cells := 0, slots := 0, locals := 0 })
abbrev mX10_isAll : xM := (yX10_isAll, cX10_isAll, 9, (some .boolean), { frames := 0, cells := 0, slots := 0, locals := 0 })
abbrev mX10_plus : xM := (yX10_plus, cX10_plus, 4, (some .long), { frames := 0, cells := 0, slots := 0, locals := 0 })
abbrev mX10_mult : xM := (yX10_mult, cX10_mult, 4, (some .long), { frames := 0, cells := 0, slots := 0, locals := 0 })
abbrev mX10_count : xM := (yX10_count, cX10_count, 12, none, { frames := 2, cells := 0, slots := 0, locals := 53 })
abbrev mX10_findMade : xM := (yX10_findMade, cX10_findMade, 3, none, { frames := 0, cells := 0, slots := 0, locals := 0 })
abbrev mX10_isEndless : xM := (yX10_isEndless, cX10_isEndless, 4, (some .boolean), { frames := 0, cells := 0, slots := 0, locals := 0 })
abbrev mX10_sum : xM := (yX10_sum, cX10_sum, 7, none, { frames := 1, cells := 0, slots := 0, locals := 23 })
abbrev mX10_tries : xM := (yX10_tries, cX10_tries, 11, (some .boolean), { frames := 2, cells := 0, slots := 0, locals := 53 })
abbrev mX10_improve : xM := (yX10_improve, cX10_improve, 9, (some .boolean), { frames := 3, cells := 0, slots := 0, locals := 83 })
abbrev mX10_work : xM := (yX10_work, cX10_work, 7, none, { frames := 4, cells := 0, slots := 0, locals := 111 })
abbrev mX10_workScopes : xM := (yX10_workScopes, cX10_workScopes, 3, none, { frames := 5, cells := 0, slots := 0, locals := 137 })
abbrev mX10_forget : xM := (yX10_forget, cX10_forget, 1, none, { frames := 0, cells := 0, slots := 0, locals := 0 })
abbrev mX10_workBoard : xM := (yX10_workBoard, cX10_workBoard, 5, none, { frames := 5, cells := 0, slots := 0, locals := 137 })
abbrev mX10_ways : xM := (yX10_ways, cX10_ways, 4, (some .long), { frames := 6, cells := 0, slots := 0, locals := 159 })
abbrev mX10_least : xM := (yX10_least, cX10_least, 5, (some .int), { frames := 6, cells := 0, slots := 0, locals := 159 })
abbrev mX10_parses : xM := (yX10_parses, cX10_parses, 1, (some .long), { frames := 6, cells := 0, slots := 0, locals := 161 })
abbrev mX10_best : xM := (yX10_best, cX10_best, 2, (some .int), { frames := 6, cells := 0, slots := 0, locals := 161 })
abbrev mX10_bestStep : xM := (yX10_bestStep, cX10_bestStep, 10, (some .int), { frames := 6, cells := 0, slots := 0, locals := 161 })
abbrev mX10_stands : xM := (yX10_stands, cX10_stands, 5, (some .long), { frames := 6, cells := 0, slots := 0, locals := 161 })
abbrev mX10_count_ : xM := (yX10_count_, cX10_count_, 2, (some .int), { frames := 0, cells := 0, slots := 0, locals := 0 })
abbrev mJ7_rangeCheck_23922 : xM := (yJ7_rangeCheck_23922, cJ7_rangeCheck_23922, 3, none, { frames := 0, cells := 0, slots := 0, locals := 0 })
abbrev mJ7_fill_d0a16 : xM := (yJ7_fill_d0a16, cJ7_fill_d0a16, 5, none, { frames := 0, cells := 0, slots := 0, locals := 0 })
abbrev mJ7_fill_53178 : xM := (yJ7_fill_53178, cJ7_fill_53178, 4, none, { frames := 0, cells := 0, slots := 0, locals := 0 })
abbrev mJ7_fill_031fb : xM := (yJ7_fill_031fb, cJ7_fill_031fb, 4, none, { frames := 0, cells := 0, slots := 0, locals := 0 })
abbrev mJ7_fill_eb02e : xM := (yJ7_fill_eb02e, cJ7_fill_eb02e, 5, none, { frames := 1, cells := 0, slots := 0, locals := 22 })
abbrev mL_law : xM := (yL_law, cL_law, 4, some .boolean, room_1)
theorem okM_X0_init : xOKM mX0_init 0 := ⟨x_in (i := 211) (by decide +kernel) rfl, x_in (i := 51) (by decide +kernel) rfl, by decide +kernel, by decide +kernel⟩
theorem inst_X0_init : Cond.instanceMethod yX0_init ∈ xT := x_in (i := 210) (by decide +kernel) rfl
theorem okM_X0_begin : xOKM mX0_begin 2 := ⟨x_in (i := 642) (by decide +kernel) rfl, x_in (i := 51) (by decide +kernel) rfl, by decide +kernel, by decide +kernel⟩
theorem inst_X0_begin : Cond.instanceMethod yX0_begin ∈ xT := x_in (i := 640) (by decide +kernel) rfl
theorem sel_X0_begin : Cond.selects RX0 yX0_begin yX0_begin ∈ xT := x_in (i := 641) (by decide +kernel) rfl
theorem okM_X0_has : xOKM mX0_has 1 := ⟨x_in (i := 653) (by decide +kernel) rfl, x_in (i := 51) (by decide +kernel) rfl, by decide +kernel, by decide +kernel⟩
theorem inst_X0_has : Cond.instanceMethod yX0_has ∈ xT := x_in (i := 651) (by decide +kernel) rfl
theorem sel_X0_has : Cond.selects RX0 yX0_has yX0_has ∈ xT := x_in (i := 652) (by decide +kernel) rfl
theorem okM_X0_set : xOKM mX0_set 3 := ⟨x_in (i := 649) (by decide +kernel) rfl, x_in (i := 51) (by decide +kernel) rfl, by decide +kernel, by decide +kernel⟩
theorem inst_X0_set : Cond.instanceMethod yX0_set ∈ xT := x_in (i := 647) (by decide +kernel) rfl
theorem sel_X0_set : Cond.selects RX0 yX0_set yX0_set ∈ xT := x_in (i := 648) (by decide +kernel) rfl
theorem okM_X0_soleLetter : xOKM mX0_soleLetter 4 := ⟨x_in (i := 693) (by decide +kernel) rfl, x_in (i := 51) (by decide +kernel) rfl, by decide +kernel, by decide +kernel⟩
theorem inst_X0_soleLetter : Cond.instanceMethod yX0_soleLetter ∈ xT := x_in (i := 691) (by decide +kernel) rfl
theorem sel_X0_soleLetter : Cond.selects RX0 yX0_soleLetter yX0_soleLetter ∈ xT := x_in (i := 692) (by decide +kernel) rfl
theorem okM_X1_init : xOKM mX1_init 4 := ⟨x_in (i := 231) (by decide +kernel) rfl, x_in (i := 52) (by decide +kernel) rfl, by decide +kernel, by decide +kernel⟩
theorem inst_X1_init : Cond.instanceMethod yX1_init ∈ xT := x_in (i := 230) (by decide +kernel) rfl
theorem okM_X1_settle : xOKM mX1_settle 5 := ⟨x_in (i := 663) (by decide +kernel) rfl, x_in (i := 52) (by decide +kernel) rfl, by decide +kernel, by decide +kernel⟩
theorem inst_X1_settle : Cond.instanceMethod yX1_settle ∈ xT := x_in (i := 661) (by decide +kernel) rfl
theorem sel_X1_settle : Cond.selects RX1 yX1_settle yX1_settle ∈ xT := x_in (i := 662) (by decide +kernel) rfl
theorem okM_X1_waysOf : xOKM mX1_waysOf 1 := ⟨x_in (i := 731) (by decide +kernel) rfl, x_in (i := 52) (by decide +kernel) rfl, by decide +kernel, by decide +kernel⟩
theorem inst_X1_waysOf : Cond.instanceMethod yX1_waysOf ∈ xT := x_in (i := 729) (by decide +kernel) rfl
theorem sel_X1_waysOf : Cond.selects RX1 yX1_waysOf yX1_waysOf ∈ xT := x_in (i := 730) (by decide +kernel) rfl
theorem okM_X1_costOf : xOKM mX1_costOf 1 := ⟨x_in (i := 785) (by decide +kernel) rfl, x_in (i := 52) (by decide +kernel) rfl, by decide +kernel, by decide +kernel⟩
theorem inst_X1_costOf : Cond.instanceMethod yX1_costOf ∈ xT := x_in (i := 783) (by decide +kernel) rfl
theorem sel_X1_costOf : Cond.selects RX1 yX1_costOf yX1_costOf ∈ xT := x_in (i := 784) (by decide +kernel) rfl
theorem okM_X1_stepsOf : xOKM mX1_stepsOf 1 := ⟨x_in (i := 815) (by decide +kernel) rfl, x_in (i := 52) (by decide +kernel) rfl, by decide +kernel, by decide +kernel⟩
theorem inst_X1_stepsOf : Cond.instanceMethod yX1_stepsOf ∈ xT := x_in (i := 813) (by decide +kernel) rfl
theorem sel_X1_stepsOf : Cond.selects RX1 yX1_stepsOf yX1_stepsOf ∈ xT := x_in (i := 814) (by decide +kernel) rfl
theorem okM_X1_pickOf : xOKM mX1_pickOf 1 := ⟨x_in (i := 821) (by decide +kernel) rfl, x_in (i := 52) (by decide +kernel) rfl, by decide +kernel, by decide +kernel⟩
theorem inst_X1_pickOf : Cond.instanceMethod yX1_pickOf ∈ xT := x_in (i := 819) (by decide +kernel) rfl
theorem sel_X1_pickOf : Cond.selects RX1 yX1_pickOf yX1_pickOf ∈ xT := x_in (i := 820) (by decide +kernel) rfl
theorem okM_X1_weightOf : xOKM mX1_weightOf 1 := ⟨x_in (i := 740) (by decide +kernel) rfl, x_in (i := 52) (by decide +kernel) rfl, by decide +kernel, by decide +kernel⟩
theorem inst_X1_weightOf : Cond.instanceMethod yX1_weightOf ∈ xT := x_in (i := 739) (by decide +kernel) rfl
theorem sel_X1_weightOf : Cond.selects RX1 yX1_weightOf yX1_weightOf ∈ xT := x_in (i := 12) (by decide +kernel) rfl
theorem okM_X1_spanOf : xOKM mX1_spanOf 2 := ⟨x_in (i := 670) (by decide +kernel) rfl, x_in (i := 52) (by decide +kernel) rfl, by decide +kernel, by decide +kernel⟩
theorem inst_X1_spanOf : Cond.instanceMethod yX1_spanOf ∈ xT := x_in (i := 669) (by decide +kernel) rfl
theorem sel_X1_spanOf : Cond.selects RX1 yX1_spanOf yX1_spanOf ∈ xT := x_in (i := 6) (by decide +kernel) rfl
theorem okM_X1_cellOfPart : xOKM mX1_cellOfPart 3 := ⟨x_in (i := 685) (by decide +kernel) rfl, x_in (i := 52) (by decide +kernel) rfl, by decide +kernel, by decide +kernel⟩
theorem inst_X1_cellOfPart : Cond.instanceMethod yX1_cellOfPart ∈ xT := x_in (i := 684) (by decide +kernel) rfl
theorem sel_X1_cellOfPart : Cond.selects RX1 yX1_cellOfPart yX1_cellOfPart ∈ xT := x_in (i := 9) (by decide +kernel) rfl
theorem okM_X1_askBelow : xOKM mX1_askBelow 1 := ⟨x_in (i := 675) (by decide +kernel) rfl, x_in (i := 52) (by decide +kernel) rfl, by decide +kernel, by decide +kernel⟩
theorem inst_X1_askBelow : Cond.instanceMethod yX1_askBelow ∈ xT := x_in (i := 674) (by decide +kernel) rfl
theorem sel_X1_askBelow : Cond.selects RX1 yX1_askBelow yX1_askBelow ∈ xT := x_in (i := 7) (by decide +kernel) rfl
theorem okM_X1_askParts : xOKM mX1_askParts 2 := ⟨x_in (i := 681) (by decide +kernel) rfl, x_in (i := 52) (by decide +kernel) rfl, by decide +kernel, by decide +kernel⟩
theorem inst_X1_askParts : Cond.instanceMethod yX1_askParts ∈ xT := x_in (i := 680) (by decide +kernel) rfl
theorem sel_X1_askParts : Cond.selects RX1 yX1_askParts yX1_askParts ∈ xT := x_in (i := 8) (by decide +kernel) rfl
theorem okM_X1_settleCell : xOKM mX1_settleCell 1 := ⟨x_in (i := 689) (by decide +kernel) rfl, x_in (i := 52) (by decide +kernel) rfl, by decide +kernel, by decide +kernel⟩
theorem inst_X1_settleCell : Cond.instanceMethod yX1_settleCell ∈ xT := x_in (i := 688) (by decide +kernel) rfl
theorem sel_X1_settleCell : Cond.selects RX1 yX1_settleCell yX1_settleCell ∈ xT := x_in (i := 10) (by decide +kernel) rfl
theorem okM_X1_gainOfParts : xOKM mX1_gainOfParts 3 := ⟨x_in (i := 727) (by decide +kernel) rfl, x_in (i := 52) (by decide +kernel) rfl, by decide +kernel, by decide +kernel⟩
theorem inst_X1_gainOfParts : Cond.instanceMethod yX1_gainOfParts ∈ xT := x_in (i := 726) (by decide +kernel) rfl
theorem sel_X1_gainOfParts : Cond.selects RX1 yX1_gainOfParts yX1_gainOfParts ∈ xT := x_in (i := 11) (by decide +kernel) rfl
theorem okM_X1_keep : xOKM mX1_keep 2 := ⟨x_in (i := 772) (by decide +kernel) rfl, x_in (i := 52) (by decide +kernel) rfl, by decide +kernel, by decide +kernel⟩
theorem inst_X1_keep : Cond.instanceMethod yX1_keep ∈ xT := x_in (i := 771) (by decide +kernel) rfl
theorem sel_X1_keep : Cond.selects RX1 yX1_keep yX1_keep ∈ xT := x_in (i := 18) (by decide +kernel) rfl
theorem okM_X1_times : xOKM mX1_times 2 := ⟨x_in (i := 735) (by decide +kernel) rfl, x_in (i := 52) (by decide +kernel) rfl, by decide +kernel, by decide +kernel⟩
theorem stat_X1_times : Cond.static yX1_times ∈ xT := x_in (i := 734) (by decide +kernel) rfl
theorem okM_X2_init : xOKM mX2_init 0 := ⟨x_in (i := 375) (by decide +kernel) rfl, x_in (i := 55) (by decide +kernel) rfl, by decide +kernel, by decide +kernel⟩
theorem inst_X2_init : Cond.instanceMethod yX2_init ∈ xT := x_in (i := 374) (by decide +kernel) rfl
theorem okM_X2_empty : xOKM mX2_empty 0 := ⟨x_in (i := 519) (by decide +kernel) rfl, x_in (i := 55) (by decide +kernel) rfl, by decide +kernel, by decide +kernel⟩
theorem inst_X2_empty : Cond.instanceMethod yX2_empty ∈ xT := x_in (i := 517) (by decide +kernel) rfl
theorem sel_X2_empty : Cond.selects RX2 yX2_empty yX2_empty ∈ xT := x_in (i := 518) (by decide +kernel) rfl
theorem okM_X2_begin : xOKM mX2_begin 2 := ⟨x_in (i := 523) (by decide +kernel) rfl, x_in (i := 55) (by decide +kernel) rfl, by decide +kernel, by decide +kernel⟩
theorem inst_X2_begin : Cond.instanceMethod yX2_begin ∈ xT := x_in (i := 521) (by decide +kernel) rfl
theorem sel_X2_begin : Cond.selects RX2 yX2_begin yX2_begin ∈ xT := x_in (i := 522) (by decide +kernel) rfl
theorem okM_X2_add : xOKM mX2_add 2 := ⟨x_in (i := 599) (by decide +kernel) rfl, x_in (i := 55) (by decide +kernel) rfl, by decide +kernel, by decide +kernel⟩
theorem inst_X2_add : Cond.instanceMethod yX2_add ∈ xT := x_in (i := 597) (by decide +kernel) rfl
theorem sel_X2_add : Cond.selects RX2 yX2_add yX2_add ∈ xT := x_in (i := 598) (by decide +kernel) rfl
theorem okM_X2_letterOf : xOKM mX2_letterOf 2 := ⟨x_in (i := 622) (by decide +kernel) rfl, x_in (i := 55) (by decide +kernel) rfl, by decide +kernel, by decide +kernel⟩
theorem inst_X2_letterOf : Cond.instanceMethod yX2_letterOf ∈ xT := x_in (i := 620) (by decide +kernel) rfl
theorem sel_X2_letterOf : Cond.selects RX2 yX2_letterOf yX2_letterOf ∈ xT := x_in (i := 621) (by decide +kernel) rfl
theorem okM_X2_paint : xOKM mX2_paint 5 := ⟨x_in (i := 603) (by decide +kernel) rfl, x_in (i := 55) (by decide +kernel) rfl, by decide +kernel, by decide +kernel⟩
theorem inst_X2_paint : Cond.instanceMethod yX2_paint ∈ xT := x_in (i := 601) (by decide +kernel) rfl
theorem sel_X2_paint : Cond.selects RX2 yX2_paint yX2_paint ∈ xT := x_in (i := 602) (by decide +kernel) rfl
theorem okM_X3_init : xOKM mX3_init 0 := ⟨x_in (i := 72) (by decide +kernel) rfl, x_in (i := 47) (by decide +kernel) rfl, by decide +kernel, by decide +kernel⟩
theorem inst_X3_init : Cond.instanceMethod yX3_init ∈ xT := x_in (i := 71) (by decide +kernel) rfl
theorem okM_X3_isFull : xOKM mX3_isFull 0 := ⟨x_in (i := 445) (by decide +kernel) rfl, x_in (i := 47) (by decide +kernel) rfl, by decide +kernel, by decide +kernel⟩
theorem inst_X3_isFull : Cond.instanceMethod yX3_isFull ∈ xT := x_in (i := 443) (by decide +kernel) rfl
theorem sel_X3_isFull : Cond.selects RX3 yX3_isFull yX3_isFull ∈ xT := x_in (i := 444) (by decide +kernel) rfl
theorem okM_X3_has : xOKM mX3_has 1 := ⟨x_in (i := 506) (by decide +kernel) rfl, x_in (i := 47) (by decide +kernel) rfl, by decide +kernel, by decide +kernel⟩
theorem inst_X3_has : Cond.instanceMethod yX3_has ∈ xT := x_in (i := 504) (by decide +kernel) rfl
theorem sel_X3_has : Cond.selects RX3 yX3_has yX3_has ∈ xT := x_in (i := 505) (by decide +kernel) rfl
theorem okM_X3_empty : xOKM mX3_empty 0 := ⟨x_in (i := 515) (by decide +kernel) rfl, x_in (i := 47) (by decide +kernel) rfl, by decide +kernel, by decide +kernel⟩
theorem inst_X3_empty : Cond.instanceMethod yX3_empty ∈ xT := x_in (i := 513) (by decide +kernel) rfl
theorem sel_X3_empty : Cond.selects RX3 yX3_empty yX3_empty ∈ xT := x_in (i := 514) (by decide +kernel) rfl
theorem okM_X3_addFill : xOKM mX3_addFill 3 := ⟨x_in (i := 453) (by decide +kernel) rfl, x_in (i := 47) (by decide +kernel) rfl, by decide +kernel, by decide +kernel⟩
theorem inst_X3_addFill : Cond.instanceMethod yX3_addFill ∈ xT := x_in (i := 451) (by decide +kernel) rfl
theorem sel_X3_addFill : Cond.selects RX3 yX3_addFill yX3_addFill ∈ xT := x_in (i := 452) (by decide +kernel) rfl
theorem okM_X3_addSplit : xOKM mX3_addSplit 3 := ⟨x_in (i := 482) (by decide +kernel) rfl, x_in (i := 47) (by decide +kernel) rfl, by decide +kernel, by decide +kernel⟩
theorem inst_X3_addSplit : Cond.instanceMethod yX3_addSplit ∈ xT := x_in (i := 480) (by decide +kernel) rfl
theorem sel_X3_addSplit : Cond.selects RX3 yX3_addSplit yX3_addSplit ∈ xT := x_in (i := 481) (by decide +kernel) rfl
theorem okM_X3_addRepeat : xOKM mX3_addRepeat 5 := ⟨x_in (i := 497) (by decide +kernel) rfl, x_in (i := 47) (by decide +kernel) rfl, by decide +kernel, by decide +kernel⟩
theorem inst_X3_addRepeat : Cond.instanceMethod yX3_addRepeat ∈ xT := x_in (i := 495) (by decide +kernel) rfl
theorem sel_X3_addRepeat : Cond.selects RX3 yX3_addRepeat yX3_addRepeat ∈ xT := x_in (i := 496) (by decide +kernel) rfl
theorem okM_X4_init : xOKM mX4_init 0 := ⟨x_in (i := 237) (by decide +kernel) rfl, x_in (i := 53) (by decide +kernel) rfl, by decide +kernel, by decide +kernel⟩
theorem inst_X4_init : Cond.instanceMethod yX4_init ∈ xT := x_in (i := 236) (by decide +kernel) rfl
theorem okM_X4_begin : xOKM mX4_begin 0 := ⟨x_in (i := 697) (by decide +kernel) rfl, x_in (i := 53) (by decide +kernel) rfl, by decide +kernel, by decide +kernel⟩
theorem inst_X4_begin : Cond.instanceMethod yX4_begin ∈ xT := x_in (i := 695) (by decide +kernel) rfl
theorem sel_X4_begin : Cond.selects RX4 yX4_begin yX4_begin ∈ xT := x_in (i := 696) (by decide +kernel) rfl
theorem okM_X4_gain : xOKM mX4_gain 4 := ⟨x_in (i := 711) (by decide +kernel) rfl, x_in (i := 53) (by decide +kernel) rfl, by decide +kernel, by decide +kernel⟩
theorem inst_X4_gain : Cond.instanceMethod yX4_gain ∈ xT := x_in (i := 709) (by decide +kernel) rfl
theorem sel_X4_gain : Cond.selects RX4 yX4_gain yX4_gain ∈ xT := x_in (i := 710) (by decide +kernel) rfl
theorem okM_X4_tie : xOKM mX4_tie 4 := ⟨x_in (i := 723) (by decide +kernel) rfl, x_in (i := 53) (by decide +kernel) rfl, by decide +kernel, by decide +kernel⟩
theorem inst_X4_tie : Cond.instanceMethod yX4_tie ∈ xT := x_in (i := 721) (by decide +kernel) rfl
theorem sel_X4_tie : Cond.selects RX4 yX4_tie yX4_tie ∈ xT := x_in (i := 722) (by decide +kernel) rfl
theorem okM_X4_waysOf : xOKM mX4_waysOf 1 := ⟨x_in (i := 776) (by decide +kernel) rfl, x_in (i := 53) (by decide +kernel) rfl, by decide +kernel, by decide +kernel⟩
theorem inst_X4_waysOf : Cond.instanceMethod yX4_waysOf ∈ xT := x_in (i := 774) (by decide +kernel) rfl
theorem sel_X4_waysOf : Cond.selects RX4 yX4_waysOf yX4_waysOf ∈ xT := x_in (i := 775) (by decide +kernel) rfl
theorem okM_X4_settle : xOKM mX4_settle 0 := ⟨x_in (i := 745) (by decide +kernel) rfl, x_in (i := 53) (by decide +kernel) rfl, by decide +kernel, by decide +kernel⟩
theorem inst_X4_settle : Cond.instanceMethod yX4_settle ∈ xT := x_in (i := 743) (by decide +kernel) rfl
theorem sel_X4_settle : Cond.selects RX4 yX4_settle yX4_settle ∈ xT := x_in (i := 744) (by decide +kernel) rfl
theorem okM_X4_findEndless : xOKM mX4_findEndless 0 := ⟨x_in (i := 752) (by decide +kernel) rfl, x_in (i := 53) (by decide +kernel) rfl, by decide +kernel, by decide +kernel⟩
theorem inst_X4_findEndless : Cond.instanceMethod yX4_findEndless ∈ xT := x_in (i := 751) (by decide +kernel) rfl
theorem sel_X4_findEndless : Cond.selects RX4 yX4_findEndless yX4_findEndless ∈ xT := x_in (i := 13) (by decide +kernel) rfl
theorem okM_X4_tiedTo : xOKM mX4_tiedTo 1 := ⟨x_in (i := 756) (by decide +kernel) rfl, x_in (i := 53) (by decide +kernel) rfl, by decide +kernel, by decide +kernel⟩
theorem inst_X4_tiedTo : Cond.instanceMethod yX4_tiedTo ∈ xT := x_in (i := 755) (by decide +kernel) rfl
theorem sel_X4_tiedTo : Cond.selects RX4 yX4_tiedTo yX4_tiedTo ∈ xT := x_in (i := 14) (by decide +kernel) rfl
theorem okM_X4_sumTies : xOKM mX4_sumTies 0 := ⟨x_in (i := 760) (by decide +kernel) rfl, x_in (i := 53) (by decide +kernel) rfl, by decide +kernel, by decide +kernel⟩
theorem inst_X4_sumTies : Cond.instanceMethod yX4_sumTies ∈ xT := x_in (i := 759) (by decide +kernel) rfl
theorem sel_X4_sumTies : Cond.selects RX4 yX4_sumTies yX4_sumTies ∈ xT := x_in (i := 15) (by decide +kernel) rfl
theorem okM_X4_lightenByTies : xOKM mX4_lightenByTies 0 := ⟨x_in (i := 764) (by decide +kernel) rfl, x_in (i := 53) (by decide +kernel) rfl, by decide +kernel, by decide +kernel⟩
theorem inst_X4_lightenByTies : Cond.instanceMethod yX4_lightenByTies ∈ xT := x_in (i := 763) (by decide +kernel) rfl
theorem sel_X4_lightenByTies : Cond.selects RX4 yX4_lightenByTies yX4_lightenByTies ∈ xT := x_in (i := 16) (by decide +kernel) rfl
theorem okM_X4_pickAmongTies : xOKM mX4_pickAmongTies 0 := ⟨x_in (i := 768) (by decide +kernel) rfl, x_in (i := 53) (by decide +kernel) rfl, by decide +kernel, by decide +kernel⟩
theorem inst_X4_pickAmongTies : Cond.instanceMethod yX4_pickAmongTies ∈ xT := x_in (i := 767) (by decide +kernel) rfl
theorem sel_X4_pickAmongTies : Cond.selects RX4 yX4_pickAmongTies yX4_pickAmongTies ∈ xT := x_in (i := 17) (by decide +kernel) rfl
theorem okM_X4_plus : xOKM mX4_plus 2 := ⟨x_in (i := 715) (by decide +kernel) rfl, x_in (i := 53) (by decide +kernel) rfl, by decide +kernel, by decide +kernel⟩
theorem stat_X4_plus : Cond.static yX4_plus ∈ xT := x_in (i := 714) (by decide +kernel) rfl
theorem okM_X5_init : xOKM mX5_init 0 := ⟨x_in (i := 181) (by decide +kernel) rfl, x_in (i := 50) (by decide +kernel) rfl, by decide +kernel, by decide +kernel⟩
theorem inst_X5_init : Cond.instanceMethod yX5_init ∈ xT := x_in (i := 180) (by decide +kernel) rfl
theorem okM_X5_lay : xOKM mX5_lay 3 := ⟨x_in (i := 538) (by decide +kernel) rfl, x_in (i := 50) (by decide +kernel) rfl, by decide +kernel, by decide +kernel⟩
theorem inst_X5_lay : Cond.instanceMethod yX5_lay ∈ xT := x_in (i := 536) (by decide +kernel) rfl
theorem sel_X5_lay : Cond.selects RX5 yX5_lay yX5_lay ∈ xT := x_in (i := 537) (by decide +kernel) rfl
theorem okM_X5_laySplit : xOKM mX5_laySplit 2 := ⟨x_in (i := 563) (by decide +kernel) rfl, x_in (i := 50) (by decide +kernel) rfl, by decide +kernel, by decide +kernel⟩
theorem inst_X5_laySplit : Cond.instanceMethod yX5_laySplit ∈ xT := x_in (i := 562) (by decide +kernel) rfl
theorem sel_X5_laySplit : Cond.selects RX5 yX5_laySplit yX5_laySplit ∈ xT := x_in (i := 3) (by decide +kernel) rfl
theorem okM_X5_layRepeat : xOKM mX5_layRepeat 2 := ⟨x_in (i := 555) (by decide +kernel) rfl, x_in (i := 50) (by decide +kernel) rfl, by decide +kernel, by decide +kernel⟩
theorem inst_X5_layRepeat : Cond.instanceMethod yX5_layRepeat ∈ xT := x_in (i := 554) (by decide +kernel) rfl
theorem sel_X5_layRepeat : Cond.selects RX5 yX5_layRepeat yX5_layRepeat ∈ xT := x_in (i := 1) (by decide +kernel) rfl
theorem okM_X5_laidOneAfterAnother : xOKM mX5_laidOneAfterAnother 0 := ⟨x_in (i := 559) (by decide +kernel) rfl, x_in (i := 50) (by decide +kernel) rfl, by decide +kernel, by decide +kernel⟩
theorem inst_X5_laidOneAfterAnother : Cond.instanceMethod yX5_laidOneAfterAnother ∈ xT := x_in (i := 558) (by decide +kernel) rfl
theorem sel_X5_laidOneAfterAnother : Cond.selects RX5 yX5_laidOneAfterAnother yX5_laidOneAfterAnother ∈ xT := x_in (i := 2) (by decide +kernel) rfl
theorem okM_X6_init : xOKM mX6_init 0 := ⟨x_in (i := 80) (by decide +kernel) rfl, x_in (i := 48) (by decide +kernel) rfl, by decide +kernel, by decide +kernel⟩
theorem inst_X6_init : Cond.instanceMethod yX6_init ∈ xT := x_in (i := 79) (by decide +kernel) rfl
theorem okM_X6_empty : xOKM mX6_empty 0 := ⟨x_in (i := 462) (by decide +kernel) rfl, x_in (i := 48) (by decide +kernel) rfl, by decide +kernel, by decide +kernel⟩
theorem inst_X6_empty : Cond.instanceMethod yX6_empty ∈ xT := x_in (i := 460) (by decide +kernel) rfl
theorem sel_X6_empty : Cond.selects RX6 yX6_empty yX6_empty ∈ xT := x_in (i := 461) (by decide +kernel) rfl
theorem okM_X6_add : xOKM mX6_add 3 := ⟨x_in (i := 474) (by decide +kernel) rfl, x_in (i := 48) (by decide +kernel) rfl, by decide +kernel, by decide +kernel⟩
theorem inst_X6_add : Cond.instanceMethod yX6_add ∈ xT := x_in (i := 472) (by decide +kernel) rfl
theorem sel_X6_add : Cond.selects RX6 yX6_add yX6_add ∈ xT := x_in (i := 473) (by decide +kernel) rfl
theorem okM_X6_copy : xOKM mX6_copy 1 := ⟨x_in (i := 486) (by decide +kernel) rfl, x_in (i := 48) (by decide +kernel) rfl, by decide +kernel, by decide +kernel⟩
theorem inst_X6_copy : Cond.instanceMethod yX6_copy ∈ xT := x_in (i := 484) (by decide +kernel) rfl
theorem sel_X6_copy : Cond.selects RX6 yX6_copy yX6_copy ∈ xT := x_in (i := 485) (by decide +kernel) rfl
theorem okM_X7_init : xOKM mX7_init 0 := ⟨x_in (i := 112) (by decide +kernel) rfl, x_in (i := 49) (by decide +kernel) rfl, by decide +kernel, by decide +kernel⟩
theorem inst_X7_init : Cond.instanceMethod yX7_init ∈ xT := x_in (i := 111) (by decide +kernel) rfl
theorem okM_X7_begin : xOKM mX7_begin 3 := ⟨x_in (i := 458) (by decide +kernel) rfl, x_in (i := 49) (by decide +kernel) rfl, by decide +kernel, by decide +kernel⟩
theorem inst_X7_begin : Cond.instanceMethod yX7_begin ∈ xT := x_in (i := 456) (by decide +kernel) rfl
theorem sel_X7_begin : Cond.selects RX7 yX7_begin yX7_begin ∈ xT := x_in (i := 457) (by decide +kernel) rfl
theorem okM_X7_limit : xOKM mX7_limit 3 := ⟨x_in (i := 466) (by decide +kernel) rfl, x_in (i := 49) (by decide +kernel) rfl, by decide +kernel, by decide +kernel⟩
theorem inst_X7_limit : Cond.instanceMethod yX7_limit ∈ xT := x_in (i := 464) (by decide +kernel) rfl
theorem sel_X7_limit : Cond.selects RX7 yX7_limit yX7_limit ∈ xT := x_in (i := 465) (by decide +kernel) rfl
theorem okM_X7_admits : xOKM mX7_admits 2 := ⟨x_in (i := 542) (by decide +kernel) rfl, x_in (i := 49) (by decide +kernel) rfl, by decide +kernel, by decide +kernel⟩
theorem inst_X7_admits : Cond.instanceMethod yX7_admits ∈ xT := x_in (i := 540) (by decide +kernel) rfl
theorem sel_X7_admits : Cond.selects RX7 yX7_admits yX7_admits ∈ xT := x_in (i := 541) (by decide +kernel) rfl
theorem okM_X7_isAlongY : xOKM mX7_isAlongY 0 := ⟨x_in (i := 547) (by decide +kernel) rfl, x_in (i := 49) (by decide +kernel) rfl, by decide +kernel, by decide +kernel⟩
theorem inst_X7_isAlongY : Cond.instanceMethod yX7_isAlongY ∈ xT := x_in (i := 545) (by decide +kernel) rfl
theorem sel_X7_isAlongY : Cond.selects RX7 yX7_isAlongY yX7_isAlongY ∈ xT := x_in (i := 546) (by decide +kernel) rfl
theorem okM_X7_isRepeat : xOKM mX7_isRepeat 0 := ⟨x_in (i := 551) (by decide +kernel) rfl, x_in (i := 49) (by decide +kernel) rfl, by decide +kernel, by decide +kernel⟩
theorem inst_X7_isRepeat : Cond.instanceMethod yX7_isRepeat ∈ xT := x_in (i := 549) (by decide +kernel) rfl
theorem sel_X7_isRepeat : Cond.selects RX7 yX7_isRepeat yX7_isRepeat ∈ xT := x_in (i := 550) (by decide +kernel) rfl
theorem okM_X7_weight : xOKM mX7_weight 0 := ⟨x_in (i := 706) (by decide +kernel) rfl, x_in (i := 49) (by decide +kernel) rfl, by decide +kernel, by decide +kernel⟩
theorem inst_X7_weight : Cond.instanceMethod yX7_weight ∈ xT := x_in (i := 704) (by decide +kernel) rfl
theorem sel_X7_weight : Cond.selects RX7 yX7_weight yX7_weight ∈ xT := x_in (i := 705) (by decide +kernel) rfl
theorem okM_X8_init : xOKM mX8_init 2 := ⟨x_in (i := 324) (by decide +kernel) rfl, x_in (i := 54) (by decide +kernel) rfl, by decide +kernel, by decide +kernel⟩
theorem inst_X8_init : Cond.instanceMethod yX8_init ∈ xT := x_in (i := 323) (by decide +kernel) rfl
theorem okM_X8_begin : xOKM mX8_begin 3 := ⟨x_in (i := 580) (by decide +kernel) rfl, x_in (i := 54) (by decide +kernel) rfl, by decide +kernel, by decide +kernel⟩
theorem inst_X8_begin : Cond.instanceMethod yX8_begin ∈ xT := x_in (i := 578) (by decide +kernel) rfl
theorem sel_X8_begin : Cond.selects RX8 yX8_begin yX8_begin ∈ xT := x_in (i := 579) (by decide +kernel) rfl
theorem okM_X8_push : xOKM mX8_push 7 := ⟨x_in (i := 584) (by decide +kernel) rfl, x_in (i := 54) (by decide +kernel) rfl, by decide +kernel, by decide +kernel⟩
theorem inst_X8_push : Cond.instanceMethod yX8_push ∈ xT := x_in (i := 583) (by decide +kernel) rfl
theorem sel_X8_push : Cond.selects RX8 yX8_push yX8_push ∈ xT := x_in (i := 4) (by decide +kernel) rfl
theorem okM_X8_next : xOKM mX8_next 0 := ⟨x_in (i := 588) (by decide +kernel) rfl, x_in (i := 54) (by decide +kernel) rfl, by decide +kernel, by decide +kernel⟩
theorem inst_X8_next : Cond.instanceMethod yX8_next ∈ xT := x_in (i := 586) (by decide +kernel) rfl
theorem sel_X8_next : Cond.selects RX8 yX8_next yX8_next ∈ xT := x_in (i := 587) (by decide +kernel) rfl
theorem okM_X8_spread : xOKM mX8_spread 1 := ⟨x_in (i := 613) (by decide +kernel) rfl, x_in (i := 54) (by decide +kernel) rfl, by decide +kernel, by decide +kernel⟩
theorem inst_X8_spread : Cond.instanceMethod yX8_spread ∈ xT := x_in (i := 611) (by decide +kernel) rfl
theorem sel_X8_spread : Cond.selects RX8 yX8_spread yX8_spread ∈ xT := x_in (i := 612) (by decide +kernel) rfl
theorem okM_X8_grow : xOKM mX8_grow 4 := ⟨x_in (i := 575) (by decide +kernel) rfl, x_in (i := 54) (by decide +kernel) rfl, by decide +kernel, by decide +kernel⟩
theorem inst_X8_grow : Cond.instanceMethod yX8_grow ∈ xT := x_in (i := 573) (by decide +kernel) rfl
theorem sel_X8_grow : Cond.selects RX8 yX8_grow yX8_grow ∈ xT := x_in (i := 574) (by decide +kernel) rfl
theorem okM_X8_choose : xOKM mX8_choose 0 := ⟨x_in (i := 592) (by decide +kernel) rfl, x_in (i := 54) (by decide +kernel) rfl, by decide +kernel, by decide +kernel⟩
theorem inst_X8_choose : Cond.instanceMethod yX8_choose ∈ xT := x_in (i := 591) (by decide +kernel) rfl
theorem sel_X8_choose : Cond.selects RX8 yX8_choose yX8_choose ∈ xT := x_in (i := 5) (by decide +kernel) rfl
theorem okM_X9_init : xOKM mX9_init 0 := ⟨x_in (i := 64) (by decide +kernel) rfl, x_in (i := 46) (by decide +kernel) rfl, by decide +kernel, by decide +kernel⟩
theorem inst_X9_init : Cond.instanceMethod yX9_init ∈ xT := x_in (i := 63) (by decide +kernel) rfl
theorem okM_X9_fill : xOKM mX9_fill 3 := ⟨x_in (i := 432) (by decide +kernel) rfl, x_in (i := 46) (by decide +kernel) rfl, by decide +kernel, by decide +kernel⟩
theorem inst_X9_fill : Cond.instanceMethod yX9_fill ∈ xT := x_in (i := 430) (by decide +kernel) rfl
theorem sel_X9_fill : Cond.selects RX9 yX9_fill yX9_fill ∈ xT := x_in (i := 431) (by decide +kernel) rfl
theorem okM_X9_part : xOKM mX9_part 3 := ⟨x_in (i := 470) (by decide +kernel) rfl, x_in (i := 46) (by decide +kernel) rfl, by decide +kernel, by decide +kernel⟩
theorem inst_X9_part : Cond.instanceMethod yX9_part ∈ xT := x_in (i := 468) (by decide +kernel) rfl
theorem sel_X9_part : Cond.selects RX9 yX9_part yX9_part ∈ xT := x_in (i := 469) (by decide +kernel) rfl
theorem okM_X9_split : xOKM mX9_split 3 := ⟨x_in (i := 478) (by decide +kernel) rfl, x_in (i := 46) (by decide +kernel) rfl, by decide +kernel, by decide +kernel⟩
theorem inst_X9_split : Cond.instanceMethod yX9_split ∈ xT := x_in (i := 476) (by decide +kernel) rfl
theorem sel_X9_split : Cond.selects RX9 yX9_split yX9_split ∈ xT := x_in (i := 477) (by decide +kernel) rfl
theorem okM_X9_repeat : xOKM mX9_repeat 5 := ⟨x_in (i := 493) (by decide +kernel) rfl, x_in (i := 46) (by decide +kernel) rfl, by decide +kernel, by decide +kernel⟩
theorem inst_X9_repeat : Cond.instanceMethod yX9_repeat ∈ xT := x_in (i := 491) (by decide +kernel) rfl
theorem sel_X9_repeat : Cond.selects RX9 yX9_repeat yX9_repeat ∈ xT := x_in (i := 492) (by decide +kernel) rfl
theorem okM_X9_only : xOKM mX9_only 4 := ⟨x_in (i := 502) (by decide +kernel) rfl, x_in (i := 46) (by decide +kernel) rfl, by decide +kernel, by decide +kernel⟩
theorem inst_X9_only : Cond.instanceMethod yX9_only ∈ xT := x_in (i := 500) (by decide +kernel) rfl
theorem sel_X9_only : Cond.selects RX9 yX9_only yX9_only ∈ xT := x_in (i := 501) (by decide +kernel) rfl
theorem okM_X9_clear : xOKM mX9_clear 0 := ⟨x_in (i := 511) (by decide +kernel) rfl, x_in (i := 46) (by decide +kernel) rfl, by decide +kernel, by decide +kernel⟩
theorem inst_X9_clear : Cond.instanceMethod yX9_clear ∈ xT := x_in (i := 509) (by decide +kernel) rfl
theorem sel_X9_clear : Cond.selects RX9 yX9_clear yX9_clear ∈ xT := x_in (i := 510) (by decide +kernel) rfl
theorem okM_X9_rule : xOKM mX9_rule 2 := ⟨x_in (i := 527) (by decide +kernel) rfl, x_in (i := 46) (by decide +kernel) rfl, by decide +kernel, by decide +kernel⟩
theorem inst_X9_rule : Cond.instanceMethod yX9_rule ∈ xT := x_in (i := 525) (by decide +kernel) rfl
theorem sel_X9_rule : Cond.selects RX9 yX9_rule yX9_rule ∈ xT := x_in (i := 526) (by decide +kernel) rfl
theorem okM_X9_holds : xOKM mX9_holds 3 := ⟨x_in (i := 531) (by decide +kernel) rfl, x_in (i := 46) (by decide +kernel) rfl, by decide +kernel, by decide +kernel⟩
theorem inst_X9_holds : Cond.instanceMethod yX9_holds ∈ xT := x_in (i := 529) (by decide +kernel) rfl
theorem sel_X9_holds : Cond.selects RX9 yX9_holds yX9_holds ∈ xT := x_in (i := 530) (by decide +kernel) rfl
theorem okM_X9_piece : xOKM mX9_piece 5 := ⟨x_in (i := 567) (by decide +kernel) rfl, x_in (i := 46) (by decide +kernel) rfl, by decide +kernel, by decide +kernel⟩
theorem inst_X9_piece : Cond.instanceMethod yX9_piece ∈ xT := x_in (i := 565) (by decide +kernel) rfl
theorem sel_X9_piece : Cond.selects RX9 yX9_piece yX9_piece ∈ xT := x_in (i := 566) (by decide +kernel) rfl
theorem okM_X9_draw : xOKM mX9_draw 3 := ⟨x_in (i := 571) (by decide +kernel) rfl, x_in (i := 46) (by decide +kernel) rfl, by decide +kernel, by decide +kernel⟩
theorem inst_X9_draw : Cond.instanceMethod yX9_draw ∈ xT := x_in (i := 569) (by decide +kernel) rfl
theorem sel_X9_draw : Cond.selects RX9 yX9_draw yX9_draw ∈ xT := x_in (i := 570) (by decide +kernel) rfl
theorem okM_X9_at : xOKM mX9_at 2 := ⟨x_in (i := 618) (by decide +kernel) rfl, x_in (i := 46) (by decide +kernel) rfl, by decide +kernel, by decide +kernel⟩
theorem inst_X9_at : Cond.instanceMethod yX9_at ∈ xT := x_in (i := 616) (by decide +kernel) rfl
theorem sel_X9_at : Cond.selects RX9 yX9_at yX9_at ∈ xT := x_in (i := 617) (by decide +kernel) rfl
theorem okM_X9_step : xOKM mX9_step 1 := ⟨x_in (i := 626) (by decide +kernel) rfl, x_in (i := 46) (by decide +kernel) rfl, by decide +kernel, by decide +kernel⟩
theorem inst_X9_step : Cond.instanceMethod yX9_step ∈ xT := x_in (i := 624) (by decide +kernel) rfl
theorem sel_X9_step : Cond.selects RX9 yX9_step yX9_step ∈ xT := x_in (i := 625) (by decide +kernel) rfl
theorem okM_X9_drawn : xOKM mX9_drawn 0 := ⟨x_in (i := 630) (by decide +kernel) rfl, x_in (i := 46) (by decide +kernel) rfl, by decide +kernel, by decide +kernel⟩
theorem inst_X9_drawn : Cond.instanceMethod yX9_drawn ∈ xT := x_in (i := 628) (by decide +kernel) rfl
theorem sel_X9_drawn : Cond.selects RX9 yX9_drawn yX9_drawn ∈ xT := x_in (i := 629) (by decide +kernel) rfl
theorem okM_X9_fault : xOKM mX9_fault 0 := ⟨x_in (i := 634) (by decide +kernel) rfl, x_in (i := 46) (by decide +kernel) rfl, by decide +kernel, by decide +kernel⟩
theorem inst_X9_fault : Cond.instanceMethod yX9_fault ∈ xT := x_in (i := 632) (by decide +kernel) rfl
theorem sel_X9_fault : Cond.selects RX9 yX9_fault yX9_fault ∈ xT := x_in (i := 633) (by decide +kernel) rfl
theorem okM_X9_take : xOKM mX9_take 0 := ⟨x_in (i := 638) (by decide +kernel) rfl, x_in (i := 46) (by decide +kernel) rfl, by decide +kernel, by decide +kernel⟩
theorem inst_X9_take : Cond.instanceMethod yX9_take ∈ xT := x_in (i := 636) (by decide +kernel) rfl
theorem sel_X9_take : Cond.selects RX9 yX9_take yX9_take ∈ xT := x_in (i := 637) (by decide +kernel) rfl
theorem okM_X9_ways : xOKM mX9_ways 3 := ⟨x_in (i := 657) (by decide +kernel) rfl, x_in (i := 46) (by decide +kernel) rfl, by decide +kernel, by decide +kernel⟩
theorem inst_X9_ways : Cond.instanceMethod yX9_ways ∈ xT := x_in (i := 655) (by decide +kernel) rfl
theorem sel_X9_ways : Cond.selects RX9 yX9_ways yX9_ways ∈ xT := x_in (i := 656) (by decide +kernel) rfl
theorem okM_X9_least : xOKM mX9_least 3 := ⟨x_in (i := 781) (by decide +kernel) rfl, x_in (i := 46) (by decide +kernel) rfl, by decide +kernel, by decide +kernel⟩
theorem inst_X9_least : Cond.instanceMethod yX9_least ∈ xT := x_in (i := 779) (by decide +kernel) rfl
theorem sel_X9_least : Cond.selects RX9 yX9_least yX9_least ∈ xT := x_in (i := 780) (by decide +kernel) rfl
theorem okM_X9_board : xOKM mX9_board 2 := ⟨x_in (i := 790) (by decide +kernel) rfl, x_in (i := 46) (by decide +kernel) rfl, by decide +kernel, by decide +kernel⟩
theorem inst_X9_board : Cond.instanceMethod yX9_board ∈ xT := x_in (i := 788) (by decide +kernel) rfl
theorem sel_X9_board : Cond.selects RX9 yX9_board yX9_board ∈ xT := x_in (i := 789) (by decide +kernel) rfl
theorem okM_X9_put : xOKM mX9_put 2 := ⟨x_in (i := 794) (by decide +kernel) rfl, x_in (i := 46) (by decide +kernel) rfl, by decide +kernel, by decide +kernel⟩
theorem inst_X9_put : Cond.instanceMethod yX9_put ∈ xT := x_in (i := 792) (by decide +kernel) rfl
theorem sel_X9_put : Cond.selects RX9 yX9_put yX9_put ∈ xT := x_in (i := 793) (by decide +kernel) rfl
theorem okM_X9_parses : xOKM mX9_parses 0 := ⟨x_in (i := 799) (by decide +kernel) rfl, x_in (i := 46) (by decide +kernel) rfl, by decide +kernel, by decide +kernel⟩
theorem inst_X9_parses : Cond.instanceMethod yX9_parses ∈ xT := x_in (i := 797) (by decide +kernel) rfl
theorem sel_X9_parses : Cond.selects RX9 yX9_parses yX9_parses ∈ xT := x_in (i := 798) (by decide +kernel) rfl
theorem okM_X9_best : xOKM mX9_best 0 := ⟨x_in (i := 807) (by decide +kernel) rfl, x_in (i := 46) (by decide +kernel) rfl, by decide +kernel, by decide +kernel⟩
theorem inst_X9_best : Cond.instanceMethod yX9_best ∈ xT := x_in (i := 805) (by decide +kernel) rfl
theorem sel_X9_best : Cond.selects RX9 yX9_best yX9_best ∈ xT := x_in (i := 806) (by decide +kernel) rfl
theorem okM_X9_bestStep : xOKM mX9_bestStep 1 := ⟨x_in (i := 811) (by decide +kernel) rfl, x_in (i := 46) (by decide +kernel) rfl, by decide +kernel, by decide +kernel⟩
theorem inst_X9_bestStep : Cond.instanceMethod yX9_bestStep ∈ xT := x_in (i := 809) (by decide +kernel) rfl
theorem sel_X9_bestStep : Cond.selects RX9 yX9_bestStep yX9_bestStep ∈ xT := x_in (i := 810) (by decide +kernel) rfl
theorem okM_X9_stands : xOKM mX9_stands 4 := ⟨x_in (i := 826) (by decide +kernel) rfl, x_in (i := 46) (by decide +kernel) rfl, by decide +kernel, by decide +kernel⟩
theorem inst_X9_stands : Cond.instanceMethod yX9_stands ∈ xT := x_in (i := 824) (by decide +kernel) rfl
theorem sel_X9_stands : Cond.selects RX9 yX9_stands yX9_stands ∈ xT := x_in (i := 825) (by decide +kernel) rfl
theorem okM_X9_count : xOKM mX9_count 1 := ⟨x_in (i := 830) (by decide +kernel) rfl, x_in (i := 46) (by decide +kernel) rfl, by decide +kernel, by decide +kernel⟩
theorem inst_X9_count : Cond.instanceMethod yX9_count ∈ xT := x_in (i := 828) (by decide +kernel) rfl
theorem sel_X9_count : Cond.selects RX9 yX9_count yX9_count ∈ xT := x_in (i := 829) (by decide +kernel) rfl
theorem okM_X9_settleBoard : xOKM mX9_settleBoard 0 := ⟨x_in (i := 803) (by decide +kernel) rfl, x_in (i := 46) (by decide +kernel) rfl, by decide +kernel, by decide +kernel⟩
theorem inst_X9_settleBoard : Cond.instanceMethod yX9_settleBoard ∈ xT := x_in (i := 802) (by decide +kernel) rfl
theorem sel_X9_settleBoard : Cond.selects RX9 yX9_settleBoard yX9_settleBoard ∈ xT := x_in (i := 19) (by decide +kernel) rfl
theorem okM_X9_forgetParses : xOKM mX9_forgetParses 0 := ⟨x_in (i := 449) (by decide +kernel) rfl, x_in (i := 46) (by decide +kernel) rfl, by decide +kernel, by decide +kernel⟩
theorem inst_X9_forgetParses : Cond.instanceMethod yX9_forgetParses ∈ xT := x_in (i := 448) (by decide +kernel) rfl
theorem sel_X9_forgetParses : Cond.selects RX9 yX9_forgetParses yX9_forgetParses ∈ xT := x_in (i := 0) (by decide +kernel) rfl
theorem okM_X9_isName : xOKM mX9_isName 1 := ⟨x_in (i := 435) (by decide +kernel) rfl, x_in (i := 46) (by decide +kernel) rfl, by decide +kernel, by decide +kernel⟩
theorem stat_X9_isName : Cond.static yX9_isName ∈ xT := x_in (i := 434) (by decide +kernel) rfl
theorem okM_X9_isCost : xOKM mX9_isCost 1 := ⟨x_in (i := 441) (by decide +kernel) rfl, x_in (i := 46) (by decide +kernel) rfl, by decide +kernel, by decide +kernel⟩
theorem stat_X9_isCost : Cond.static yX9_isCost ∈ xT := x_in (i := 440) (by decide +kernel) rfl
theorem okM_X9_isScope : xOKM mX9_isScope 2 := ⟨x_in (i := 534) (by decide +kernel) rfl, x_in (i := 46) (by decide +kernel) rfl, by decide +kernel, by decide +kernel⟩
theorem stat_X9_isScope : Cond.static yX9_isScope ∈ xT := x_in (i := 533) (by decide +kernel) rfl
theorem okM_X9_isWithin : xOKM mX9_isWithin 3 := ⟨x_in (i := 438) (by decide +kernel) rfl, x_in (i := 46) (by decide +kernel) rfl, by decide +kernel, by decide +kernel⟩
theorem stat_X9_isWithin : Cond.static yX9_isWithin ∈ xT := x_in (i := 437) (by decide +kernel) rfl
theorem okM_X10_init : xOKM mX10_init 0 := ⟨x_in (i := 835) (by decide +kernel) rfl, x_in (i := 56) (by decide +kernel) rfl, by decide +kernel, by decide +kernel⟩
theorem inst_X10_init : Cond.instanceMethod yX10_init ∈ xT := x_in (i := 834) (by decide +kernel) rfl
theorem okM_X10_in : xOKM mX10_in 3 := ⟨x_in (i := 1007) (by decide +kernel) rfl, x_in (i := 56) (by decide +kernel) rfl, by decide +kernel, by decide +kernel⟩
theorem stat_X10_in : Cond.static yX10_in ∈ xT := x_in (i := 1006) (by decide +kernel) rfl
theorem okM_X10_isName : xOKM mX10_isName 1 := ⟨x_in (i := 1003) (by decide +kernel) rfl, x_in (i := 56) (by decide +kernel) rfl, by decide +kernel, by decide +kernel⟩
theorem stat_X10_isName : Cond.static yX10_isName ∈ xT := x_in (i := 1002) (by decide +kernel) rfl
theorem okM_X10_add : xOKM mX10_add 4 := ⟨x_in (i := 1013) (by decide +kernel) rfl, x_in (i := 56) (by decide +kernel) rfl, by decide +kernel, by decide +kernel⟩
theorem inst_X10_add : Cond.instanceMethod yX10_add ∈ xT := x_in (i := 1012) (by decide +kernel) rfl
theorem sel_X10_add : Cond.selects RX10 yX10_add yX10_add ∈ xT := x_in (i := 21) (by decide +kernel) rfl
theorem okM_X10_addPart : xOKM mX10_addPart 4 := ⟨x_in (i := 1031) (by decide +kernel) rfl, x_in (i := 56) (by decide +kernel) rfl, by decide +kernel, by decide +kernel⟩
theorem inst_X10_addPart : Cond.instanceMethod yX10_addPart ∈ xT := x_in (i := 1030) (by decide +kernel) rfl
theorem sel_X10_addPart : Cond.selects RX10 yX10_addPart yX10_addPart ∈ xT := x_in (i := 23) (by decide +kernel) rfl
theorem okM_X10_fill : xOKM mX10_fill 3 := ⟨x_in (i := 1000) (by decide +kernel) rfl, x_in (i := 56) (by decide +kernel) rfl, by decide +kernel, by decide +kernel⟩
theorem inst_X10_fill : Cond.instanceMethod yX10_fill ∈ xT := x_in (i := 998) (by decide +kernel) rfl
theorem sel_X10_fill : Cond.selects RX10 yX10_fill yX10_fill ∈ xT := x_in (i := 999) (by decide +kernel) rfl
theorem okM_X10_part : xOKM mX10_part 3 := ⟨x_in (i := 1021) (by decide +kernel) rfl, x_in (i := 56) (by decide +kernel) rfl, by decide +kernel, by decide +kernel⟩
theorem inst_X10_part : Cond.instanceMethod yX10_part ∈ xT := x_in (i := 1019) (by decide +kernel) rfl
theorem sel_X10_part : Cond.selects RX10 yX10_part yX10_part ∈ xT := x_in (i := 1020) (by decide +kernel) rfl
theorem okM_X10_split : xOKM mX10_split 3 := ⟨x_in (i := 1027) (by decide +kernel) rfl, x_in (i := 56) (by decide +kernel) rfl, by decide +kernel, by decide +kernel⟩
theorem inst_X10_split : Cond.instanceMethod yX10_split ∈ xT := x_in (i := 1025) (by decide +kernel) rfl
theorem sel_X10_split : Cond.selects RX10 yX10_split yX10_split ∈ xT := x_in (i := 1026) (by decide +kernel) rfl
theorem okM_X10_repeat : xOKM mX10_repeat 5 := ⟨x_in (i := 1035) (by decide +kernel) rfl, x_in (i := 56) (by decide +kernel) rfl, by decide +kernel, by decide +kernel⟩
theorem inst_X10_repeat : Cond.instanceMethod yX10_repeat ∈ xT := x_in (i := 1033) (by decide +kernel) rfl
theorem sel_X10_repeat : Cond.selects RX10 yX10_repeat yX10_repeat ∈ xT := x_in (i := 1034) (by decide +kernel) rfl
theorem okM_X10_isRule : xOKM mX10_isRule 1 := ⟨x_in (i := 1043) (by decide +kernel) rfl, x_in (i := 56) (by decide +kernel) rfl, by decide +kernel, by decide +kernel⟩
theorem inst_X10_isRule : Cond.instanceMethod yX10_isRule ∈ xT := x_in (i := 1042) (by decide +kernel) rfl
theorem sel_X10_isRule : Cond.selects RX10 yX10_isRule yX10_isRule ∈ xT := x_in (i := 24) (by decide +kernel) rfl
theorem okM_X10_isLength : xOKM mX10_isLength 1 := ⟨x_in (i := 1046) (by decide +kernel) rfl, x_in (i := 56) (by decide +kernel) rfl, by decide +kernel, by decide +kernel⟩
theorem stat_X10_isLength : Cond.static yX10_isLength ∈ xT := x_in (i := 1045) (by decide +kernel) rfl
theorem okM_X10_only : xOKM mX10_only 4 := ⟨x_in (i := 1039) (by decide +kernel) rfl, x_in (i := 56) (by decide +kernel) rfl, by decide +kernel, by decide +kernel⟩
theorem inst_X10_only : Cond.instanceMethod yX10_only ∈ xT := x_in (i := 1037) (by decide +kernel) rfl
theorem sel_X10_only : Cond.selects RX10 yX10_only yX10_only ∈ xT := x_in (i := 1038) (by decide +kernel) rfl
theorem okM_X10_clear : xOKM mX10_clear 0 := ⟨x_in (i := 1050) (by decide +kernel) rfl, x_in (i := 56) (by decide +kernel) rfl, by decide +kernel, by decide +kernel⟩
theorem inst_X10_clear : Cond.instanceMethod yX10_clear ∈ xT := x_in (i := 1048) (by decide +kernel) rfl
theorem sel_X10_clear : Cond.selects RX10 yX10_clear yX10_clear ∈ xT := x_in (i := 1049) (by decide +kernel) rfl
theorem okM_X10_rule : xOKM mX10_rule 2 := ⟨x_in (i := 1054) (by decide +kernel) rfl, x_in (i := 56) (by decide +kernel) rfl, by decide +kernel, by decide +kernel⟩
theorem inst_X10_rule : Cond.instanceMethod yX10_rule ∈ xT := x_in (i := 1052) (by decide +kernel) rfl
theorem sel_X10_rule : Cond.selects RX10 yX10_rule yX10_rule ∈ xT := x_in (i := 1053) (by decide +kernel) rfl
theorem okM_X10_isAlongY : xOKM mX10_isAlongY 1 := ⟨x_in (i := 1066) (by decide +kernel) rfl, x_in (i := 56) (by decide +kernel) rfl, by decide +kernel, by decide +kernel⟩
theorem inst_X10_isAlongY : Cond.instanceMethod yX10_isAlongY ∈ xT := x_in (i := 1065) (by decide +kernel) rfl
theorem sel_X10_isAlongY : Cond.selects RX10 yX10_isAlongY yX10_isAlongY ∈ xT := x_in (i := 26) (by decide +kernel) rfl
theorem okM_X10_layRepeat : xOKM mX10_layRepeat 2 := ⟨x_in (i := 1074) (by decide +kernel) rfl, x_in (i := 56) (by decide +kernel) rfl, by decide +kernel, by decide +kernel⟩
theorem inst_X10_layRepeat : Cond.instanceMethod yX10_layRepeat ∈ xT := x_in (i := 1073) (by decide +kernel) rfl
theorem sel_X10_layRepeat : Cond.selects RX10 yX10_layRepeat yX10_layRepeat ∈ xT := x_in (i := 28) (by decide +kernel) rfl
theorem okM_X10_laySplit : xOKM mX10_laySplit 2 := ⟨x_in (i := 1070) (by decide +kernel) rfl, x_in (i := 56) (by decide +kernel) rfl, by decide +kernel, by decide +kernel⟩
theorem inst_X10_laySplit : Cond.instanceMethod yX10_laySplit ∈ xT := x_in (i := 1069) (by decide +kernel) rfl
theorem sel_X10_laySplit : Cond.selects RX10 yX10_laySplit yX10_laySplit ∈ xT := x_in (i := 27) (by decide +kernel) rfl
theorem okM_X10_lay : xOKM mX10_lay 3 := ⟨x_in (i := 1062) (by decide +kernel) rfl, x_in (i := 56) (by decide +kernel) rfl, by decide +kernel, by decide +kernel⟩
theorem inst_X10_lay : Cond.instanceMethod yX10_lay ∈ xT := x_in (i := 1061) (by decide +kernel) rfl
theorem sel_X10_lay : Cond.selects RX10 yX10_lay yX10_lay ∈ xT := x_in (i := 25) (by decide +kernel) rfl
theorem okM_X10_holds : xOKM mX10_holds 3 := ⟨x_in (i := 1058) (by decide +kernel) rfl, x_in (i := 56) (by decide +kernel) rfl, by decide +kernel, by decide +kernel⟩
theorem inst_X10_holds : Cond.instanceMethod yX10_holds ∈ xT := x_in (i := 1056) (by decide +kernel) rfl
theorem sel_X10_holds : Cond.selects RX10 yX10_holds yX10_holds ∈ xT := x_in (i := 1057) (by decide +kernel) rfl
theorem okM_X10_piece : xOKM mX10_piece 5 := ⟨x_in (i := 1078) (by decide +kernel) rfl, x_in (i := 56) (by decide +kernel) rfl, by decide +kernel, by decide +kernel⟩
theorem inst_X10_piece : Cond.instanceMethod yX10_piece ∈ xT := x_in (i := 1076) (by decide +kernel) rfl
theorem sel_X10_piece : Cond.selects RX10 yX10_piece yX10_piece ∈ xT := x_in (i := 1077) (by decide +kernel) rfl
theorem okM_X10_put : xOKM mX10_put 5 := ⟨x_in (i := 1086) (by decide +kernel) rfl, x_in (i := 56) (by decide +kernel) rfl, by decide +kernel, by decide +kernel⟩
theorem inst_X10_put : Cond.instanceMethod yX10_put ∈ xT := x_in (i := 1085) (by decide +kernel) rfl
theorem sel_X10_put : Cond.selects RX10 yX10_put yX10_put ∈ xT := x_in (i := 29) (by decide +kernel) rfl
theorem okM_X10_picked : xOKM mX10_picked 4 := ⟨x_in (i := 1090) (by decide +kernel) rfl, x_in (i := 56) (by decide +kernel) rfl, by decide +kernel, by decide +kernel⟩
theorem inst_X10_picked : Cond.instanceMethod yX10_picked ∈ xT := x_in (i := 1089) (by decide +kernel) rfl
theorem sel_X10_picked : Cond.selects RX10 yX10_picked yX10_picked ∈ xT := x_in (i := 30) (by decide +kernel) rfl
theorem okM_X10_putPieces : xOKM mX10_putPieces 7 := ⟨x_in (i := 1099) (by decide +kernel) rfl, x_in (i := 56) (by decide +kernel) rfl, by decide +kernel, by decide +kernel⟩
theorem inst_X10_putPieces : Cond.instanceMethod yX10_putPieces ∈ xT := x_in (i := 1098) (by decide +kernel) rfl
theorem sel_X10_putPieces : Cond.selects RX10 yX10_putPieces yX10_putPieces ∈ xT := x_in (i := 32) (by decide +kernel) rfl
theorem okM_X10_draw : xOKM mX10_draw 3 := ⟨x_in (i := 1082) (by decide +kernel) rfl, x_in (i := 56) (by decide +kernel) rfl, by decide +kernel, by decide +kernel⟩
theorem inst_X10_draw : Cond.instanceMethod yX10_draw ∈ xT := x_in (i := 1080) (by decide +kernel) rfl
theorem sel_X10_draw : Cond.selects RX10 yX10_draw yX10_draw ∈ xT := x_in (i := 1081) (by decide +kernel) rfl
theorem okM_X10_fillDraft : xOKM mX10_fillDraft 5 := ⟨x_in (i := 1095) (by decide +kernel) rfl, x_in (i := 56) (by decide +kernel) rfl, by decide +kernel, by decide +kernel⟩
theorem inst_X10_fillDraft : Cond.instanceMethod yX10_fillDraft ∈ xT := x_in (i := 1094) (by decide +kernel) rfl
theorem sel_X10_fillDraft : Cond.selects RX10 yX10_fillDraft yX10_fillDraft ∈ xT := x_in (i := 31) (by decide +kernel) rfl
theorem okM_X10_at : xOKM mX10_at 2 := ⟨x_in (i := 1103) (by decide +kernel) rfl, x_in (i := 56) (by decide +kernel) rfl, by decide +kernel, by decide +kernel⟩
theorem inst_X10_at : Cond.instanceMethod yX10_at ∈ xT := x_in (i := 1101) (by decide +kernel) rfl
theorem sel_X10_at : Cond.selects RX10 yX10_at yX10_at ∈ xT := x_in (i := 1102) (by decide +kernel) rfl
theorem okM_X10_step : xOKM mX10_step 1 := ⟨x_in (i := 1107) (by decide +kernel) rfl, x_in (i := 56) (by decide +kernel) rfl, by decide +kernel, by decide +kernel⟩
theorem inst_X10_step : Cond.instanceMethod yX10_step ∈ xT := x_in (i := 1105) (by decide +kernel) rfl
theorem sel_X10_step : Cond.selects RX10 yX10_step yX10_step ∈ xT := x_in (i := 1106) (by decide +kernel) rfl
theorem okM_X10_drawn : xOKM mX10_drawn 0 := ⟨x_in (i := 1111) (by decide +kernel) rfl, x_in (i := 56) (by decide +kernel) rfl, by decide +kernel, by decide +kernel⟩
theorem inst_X10_drawn : Cond.instanceMethod yX10_drawn ∈ xT := x_in (i := 1109) (by decide +kernel) rfl
theorem sel_X10_drawn : Cond.selects RX10 yX10_drawn yX10_drawn ∈ xT := x_in (i := 1110) (by decide +kernel) rfl
theorem okM_X10_fault : xOKM mX10_fault 0 := ⟨x_in (i := 1115) (by decide +kernel) rfl, x_in (i := 56) (by decide +kernel) rfl, by decide +kernel, by decide +kernel⟩
theorem inst_X10_fault : Cond.instanceMethod yX10_fault ∈ xT := x_in (i := 1113) (by decide +kernel) rfl
theorem sel_X10_fault : Cond.selects RX10 yX10_fault yX10_fault ∈ xT := x_in (i := 1114) (by decide +kernel) rfl
theorem okM_X10_take : xOKM mX10_take 0 := ⟨x_in (i := 1119) (by decide +kernel) rfl, x_in (i := 56) (by decide +kernel) rfl, by decide +kernel, by decide +kernel⟩
theorem inst_X10_take : Cond.instanceMethod yX10_take ∈ xT := x_in (i := 1117) (by decide +kernel) rfl
theorem sel_X10_take : Cond.selects RX10 yX10_take yX10_take ∈ xT := x_in (i := 1118) (by decide +kernel) rfl
theorem okM_X10_boards : xOKM mX10_boards 2 := ⟨x_in (i := 841) (by decide +kernel) rfl, x_in (i := 56) (by decide +kernel) rfl, by decide +kernel, by decide +kernel⟩
theorem inst_X10_boards : Cond.instanceMethod yX10_boards ∈ xT := x_in (i := 840) (by decide +kernel) rfl
theorem sel_X10_boards : Cond.selects RX10 yX10_boards yX10_boards ∈ xT := x_in (i := 20) (by decide +kernel) rfl
theorem okM_X10_board : xOKM mX10_board 2 := ⟨x_in (i := 1123) (by decide +kernel) rfl, x_in (i := 56) (by decide +kernel) rfl, by decide +kernel, by decide +kernel⟩
theorem inst_X10_board : Cond.instanceMethod yX10_board ∈ xT := x_in (i := 1121) (by decide +kernel) rfl
theorem sel_X10_board : Cond.selects RX10 yX10_board yX10_board ∈ xT := x_in (i := 1122) (by decide +kernel) rfl
theorem okM_X10_isPlace : xOKM mX10_isPlace 1 := ⟨x_in (i := 1131) (by decide +kernel) rfl, x_in (i := 56) (by decide +kernel) rfl, by decide +kernel, by decide +kernel⟩
theorem inst_X10_isPlace : Cond.instanceMethod yX10_isPlace ∈ xT := x_in (i := 1130) (by decide +kernel) rfl
theorem sel_X10_isPlace : Cond.selects RX10 yX10_isPlace yX10_isPlace ∈ xT := x_in (i := 33) (by decide +kernel) rfl
theorem okM_X10_put_ : xOKM mX10_put_ 2 := ⟨x_in (i := 1127) (by decide +kernel) rfl, x_in (i := 56) (by decide +kernel) rfl, by decide +kernel, by decide +kernel⟩
theorem inst_X10_put_ : Cond.instanceMethod yX10_put_ ∈ xT := x_in (i := 1125) (by decide +kernel) rfl
theorem sel_X10_put_ : Cond.selects RX10 yX10_put_ yX10_put_ ∈ xT := x_in (i := 1126) (by decide +kernel) rfl
theorem okM_X10_place : xOKM mX10_place 4 := ⟨x_in (i := 1150) (by decide +kernel) rfl, x_in (i := 56) (by decide +kernel) rfl, by decide +kernel, by decide +kernel⟩
theorem inst_X10_place : Cond.instanceMethod yX10_place ∈ xT := x_in (i := 1149) (by decide +kernel) rfl
theorem sel_X10_place : Cond.selects RX10 yX10_place yX10_place ∈ xT := x_in (i := 36) (by decide +kernel) rfl
theorem okM_X10_isAll : xOKM mX10_isAll 5 := ⟨x_in (i := 1159) (by decide +kernel) rfl, x_in (i := 56) (by decide +kernel) rfl, by decide +kernel, by decide +kernel⟩
theorem inst_X10_isAll : Cond.instanceMethod yX10_isAll ∈ xT := x_in (i := 1158) (by decide +kernel) rfl
theorem sel_X10_isAll : Cond.selects RX10 yX10_isAll yX10_isAll ∈ xT := x_in (i := 38) (by decide +kernel) rfl
theorem okM_X10_plus : xOKM mX10_plus 2 := ⟨x_in (i := 1162) (by decide +kernel) rfl, x_in (i := 56) (by decide +kernel) rfl, by decide +kernel, by decide +kernel⟩
theorem stat_X10_plus : Cond.static yX10_plus ∈ xT := x_in (i := 1161) (by decide +kernel) rfl
theorem okM_X10_mult : xOKM mX10_mult 2 := ⟨x_in (i := 1167) (by decide +kernel) rfl, x_in (i := 56) (by decide +kernel) rfl, by decide +kernel, by decide +kernel⟩
theorem stat_X10_mult : Cond.static yX10_mult ∈ xT := x_in (i := 1166) (by decide +kernel) rfl
theorem okM_X10_count : xOKM mX10_count 5 := ⟨x_in (i := 1155) (by decide +kernel) rfl, x_in (i := 56) (by decide +kernel) rfl, by decide +kernel, by decide +kernel⟩
theorem inst_X10_count : Cond.instanceMethod yX10_count ∈ xT := x_in (i := 1154) (by decide +kernel) rfl
theorem sel_X10_count : Cond.selects RX10 yX10_count yX10_count ∈ xT := x_in (i := 37) (by decide +kernel) rfl
theorem okM_X10_findMade : xOKM mX10_findMade 0 := ⟨x_in (i := 1175) (by decide +kernel) rfl, x_in (i := 56) (by decide +kernel) rfl, by decide +kernel, by decide +kernel⟩
theorem inst_X10_findMade : Cond.instanceMethod yX10_findMade ∈ xT := x_in (i := 1174) (by decide +kernel) rfl
theorem sel_X10_findMade : Cond.selects RX10 yX10_findMade yX10_findMade ∈ xT := x_in (i := 40) (by decide +kernel) rfl
theorem okM_X10_isEndless : xOKM mX10_isEndless 1 := ⟨x_in (i := 1179) (by decide +kernel) rfl, x_in (i := 56) (by decide +kernel) rfl, by decide +kernel, by decide +kernel⟩
theorem inst_X10_isEndless : Cond.instanceMethod yX10_isEndless ∈ xT := x_in (i := 1178) (by decide +kernel) rfl
theorem sel_X10_isEndless : Cond.selects RX10 yX10_isEndless yX10_isEndless ∈ xT := x_in (i := 41) (by decide +kernel) rfl
theorem okM_X10_sum : xOKM mX10_sum 1 := ⟨x_in (i := 1171) (by decide +kernel) rfl, x_in (i := 56) (by decide +kernel) rfl, by decide +kernel, by decide +kernel⟩
theorem inst_X10_sum : Cond.instanceMethod yX10_sum ∈ xT := x_in (i := 1170) (by decide +kernel) rfl
theorem sel_X10_sum : Cond.selects RX10 yX10_sum yX10_sum ∈ xT := x_in (i := 39) (by decide +kernel) rfl
theorem okM_X10_tries : xOKM mX10_tries 5 := ⟨x_in (i := 1187) (by decide +kernel) rfl, x_in (i := 56) (by decide +kernel) rfl, by decide +kernel, by decide +kernel⟩
theorem inst_X10_tries : Cond.instanceMethod yX10_tries ∈ xT := x_in (i := 1186) (by decide +kernel) rfl
theorem sel_X10_tries : Cond.selects RX10 yX10_tries yX10_tries ∈ xT := x_in (i := 43) (by decide +kernel) rfl
theorem okM_X10_improve : xOKM mX10_improve 5 := ⟨x_in (i := 1183) (by decide +kernel) rfl, x_in (i := 56) (by decide +kernel) rfl, by decide +kernel, by decide +kernel⟩
theorem inst_X10_improve : Cond.instanceMethod yX10_improve ∈ xT := x_in (i := 1182) (by decide +kernel) rfl
theorem sel_X10_improve : Cond.selects RX10 yX10_improve yX10_improve ∈ xT := x_in (i := 42) (by decide +kernel) rfl
theorem okM_X10_work : xOKM mX10_work 4 := ⟨x_in (i := 1146) (by decide +kernel) rfl, x_in (i := 56) (by decide +kernel) rfl, by decide +kernel, by decide +kernel⟩
theorem inst_X10_work : Cond.instanceMethod yX10_work ∈ xT := x_in (i := 1145) (by decide +kernel) rfl
theorem sel_X10_work : Cond.selects RX10 yX10_work yX10_work ∈ xT := x_in (i := 35) (by decide +kernel) rfl
theorem okM_X10_workScopes : xOKM mX10_workScopes 0 := ⟨x_in (i := 1142) (by decide +kernel) rfl, x_in (i := 56) (by decide +kernel) rfl, by decide +kernel, by decide +kernel⟩
theorem inst_X10_workScopes : Cond.instanceMethod yX10_workScopes ∈ xT := x_in (i := 1141) (by decide +kernel) rfl
theorem sel_X10_workScopes : Cond.selects RX10 yX10_workScopes yX10_workScopes ∈ xT := x_in (i := 34) (by decide +kernel) rfl
theorem okM_X10_forget : xOKM mX10_forget 0 := ⟨x_in (i := 1017) (by decide +kernel) rfl, x_in (i := 56) (by decide +kernel) rfl, by decide +kernel, by decide +kernel⟩
theorem inst_X10_forget : Cond.instanceMethod yX10_forget ∈ xT := x_in (i := 1016) (by decide +kernel) rfl
theorem sel_X10_forget : Cond.selects RX10 yX10_forget yX10_forget ∈ xT := x_in (i := 22) (by decide +kernel) rfl
theorem okM_X10_workBoard : xOKM mX10_workBoard 0 := ⟨x_in (i := 1199) (by decide +kernel) rfl, x_in (i := 56) (by decide +kernel) rfl, by decide +kernel, by decide +kernel⟩
theorem inst_X10_workBoard : Cond.instanceMethod yX10_workBoard ∈ xT := x_in (i := 1198) (by decide +kernel) rfl
theorem sel_X10_workBoard : Cond.selects RX10 yX10_workBoard yX10_workBoard ∈ xT := x_in (i := 44) (by decide +kernel) rfl
theorem okM_X10_ways : xOKM mX10_ways 3 := ⟨x_in (i := 1136) (by decide +kernel) rfl, x_in (i := 56) (by decide +kernel) rfl, by decide +kernel, by decide +kernel⟩
theorem inst_X10_ways : Cond.instanceMethod yX10_ways ∈ xT := x_in (i := 1134) (by decide +kernel) rfl
theorem sel_X10_ways : Cond.selects RX10 yX10_ways yX10_ways ∈ xT := x_in (i := 1135) (by decide +kernel) rfl
theorem okM_X10_least : xOKM mX10_least 3 := ⟨x_in (i := 1191) (by decide +kernel) rfl, x_in (i := 56) (by decide +kernel) rfl, by decide +kernel, by decide +kernel⟩
theorem inst_X10_least : Cond.instanceMethod yX10_least ∈ xT := x_in (i := 1189) (by decide +kernel) rfl
theorem sel_X10_least : Cond.selects RX10 yX10_least yX10_least ∈ xT := x_in (i := 1190) (by decide +kernel) rfl
theorem okM_X10_parses : xOKM mX10_parses 0 := ⟨x_in (i := 1195) (by decide +kernel) rfl, x_in (i := 56) (by decide +kernel) rfl, by decide +kernel, by decide +kernel⟩
theorem inst_X10_parses : Cond.instanceMethod yX10_parses ∈ xT := x_in (i := 1193) (by decide +kernel) rfl
theorem sel_X10_parses : Cond.selects RX10 yX10_parses yX10_parses ∈ xT := x_in (i := 1194) (by decide +kernel) rfl
theorem okM_X10_best : xOKM mX10_best 0 := ⟨x_in (i := 1203) (by decide +kernel) rfl, x_in (i := 56) (by decide +kernel) rfl, by decide +kernel, by decide +kernel⟩
theorem inst_X10_best : Cond.instanceMethod yX10_best ∈ xT := x_in (i := 1201) (by decide +kernel) rfl
theorem sel_X10_best : Cond.selects RX10 yX10_best yX10_best ∈ xT := x_in (i := 1202) (by decide +kernel) rfl
theorem okM_X10_bestStep : xOKM mX10_bestStep 1 := ⟨x_in (i := 1207) (by decide +kernel) rfl, x_in (i := 56) (by decide +kernel) rfl, by decide +kernel, by decide +kernel⟩
theorem inst_X10_bestStep : Cond.instanceMethod yX10_bestStep ∈ xT := x_in (i := 1205) (by decide +kernel) rfl
theorem sel_X10_bestStep : Cond.selects RX10 yX10_bestStep yX10_bestStep ∈ xT := x_in (i := 1206) (by decide +kernel) rfl
theorem okM_X10_stands : xOKM mX10_stands 4 := ⟨x_in (i := 1211) (by decide +kernel) rfl, x_in (i := 56) (by decide +kernel) rfl, by decide +kernel, by decide +kernel⟩
theorem inst_X10_stands : Cond.instanceMethod yX10_stands ∈ xT := x_in (i := 1209) (by decide +kernel) rfl
theorem sel_X10_stands : Cond.selects RX10 yX10_stands yX10_stands ∈ xT := x_in (i := 1210) (by decide +kernel) rfl
theorem okM_X10_count_ : xOKM mX10_count_ 1 := ⟨x_in (i := 1215) (by decide +kernel) rfl, x_in (i := 56) (by decide +kernel) rfl, by decide +kernel, by decide +kernel⟩
theorem inst_X10_count_ : Cond.instanceMethod yX10_count_ ∈ xT := x_in (i := 1213) (by decide +kernel) rfl
theorem sel_X10_count_ : Cond.selects RX10 yX10_count_ yX10_count_ ∈ xT := x_in (i := 1214) (by decide +kernel) rfl
theorem okM_J7_rangeCheck_23922 : xOKM mJ7_rangeCheck_23922 3 := ⟨x_in (i := 609) (by decide +kernel) rfl, x_in (i := 57) (by decide +kernel) rfl, by decide +kernel, by decide +kernel⟩
theorem stat_J7_rangeCheck_23922 : Cond.static yJ7_rangeCheck_23922 ∈ xT := x_in (i := 608) (by decide +kernel) rfl
theorem okM_J7_fill_d0a16 : xOKM mJ7_fill_d0a16 2 := ⟨x_in (i := 700) (by decide +kernel) rfl, x_in (i := 57) (by decide +kernel) rfl, by decide +kernel, by decide +kernel⟩
theorem stat_J7_fill_d0a16 : Cond.static yJ7_fill_d0a16 ∈ xT := x_in (i := 699) (by decide +kernel) rfl
theorem okM_J7_fill_53178 : xOKM mJ7_fill_53178 2 := ⟨x_in (i := 666) (by decide +kernel) rfl, x_in (i := 57) (by decide +kernel) rfl, by decide +kernel, by decide +kernel⟩
theorem stat_J7_fill_53178 : Cond.static yJ7_fill_53178 ∈ xT := x_in (i := 665) (by decide +kernel) rfl
theorem okM_J7_fill_031fb : xOKM mJ7_fill_031fb 2 := ⟨x_in (i := 645) (by decide +kernel) rfl, x_in (i := 57) (by decide +kernel) rfl, by decide +kernel, by decide +kernel⟩
theorem stat_J7_fill_031fb : Cond.static yJ7_fill_031fb ∈ xT := x_in (i := 644) (by decide +kernel) rfl
theorem okM_J7_fill_eb02e : xOKM mJ7_fill_eb02e 4 := ⟨x_in (i := 606) (by decide +kernel) rfl, x_in (i := 57) (by decide +kernel) rfl, by decide +kernel, by decide +kernel⟩
theorem stat_J7_fill_eb02e : Cond.static yJ7_fill_eb02e ∈ xT := x_in (i := 605) (by decide +kernel) rfl
theorem lk_X0_3 : Cond.methodLink RX0 3 objectInit ∈ xT := x_in (i := 212) (by decide +kernel) rfl
theorem fl_X0_9 : xFL RX0 9 0 0 true (.array .byte) := ⟨RX0, TX0, 3, cl_X0, by decide, x_in (i := 213) (by decide +kernel) rfl, rfl, rfl⟩
theorem fl_X0_15 : xFL RX0 15 0 1 false .int := ⟨RX0, TX0, 3, cl_X0, by decide, x_in (i := 215) (by decide +kernel) rfl, rfl, rfl⟩
theorem fl_X0_19 : xFL RX0 19 0 2 false .int := ⟨RX0, TX0, 3, cl_X0, by decide, x_in (i := 217) (by decide +kernel) rfl, rfl, rfl⟩
theorem lk_X0_22 : Cond.methodLink RX0 22 yJ7_fill_031fb ∈ xT := x_in (i := 643) (by decide +kernel) rfl
theorem lk_X0_28 : Cond.methodLink RX0 28 yX0_has ∈ xT := x_in (i := 650) (by decide +kernel) rfl
theorem lk_X1_3 : Cond.methodLink RX1 3 objectInit ∈ xT := x_in (i := 232) (by decide +kernel) rfl
theorem nl_X1_9 : xNL RX1 9 4 := ⟨RX4, TX4, 11, cl_X4, x_in (i := 233) (by decide +kernel) rfl, x_in (i := 234) (by decide +kernel) rfl, x_in (i := 53) (by decide +kernel) rfl, by decide +kernel⟩
theorem nk_X1_11 : (RX1, 11, yX4_init, "HouseFronts") ∈ xNest := by decide +kernel
theorem fl_X1_12 : xFL RX1 12 1 12 true (.object "HouseFronts$Knot") := ⟨RX1, TX1, 14, cl_X1, by decide, x_in (i := 288) (by decide +kernel) rfl, rfl, rfl⟩
theorem fl_X1_18 : xFL RX1 18 1 13 false .boolean := ⟨RX1, TX1, 14, cl_X1, by decide, x_in (i := 289) (by decide +kernel) rfl, rfl, rfl⟩
theorem fl_X1_22 : xFL RX1 22 1 0 true (.object "HouseFronts$Grammar") := ⟨RX1, TX1, 14, cl_X1, by decide, x_in (i := 276) (by decide +kernel) rfl, rfl, rfl⟩
theorem fl_X1_26 : xFL RX1 26 1 1 true (.object "HouseFronts$Layout") := ⟨RX1, TX1, 14, cl_X1, by decide, x_in (i := 277) (by decide +kernel) rfl, rfl, rfl⟩
theorem fl_X1_30 : xFL RX1 30 1 2 true (.object "HouseFronts$Board") := ⟨RX1, TX1, 14, cl_X1, by decide, x_in (i := 278) (by decide +kernel) rfl, rfl, rfl⟩
theorem fl_X1_34 : xFL RX1 34 1 3 true .boolean := ⟨RX1, TX1, 14, cl_X1, by decide, x_in (i := 279) (by decide +kernel) rfl, rfl, rfl⟩
theorem fl_X1_37 : xFL RX1 37 1 4 true .int := ⟨RX1, TX1, 14, cl_X1, by decide, x_in (i := 280) (by decide +kernel) rfl, rfl, rfl⟩
theorem fl_X1_41 : xFL RX1 41 1 5 true (.array .int) := ⟨RX1, TX1, 14, cl_X1, by decide, x_in (i := 281) (by decide +kernel) rfl, rfl, rfl⟩
theorem fl_X1_45 : xFL RX1 45 1 6 true (.array .int) := ⟨RX1, TX1, 14, cl_X1, by decide, x_in (i := 282) (by decide +kernel) rfl, rfl, rfl⟩
theorem fl_X1_48 : xFL RX1 48 1 7 true (.array .int) := ⟨RX1, TX1, 14, cl_X1, by decide, x_in (i := 283) (by decide +kernel) rfl, rfl, rfl⟩
theorem fl_X1_51 : xFL RX1 51 1 8 true (.array .int) := ⟨RX1, TX1, 14, cl_X1, by decide, x_in (i := 284) (by decide +kernel) rfl, rfl, rfl⟩
theorem fl_X1_54 : xFL RX1 54 1 9 true (.array .long) := ⟨RX1, TX1, 14, cl_X1, by decide, x_in (i := 285) (by decide +kernel) rfl, rfl, rfl⟩
theorem fl_X1_58 : xFL RX1 58 1 10 true (.array .long) := ⟨RX1, TX1, 14, cl_X1, by decide, x_in (i := 286) (by decide +kernel) rfl, rfl, rfl⟩
theorem fl_X1_61 : xFL RX1 61 1 11 true (.array .byte) := ⟨RX1, TX1, 14, cl_X1, by decide, x_in (i := 287) (by decide +kernel) rfl, rfl, rfl⟩
theorem lk_X1_65 : Cond.methodLink RX1 65 yJ7_fill_53178 ∈ xT := x_in (i := 664) (by decide +kernel) rfl
theorem lk_X1_71 : Cond.methodLink RX1 71 yX1_spanOf ∈ xT := x_in (i := 667) (by decide +kernel) rfl
theorem nk_X1_75 : (RX1, 75, yX9_isName, "HouseFronts") ∈ xNest := by decide +kernel
theorem lk_X1_79 : Cond.methodLink RX1 79 yX1_askBelow ∈ xT := x_in (i := 672) (by decide +kernel) rfl
theorem lk_X1_83 : Cond.methodLink RX1 83 yX1_settleCell ∈ xT := x_in (i := 686) (by decide +kernel) rfl
theorem lk_X1_86 : Cond.methodLink RX1 86 yX1_weightOf ∈ xT := x_in (i := 737) (by decide +kernel) rfl
theorem kc_X1_90 : Cond.constantLong RX1 90 (1048576 : Int64) ∈ xT := x_in (i := 786) (by decide +kernel) rfl
theorem kc_X1_92 : Cond.constantLong RX1 92 (-9 : Int64) ∈ xT := x_in (i := 741) (by decide +kernel) rfl
theorem fl_X1_94 : xFL RX1 94 5 1 true (.array .int) := ⟨RX5, TX5, 4, cl_X5, by decide, x_in (i := 188) (by decide +kernel) rfl, rfl, rfl⟩
theorem fl_X1_99 : xFL RX1 99 5 2 true (.array .int) := ⟨RX5, TX5, 4, cl_X5, by decide, x_in (i := 192) (by decide +kernel) rfl, rfl, rfl⟩
theorem fl_X1_100 : xFL RX1 100 3 2 false .int := ⟨RX3, TX3, 3, cl_X3, by decide, x_in (i := 169) (by decide +kernel) rfl, rfl, rfl⟩
theorem fl_X1_105 : xFL RX1 105 3 0 true (.array (.object "HouseFronts$Rule")) := ⟨RX3, TX3, 3, cl_X3, by decide, x_in (i := 163) (by decide +kernel) rfl, rfl, rfl⟩
theorem fl_X1_109 : xFL RX1 109 7 1 false .int := ⟨RX7, TX7, 9, cl_X7, by decide, x_in (i := 123) (by decide +kernel) rfl, rfl, rfl⟩
theorem lk_X1_114 : Cond.methodLink RX1 114 yX5_lay ∈ xT := x_in (i := 676) (by decide +kernel) rfl
theorem lk_X1_118 : Cond.methodLink RX1 118 yX7_isAlongY ∈ xT := x_in (i := 677) (by decide +kernel) rfl
theorem lk_X1_122 : Cond.methodLink RX1 122 yX1_askParts ∈ xT := x_in (i := 678) (by decide +kernel) rfl
theorem fl_X1_126 : xFL RX1 126 5 3 false .int := ⟨RX5, TX5, 4, cl_X5, by decide, x_in (i := 197) (by decide +kernel) rfl, rfl, rfl⟩
theorem lk_X1_127 : Cond.methodLink RX1 127 yX1_cellOfPart ∈ xT := x_in (i := 682) (by decide +kernel) rfl
theorem fl_X1_131 : xFL RX1 131 5 0 true (.array .int) := ⟨RX5, TX5, 4, cl_X5, by decide, x_in (i := 185) (by decide +kernel) rfl, rfl, rfl⟩
theorem lk_X1_133 : Cond.methodLink RX1 133 yX0_soleLetter ∈ xT := x_in (i := 690) (by decide +kernel) rfl
theorem lk_X1_139 : Cond.methodLink RX1 139 yX4_begin ∈ xT := x_in (i := 694) (by decide +kernel) rfl
theorem fl_X1_141 : xFL RX1 141 7 2 false .int := ⟨RX7, TX7, 9, cl_X7, by decide, x_in (i := 128) (by decide +kernel) rfl, rfl, rfl⟩
theorem fl_X1_144 : xFL RX1 144 7 4 false .int := ⟨RX7, TX7, 9, cl_X7, by decide, x_in (i := 136) (by decide +kernel) rfl, rfl, rfl⟩
theorem lk_X1_147 : Cond.methodLink RX1 147 yX7_weight ∈ xT := x_in (i := 703) (by decide +kernel) rfl
theorem lk_X1_151 : Cond.methodLink RX1 151 yX4_gain ∈ xT := x_in (i := 708) (by decide +kernel) rfl
theorem lk_X1_155 : Cond.methodLink RX1 155 yX4_tie ∈ xT := x_in (i := 720) (by decide +kernel) rfl
theorem lk_X1_159 : Cond.methodLink RX1 159 yX1_gainOfParts ∈ xT := x_in (i := 724) (by decide +kernel) rfl
theorem lk_X1_163 : Cond.methodLink RX1 163 yX4_settle ∈ xT := x_in (i := 742) (by decide +kernel) rfl
theorem lk_X1_166 : Cond.methodLink RX1 166 yX1_keep ∈ xT := x_in (i := 769) (by decide +kernel) rfl
theorem lk_X1_170 : Cond.methodLink RX1 170 yX1_waysOf ∈ xT := x_in (i := 728) (by decide +kernel) rfl
theorem kc_X1_173 : Cond.constantLong RX1 173 (-10 : Int64) ∈ xT := x_in (i := 732) (by decide +kernel) rfl
theorem lk_X1_175 : Cond.methodLink RX1 175 yX1_times ∈ xT := x_in (i := 733) (by decide +kernel) rfl
theorem lk_X1_179 : Cond.methodLink RX1 179 yX4_waysOf ∈ xT := x_in (i := 773) (by decide +kernel) rfl
theorem fl_X1_180 : xFL RX1 180 4 3 true (.array .long) := ⟨RX4, TX4, 11, cl_X4, by decide, x_in (i := 243) (by decide +kernel) rfl, rfl, rfl⟩
theorem fl_X1_182 : xFL RX1 182 4 4 true (.array .int) := ⟨RX4, TX4, 11, cl_X4, by decide, x_in (i := 245) (by decide +kernel) rfl, rfl, rfl⟩
theorem kc_X1_185 : Cond.constantLong RX1 185 (1000000000000000000 : Int64) ∈ xT := x_in (i := 736) (by decide +kernel) rfl
theorem lk_X2_3 : Cond.methodLink RX2 3 objectInit ∈ xT := x_in (i := 376) (by decide +kernel) rfl
theorem fl_X2_9 : xFL RX2 9 2 0 true (.array .byte) := ⟨RX2, TX2, 6, cl_X2, by decide, x_in (i := 377) (by decide +kernel) rfl, rfl, rfl⟩
theorem fl_X2_15 : xFL RX2 15 2 1 true (.array .byte) := ⟨RX2, TX2, 6, cl_X2, by decide, x_in (i := 378) (by decide +kernel) rfl, rfl, rfl⟩
theorem fl_X2_18 : xFL RX2 18 2 2 false .int := ⟨RX2, TX2, 6, cl_X2, by decide, x_in (i := 380) (by decide +kernel) rfl, rfl, rfl⟩
theorem fl_X2_22 : xFL RX2 22 2 3 false .int := ⟨RX2, TX2, 6, cl_X2, by decide, x_in (i := 382) (by decide +kernel) rfl, rfl, rfl⟩
theorem fl_X2_25 : xFL RX2 25 2 4 false .int := ⟨RX2, TX2, 6, cl_X2, by decide, x_in (i := 384) (by decide +kernel) rfl, rfl, rfl⟩
theorem fl_X2_28 : xFL RX2 28 2 5 false .int := ⟨RX2, TX2, 6, cl_X2, by decide, x_in (i := 386) (by decide +kernel) rfl, rfl, rfl⟩
theorem lk_X2_31 : Cond.methodLink RX2 31 yX2_begin ∈ xT := x_in (i := 520) (by decide +kernel) rfl
theorem lk_X2_35 : Cond.methodLink RX2 35 yJ7_fill_eb02e ∈ xT := x_in (i := 604) (by decide +kernel) rfl
theorem lk_X3_3 : Cond.methodLink RX3 3 objectInit ∈ xT := x_in (i := 73) (by decide +kernel) rfl
theorem ck_X3_9 : Cond.classLink RX3 9 RX7 ∈ xT := x_in (i := 74) (by decide +kernel) rfl
theorem fl_X3_11 : xFL RX3 11 3 0 true (.array (.object "HouseFronts$Rule")) := ⟨RX3, TX3, 3, cl_X3, by decide, x_in (i := 160) (by decide +kernel) rfl, rfl, rfl⟩
theorem nl_X3_17 : xNL RX3 17 6 := ⟨RX6, TX6, 6, cl_X6, x_in (i := 76) (by decide +kernel) rfl, x_in (i := 77) (by decide +kernel) rfl, x_in (i := 48) (by decide +kernel) rfl, by decide +kernel⟩
theorem nk_X3_19 : (RX3, 19, yX6_init, "HouseFronts") ∈ xNest := by decide +kernel
theorem fl_X3_20 : xFL RX3 20 3 1 true (.object "HouseFronts$Parts") := ⟨RX3, TX3, 3, cl_X3, by decide, x_in (i := 164) (by decide +kernel) rfl, rfl, rfl⟩
theorem fl_X3_24 : xFL RX3 24 3 2 false .int := ⟨RX3, TX3, 3, cl_X3, by decide, x_in (i := 166) (by decide +kernel) rfl, rfl, rfl⟩
theorem nk_X3_28 : (RX3, 28, yX7_init, "HouseFronts") ∈ xNest := by decide +kernel
theorem lk_X3_29 : Cond.methodLink RX3 29 yX6_empty ∈ xT := x_in (i := 489) (by decide +kernel) rfl
theorem lk_X3_32 : Cond.methodLink RX3 32 yX3_isFull ∈ xT := x_in (i := 454) (by decide +kernel) rfl
theorem lk_X3_36 : Cond.methodLink RX3 36 yX7_begin ∈ xT := x_in (i := 455) (by decide +kernel) rfl
theorem fl_X3_40 : xFL RX3 40 7 4 false .int := ⟨RX7, TX7, 9, cl_X7, by decide, x_in (i := 133) (by decide +kernel) rfl, rfl, rfl⟩
theorem fl_X3_43 : xFL RX3 43 7 0 true (.object "HouseFronts$Parts") := ⟨RX7, TX7, 9, cl_X7, by decide, x_in (i := 118) (by decide +kernel) rfl, rfl, rfl⟩
theorem lk_X3_46 : Cond.methodLink RX3 46 yX6_copy ∈ xT := x_in (i := 483) (by decide +kernel) rfl
theorem lk_X3_50 : Cond.methodLink RX3 50 yX6_add ∈ xT := x_in (i := 498) (by decide +kernel) rfl
theorem lk_X4_3 : Cond.methodLink RX4 3 objectInit ∈ xT := x_in (i := 238) (by decide +kernel) rfl
theorem fl_X4_9 : xFL RX4 9 4 0 true (.array .long) := ⟨RX4, TX4, 11, cl_X4, by decide, x_in (i := 239) (by decide +kernel) rfl, rfl, rfl⟩
theorem fl_X4_15 : xFL RX4 15 4 1 true (.array .long) := ⟨RX4, TX4, 11, cl_X4, by decide, x_in (i := 240) (by decide +kernel) rfl, rfl, rfl⟩
theorem fl_X4_18 : xFL RX4 18 4 2 true (.array .long) := ⟨RX4, TX4, 11, cl_X4, by decide, x_in (i := 241) (by decide +kernel) rfl, rfl, rfl⟩
theorem fl_X4_21 : xFL RX4 21 4 3 true (.array .long) := ⟨RX4, TX4, 11, cl_X4, by decide, x_in (i := 242) (by decide +kernel) rfl, rfl, rfl⟩
theorem fl_X4_24 : xFL RX4 24 4 4 true (.array .int) := ⟨RX4, TX4, 11, cl_X4, by decide, x_in (i := 244) (by decide +kernel) rfl, rfl, rfl⟩
theorem fl_X4_28 : xFL RX4 28 4 5 true (.array .int) := ⟨RX4, TX4, 11, cl_X4, by decide, x_in (i := 246) (by decide +kernel) rfl, rfl, rfl⟩
theorem fl_X4_31 : xFL RX4 31 4 6 true (.array .int) := ⟨RX4, TX4, 11, cl_X4, by decide, x_in (i := 247) (by decide +kernel) rfl, rfl, rfl⟩
theorem fl_X4_34 : xFL RX4 34 4 7 true (.array .int) := ⟨RX4, TX4, 11, cl_X4, by decide, x_in (i := 248) (by decide +kernel) rfl, rfl, rfl⟩
theorem fl_X4_37 : xFL RX4 37 4 8 true (.array .long) := ⟨RX4, TX4, 11, cl_X4, by decide, x_in (i := 249) (by decide +kernel) rfl, rfl, rfl⟩
theorem fl_X4_40 : xFL RX4 40 4 9 false .int := ⟨RX4, TX4, 11, cl_X4, by decide, x_in (i := 250) (by decide +kernel) rfl, rfl, rfl⟩
theorem fl_X4_44 : xFL RX4 44 4 10 false .int := ⟨RX4, TX4, 11, cl_X4, by decide, x_in (i := 251) (by decide +kernel) rfl, rfl, rfl⟩
theorem lk_X4_47 : Cond.methodLink RX4 47 yJ7_fill_d0a16 ∈ xT := x_in (i := 698) (by decide +kernel) rfl
theorem kc_X4_53 : Cond.constantLong RX4 53 (-9 : Int64) ∈ xT := x_in (i := 701) (by decide +kernel) rfl
theorem lk_X4_55 : Cond.methodLink RX4 55 yJ7_fill_53178 ∈ xT := x_in (i := 702) (by decide +kernel) rfl
theorem kc_X4_58 : Cond.constantLong RX4 58 (-10 : Int64) ∈ xT := x_in (i := 712) (by decide +kernel) rfl
theorem lk_X4_60 : Cond.methodLink RX4 60 yX4_plus ∈ xT := x_in (i := 713) (by decide +kernel) rfl
theorem lk_X4_64 : Cond.methodLink RX4 64 arraycopyName ∈ xT := x_in (i := 746) (by decide +kernel) rfl
theorem lk_X4_70 : Cond.methodLink RX4 70 yX4_findEndless ∈ xT := x_in (i := 749) (by decide +kernel) rfl
theorem lk_X4_73 : Cond.methodLink RX4 73 yX4_sumTies ∈ xT := x_in (i := 757) (by decide +kernel) rfl
theorem lk_X4_76 : Cond.methodLink RX4 76 yX4_lightenByTies ∈ xT := x_in (i := 761) (by decide +kernel) rfl
theorem lk_X4_79 : Cond.methodLink RX4 79 yX4_pickAmongTies ∈ xT := x_in (i := 765) (by decide +kernel) rfl
theorem lk_X4_82 : Cond.methodLink RX4 82 yX4_tiedTo ∈ xT := x_in (i := 753) (by decide +kernel) rfl
theorem kc_X4_86 : Cond.constantLong RX4 86 (1000000000000000000 : Int64) ∈ xT := x_in (i := 716) (by decide +kernel) rfl
theorem lk_X4_88 : Cond.methodLink RX4 88 Lib.MathLoose.min_long.x ∈ xT := x_in (i := 717) (by decide +kernel) rfl
theorem lk_X5_3 : Cond.methodLink RX5 3 objectInit ∈ xT := x_in (i := 182) (by decide +kernel) rfl
theorem fl_X5_9 : xFL RX5 9 5 0 true (.array .int) := ⟨RX5, TX5, 4, cl_X5, by decide, x_in (i := 183) (by decide +kernel) rfl, rfl, rfl⟩
theorem fl_X5_15 : xFL RX5 15 5 1 true (.array .int) := ⟨RX5, TX5, 4, cl_X5, by decide, x_in (i := 186) (by decide +kernel) rfl, rfl, rfl⟩
theorem fl_X5_18 : xFL RX5 18 5 2 true (.array .int) := ⟨RX5, TX5, 4, cl_X5, by decide, x_in (i := 190) (by decide +kernel) rfl, rfl, rfl⟩
theorem fl_X5_21 : xFL RX5 21 5 3 false .int := ⟨RX5, TX5, 4, cl_X5, by decide, x_in (i := 194) (by decide +kernel) rfl, rfl, rfl⟩
theorem lk_X5_25 : Cond.methodLink RX5 25 yX7_admits ∈ xT := x_in (i := 539) (by decide +kernel) rfl
theorem fl_X5_31 : xFL RX5 31 7 2 false .int := ⟨RX7, TX7, 9, cl_X7, by decide, x_in (i := 125) (by decide +kernel) rfl, rfl, rfl⟩
theorem lk_X5_34 : Cond.methodLink RX5 34 yX7_isAlongY ∈ xT := x_in (i := 544) (by decide +kernel) rfl
theorem lk_X5_38 : Cond.methodLink RX5 38 yX7_isRepeat ∈ xT := x_in (i := 548) (by decide +kernel) rfl
theorem fl_X5_41 : xFL RX5 41 7 0 true (.object "HouseFronts$Parts") := ⟨RX7, TX7, 9, cl_X7, by decide, x_in (i := 117) (by decide +kernel) rfl, rfl, rfl⟩
theorem lk_X5_45 : Cond.methodLink RX5 45 yX5_layRepeat ∈ xT := x_in (i := 552) (by decide +kernel) rfl
theorem lk_X5_49 : Cond.methodLink RX5 49 yX5_laySplit ∈ xT := x_in (i := 560) (by decide +kernel) rfl
theorem fl_X5_52 : xFL RX5 52 6 4 false .int := ⟨RX6, TX6, 6, cl_X6, by decide, x_in (i := 92) (by decide +kernel) rfl, rfl, rfl⟩
theorem fl_X5_57 : xFL RX5 57 6 5 false .int := ⟨RX6, TX6, 6, cl_X6, by decide, x_in (i := 94) (by decide +kernel) rfl, rfl, rfl⟩
theorem fl_X5_60 : xFL RX5 60 6 3 false .int := ⟨RX6, TX6, 6, cl_X6, by decide, x_in (i := 89) (by decide +kernel) rfl, rfl, rfl⟩
theorem fl_X5_61 : xFL RX5 61 6 2 true (.array .int) := ⟨RX6, TX6, 6, cl_X6, by decide, x_in (i := 87) (by decide +kernel) rfl, rfl, rfl⟩
theorem fl_X5_64 : xFL RX5 64 6 0 true (.array .int) := ⟨RX6, TX6, 6, cl_X6, by decide, x_in (i := 83) (by decide +kernel) rfl, rfl, rfl⟩
theorem fl_X5_65 : xFL RX5 65 6 1 true (.array .int) := ⟨RX6, TX6, 6, cl_X6, by decide, x_in (i := 85) (by decide +kernel) rfl, rfl, rfl⟩
theorem lk_X5_68 : Cond.methodLink RX5 68 yX5_laidOneAfterAnother ∈ xT := x_in (i := 556) (by decide +kernel) rfl
theorem lk_X6_3 : Cond.methodLink RX6 3 objectInit ∈ xT := x_in (i := 81) (by decide +kernel) rfl
theorem fl_X6_9 : xFL RX6 9 6 0 true (.array .int) := ⟨RX6, TX6, 6, cl_X6, by decide, x_in (i := 82) (by decide +kernel) rfl, rfl, rfl⟩
theorem fl_X6_15 : xFL RX6 15 6 1 true (.array .int) := ⟨RX6, TX6, 6, cl_X6, by decide, x_in (i := 84) (by decide +kernel) rfl, rfl, rfl⟩
theorem fl_X6_18 : xFL RX6 18 6 2 true (.array .int) := ⟨RX6, TX6, 6, cl_X6, by decide, x_in (i := 86) (by decide +kernel) rfl, rfl, rfl⟩
theorem fl_X6_21 : xFL RX6 21 6 3 false .int := ⟨RX6, TX6, 6, cl_X6, by decide, x_in (i := 88) (by decide +kernel) rfl, rfl, rfl⟩
theorem fl_X6_25 : xFL RX6 25 6 4 false .int := ⟨RX6, TX6, 6, cl_X6, by decide, x_in (i := 91) (by decide +kernel) rfl, rfl, rfl⟩
theorem fl_X6_28 : xFL RX6 28 6 5 false .int := ⟨RX6, TX6, 6, cl_X6, by decide, x_in (i := 93) (by decide +kernel) rfl, rfl, rfl⟩
theorem lk_X6_31 : Cond.methodLink RX6 31 yX6_empty ∈ xT := x_in (i := 487) (by decide +kernel) rfl
theorem lk_X6_34 : Cond.methodLink RX6 34 yX6_add ∈ xT := x_in (i := 488) (by decide +kernel) rfl
theorem lk_X7_3 : Cond.methodLink RX7 3 objectInit ∈ xT := x_in (i := 113) (by decide +kernel) rfl
theorem nl_X7_9 : xNL RX7 9 6 := ⟨RX6, TX6, 6, cl_X6, x_in (i := 114) (by decide +kernel) rfl, x_in (i := 77) (by decide +kernel) rfl, x_in (i := 48) (by decide +kernel) rfl, by decide +kernel⟩
theorem nk_X7_11 : (RX7, 11, yX6_init, "HouseFronts") ∈ xNest := by decide +kernel
theorem fl_X7_12 : xFL RX7 12 7 0 true (.object "HouseFronts$Parts") := ⟨RX7, TX7, 9, cl_X7, by decide, x_in (i := 116) (by decide +kernel) rfl, rfl, rfl⟩
theorem fl_X7_18 : xFL RX7 18 7 1 false .int := ⟨RX7, TX7, 9, cl_X7, by decide, x_in (i := 120) (by decide +kernel) rfl, rfl, rfl⟩
theorem fl_X7_22 : xFL RX7 22 7 2 false .int := ⟨RX7, TX7, 9, cl_X7, by decide, x_in (i := 124) (by decide +kernel) rfl, rfl, rfl⟩
theorem fl_X7_25 : xFL RX7 25 7 3 false .int := ⟨RX7, TX7, 9, cl_X7, by decide, x_in (i := 129) (by decide +kernel) rfl, rfl, rfl⟩
theorem fl_X7_28 : xFL RX7 28 7 4 false .int := ⟨RX7, TX7, 9, cl_X7, by decide, x_in (i := 132) (by decide +kernel) rfl, rfl, rfl⟩
theorem fl_X7_31 : xFL RX7 31 7 5 false .int := ⟨RX7, TX7, 9, cl_X7, by decide, x_in (i := 137) (by decide +kernel) rfl, rfl, rfl⟩
theorem fl_X7_34 : xFL RX7 34 7 6 false .int := ⟨RX7, TX7, 9, cl_X7, by decide, x_in (i := 138) (by decide +kernel) rfl, rfl, rfl⟩
theorem fl_X7_37 : xFL RX7 37 7 7 false .int := ⟨RX7, TX7, 9, cl_X7, by decide, x_in (i := 139) (by decide +kernel) rfl, rfl, rfl⟩
theorem fl_X7_40 : xFL RX7 40 7 8 false .int := ⟨RX7, TX7, 9, cl_X7, by decide, x_in (i := 140) (by decide +kernel) rfl, rfl, rfl⟩
theorem lk_X7_43 : Cond.methodLink RX7 43 yX6_empty ∈ xT := x_in (i := 459) (by decide +kernel) rfl
theorem lk_X7_46 : Cond.methodLink RX7 46 yX7_limit ∈ xT := x_in (i := 463) (by decide +kernel) rfl
theorem nk_X7_50 : (RX7, 50, yX9_isWithin, "HouseFronts") ∈ xNest := by decide +kernel
theorem kc_X7_54 : Cond.constantLong RX7 54 (1048576 : Int64) ∈ xT := x_in (i := 707) (by decide +kernel) rfl
theorem lk_X8_3 : Cond.methodLink RX8 3 objectInit ∈ xT := x_in (i := 325) (by decide +kernel) rfl
theorem ck_X8_9 : Cond.classLink RX8 9 "[[I" ∈ xT := x_in (i := 326) (by decide +kernel) rfl
theorem fl_X8_11 : xFL RX8 11 8 2 true (.array (.array .int)) := ⟨RX8, TX8, 12, cl_X8, by decide, x_in (i := 330) (by decide +kernel) rfl, rfl, rfl⟩
theorem fl_X8_16 : xFL RX8 16 8 3 true (.array .int) := ⟨RX8, TX8, 12, cl_X8, by decide, x_in (i := 331) (by decide +kernel) rfl, rfl, rfl⟩
theorem fl_X8_20 : xFL RX8 20 8 4 false .int := ⟨RX8, TX8, 12, cl_X8, by decide, x_in (i := 332) (by decide +kernel) rfl, rfl, rfl⟩
theorem fl_X8_24 : xFL RX8 24 8 5 false .int := ⟨RX8, TX8, 12, cl_X8, by decide, x_in (i := 333) (by decide +kernel) rfl, rfl, rfl⟩
theorem fl_X8_27 : xFL RX8 27 8 6 false .int := ⟨RX8, TX8, 12, cl_X8, by decide, x_in (i := 335) (by decide +kernel) rfl, rfl, rfl⟩
theorem fl_X8_30 : xFL RX8 30 8 7 false .int := ⟨RX8, TX8, 12, cl_X8, by decide, x_in (i := 337) (by decide +kernel) rfl, rfl, rfl⟩
theorem fl_X8_33 : xFL RX8 33 8 8 false .int := ⟨RX8, TX8, 12, cl_X8, by decide, x_in (i := 339) (by decide +kernel) rfl, rfl, rfl⟩
theorem fl_X8_36 : xFL RX8 36 8 9 false .int := ⟨RX8, TX8, 12, cl_X8, by decide, x_in (i := 341) (by decide +kernel) rfl, rfl, rfl⟩
theorem fl_X8_39 : xFL RX8 39 8 10 false .int := ⟨RX8, TX8, 12, cl_X8, by decide, x_in (i := 343) (by decide +kernel) rfl, rfl, rfl⟩
theorem fl_X8_42 : xFL RX8 42 8 11 false .int := ⟨RX8, TX8, 12, cl_X8, by decide, x_in (i := 345) (by decide +kernel) rfl, rfl, rfl⟩
theorem fl_X8_45 : xFL RX8 45 8 0 true (.object "HouseFronts$Grammar") := ⟨RX8, TX8, 12, cl_X8, by decide, x_in (i := 328) (by decide +kernel) rfl, rfl, rfl⟩
theorem fl_X8_49 : xFL RX8 49 8 1 true (.object "HouseFronts$Layout") := ⟨RX8, TX8, 12, cl_X8, by decide, x_in (i := 329) (by decide +kernel) rfl, rfl, rfl⟩
theorem lk_X8_53 : Cond.methodLink RX8 53 yX8_push ∈ xT := x_in (i := 581) (by decide +kernel) rfl
theorem lk_X8_57 : Cond.methodLink RX8 57 yX5_lay ∈ xT := x_in (i := 593) (by decide +kernel) rfl
theorem lk_X8_63 : Cond.methodLink RX8 63 yX7_isAlongY ∈ xT := x_in (i := 614) (by decide +kernel) rfl
theorem fl_X8_69 : xFL RX8 69 5 3 false .int := ⟨RX5, TX5, 4, cl_X5, by decide, x_in (i := 195) (by decide +kernel) rfl, rfl, rfl⟩
theorem fl_X8_72 : xFL RX8 72 5 1 true (.array .int) := ⟨RX5, TX5, 4, cl_X5, by decide, x_in (i := 187) (by decide +kernel) rfl, rfl, rfl⟩
theorem fl_X8_75 : xFL RX8 75 5 2 true (.array .int) := ⟨RX5, TX5, 4, cl_X5, by decide, x_in (i := 191) (by decide +kernel) rfl, rfl, rfl⟩
theorem fl_X8_78 : xFL RX8 78 5 0 true (.array .int) := ⟨RX5, TX5, 4, cl_X5, by decide, x_in (i := 184) (by decide +kernel) rfl, rfl, rfl⟩
theorem lk_X8_80 : Cond.methodLink RX8 80 yX2_begin ∈ xT := x_in (i := 576) (by decide +kernel) rfl
theorem lk_X8_85 : Cond.methodLink RX8 85 yX8_begin ∈ xT := x_in (i := 577) (by decide +kernel) rfl
theorem lk_X8_88 : Cond.methodLink RX8 88 yX8_next ∈ xT := x_in (i := 585) (by decide +kernel) rfl
theorem lk_X8_91 : Cond.methodLink RX8 91 yX8_choose ∈ xT := x_in (i := 589) (by decide +kernel) rfl
theorem lk_X8_95 : Cond.methodLink RX8 95 yX3_has ∈ xT := x_in (i := 595) (by decide +kernel) rfl
theorem fl_X8_101 : xFL RX8 101 3 0 true (.array (.object "HouseFronts$Rule")) := ⟨RX3, TX3, 3, cl_X3, by decide, x_in (i := 162) (by decide +kernel) rfl, rfl, rfl⟩
theorem fl_X8_105 : xFL RX8 105 7 3 false .int := ⟨RX7, TX7, 9, cl_X7, by decide, x_in (i := 130) (by decide +kernel) rfl, rfl, rfl⟩
theorem lk_X8_108 : Cond.methodLink RX8 108 yX2_add ∈ xT := x_in (i := 596) (by decide +kernel) rfl
theorem fl_X8_111 : xFL RX8 111 7 2 false .int := ⟨RX7, TX7, 9, cl_X7, by decide, x_in (i := 126) (by decide +kernel) rfl, rfl, rfl⟩
theorem fl_X8_114 : xFL RX8 114 7 4 false .int := ⟨RX7, TX7, 9, cl_X7, by decide, x_in (i := 134) (by decide +kernel) rfl, rfl, rfl⟩
theorem lk_X8_117 : Cond.methodLink RX8 117 yX2_paint ∈ xT := x_in (i := 600) (by decide +kernel) rfl
theorem lk_X8_121 : Cond.methodLink RX8 121 yX8_spread ∈ xT := x_in (i := 610) (by decide +kernel) rfl
theorem fl_X8_125 : xFL RX8 125 3 2 false .int := ⟨RX3, TX3, 3, cl_X3, by decide, x_in (i := 168) (by decide +kernel) rfl, rfl, rfl⟩
theorem fl_X8_126 : xFL RX8 126 7 1 false .int := ⟨RX7, TX7, 9, cl_X7, by decide, x_in (i := 121) (by decide +kernel) rfl, rfl, rfl⟩
theorem kc_X8_127 : Cond.constant RX8 127 (1103515245 : Int32) ∈ xT := x_in (i := 594) (by decide +kernel) rfl
theorem lk_X9_3 : Cond.methodLink RX9 3 objectInit ∈ xT := x_in (i := 65) (by decide +kernel) rfl
theorem nl_X9_9 : xNL RX9 9 3 := ⟨RX3, TX3, 3, cl_X3, x_in (i := 68) (by decide +kernel) rfl, x_in (i := 69) (by decide +kernel) rfl, x_in (i := 47) (by decide +kernel) rfl, by decide +kernel⟩
theorem lk_X9_11 : Cond.methodLink RX9 11 yX3_init ∈ xT := x_in (i := 70) (by decide +kernel) rfl
theorem fl_X9_12 : xFL RX9 12 9 0 true (.object "HouseFronts$Grammar") := ⟨RX9, TX9, 9, cl_X9, by decide, x_in (i := 401) (by decide +kernel) rfl, rfl, rfl⟩
theorem nl_X9_16 : xNL RX9 16 5 := ⟨RX5, TX5, 4, cl_X5, x_in (i := 177) (by decide +kernel) rfl, x_in (i := 178) (by decide +kernel) rfl, x_in (i := 50) (by decide +kernel) rfl, by decide +kernel⟩
theorem nk_X9_18 : (RX9, 18, yX5_init, "HouseFronts") ∈ xNest := by decide +kernel
theorem fl_X9_19 : xFL RX9 19 9 1 true (.object "HouseFronts$Layout") := ⟨RX9, TX9, 9, cl_X9, by decide, x_in (i := 402) (by decide +kernel) rfl, rfl, rfl⟩
theorem nl_X9_23 : xNL RX9 23 0 := ⟨RX0, TX0, 3, cl_X0, x_in (i := 207) (by decide +kernel) rfl, x_in (i := 208) (by decide +kernel) rfl, x_in (i := 51) (by decide +kernel) rfl, by decide +kernel⟩
theorem nk_X9_25 : (RX9, 25, yX0_init, "HouseFronts") ∈ xNest := by decide +kernel
theorem fl_X9_26 : xFL RX9 26 9 2 true (.object "HouseFronts$Board") := ⟨RX9, TX9, 9, cl_X9, by decide, x_in (i := 403) (by decide +kernel) rfl, rfl, rfl⟩
theorem nl_X9_30 : xNL RX9 30 1 := ⟨RX1, TX1, 14, cl_X1, x_in (i := 227) (by decide +kernel) rfl, x_in (i := 228) (by decide +kernel) rfl, x_in (i := 52) (by decide +kernel) rfl, by decide +kernel⟩
theorem lk_X9_32 : Cond.methodLink RX9 32 yX1_init ∈ xT := x_in (i := 229) (by decide +kernel) rfl
theorem fl_X9_35 : xFL RX9 35 9 3 true (.object "HouseFronts$Chart") := ⟨RX9, TX9, 9, cl_X9, by decide, x_in (i := 404) (by decide +kernel) rfl, rfl, rfl⟩
theorem fl_X9_39 : xFL RX9 39 9 4 true (.object "HouseFronts$Chart") := ⟨RX9, TX9, 9, cl_X9, by decide, x_in (i := 405) (by decide +kernel) rfl, rfl, rfl⟩
theorem nl_X9_42 : xNL RX9 42 8 := ⟨RX8, TX8, 12, cl_X8, x_in (i := 320) (by decide +kernel) rfl, x_in (i := 321) (by decide +kernel) rfl, x_in (i := 54) (by decide +kernel) rfl, by decide +kernel⟩
theorem lk_X9_44 : Cond.methodLink RX9 44 yX8_init ∈ xT := x_in (i := 322) (by decide +kernel) rfl
theorem fl_X9_47 : xFL RX9 47 9 5 true (.object "HouseFronts$Walk") := ⟨RX9, TX9, 9, cl_X9, by decide, x_in (i := 406) (by decide +kernel) rfl, rfl, rfl⟩
theorem nl_X9_51 : xNL RX9 51 2 := ⟨RX2, TX2, 6, cl_X2, x_in (i := 371) (by decide +kernel) rfl, x_in (i := 372) (by decide +kernel) rfl, x_in (i := 55) (by decide +kernel) rfl, by decide +kernel⟩
theorem nk_X9_53 : (RX9, 53, yX2_init, "HouseFronts") ∈ xNest := by decide +kernel
theorem fl_X9_54 : xFL RX9 54 9 6 false (.object "HouseFronts$Front") := ⟨RX9, TX9, 9, cl_X9, by decide, x_in (i := 407) (by decide +kernel) rfl, rfl, rfl⟩
theorem fl_X9_58 : xFL RX9 58 9 7 false (.object "HouseFronts$Front") := ⟨RX9, TX9, 9, cl_X9, by decide, x_in (i := 408) (by decide +kernel) rfl, rfl, rfl⟩
theorem fl_X9_61 : xFL RX9 61 9 8 false .int := ⟨RX9, TX9, 9, cl_X9, by decide, x_in (i := 409) (by decide +kernel) rfl, rfl, rfl⟩
theorem lk_X9_65 : Cond.methodLink RX9 65 yX9_isName ∈ xT := x_in (i := 433) (by decide +kernel) rfl
theorem lk_X9_69 : Cond.methodLink RX9 69 yX9_isWithin ∈ xT := x_in (i := 436) (by decide +kernel) rfl
theorem lk_X9_73 : Cond.methodLink RX9 73 yX9_isCost ∈ xT := x_in (i := 439) (by decide +kernel) rfl
theorem lk_X9_76 : Cond.methodLink RX9 76 yX3_isFull ∈ xT := x_in (i := 442) (by decide +kernel) rfl
theorem lk_X9_80 : Cond.methodLink RX9 80 yX9_forgetParses ∈ xT := x_in (i := 446) (by decide +kernel) rfl
theorem lk_X9_83 : Cond.methodLink RX9 83 yX3_addFill ∈ xT := x_in (i := 450) (by decide +kernel) rfl
theorem fl_X9_87 : xFL RX9 87 3 1 true (.object "HouseFronts$Parts") := ⟨RX3, TX3, 3, cl_X3, by decide, x_in (i := 165) (by decide +kernel) rfl, rfl, rfl⟩
theorem fl_X9_91 : xFL RX9 91 6 3 false .int := ⟨RX6, TX6, 6, cl_X6, by decide, x_in (i := 90) (by decide +kernel) rfl, rfl, rfl⟩
theorem lk_X9_96 : Cond.methodLink RX9 96 yX6_add ∈ xT := x_in (i := 471) (by decide +kernel) rfl
theorem lk_X9_100 : Cond.methodLink RX9 100 yX3_addSplit ∈ xT := x_in (i := 479) (by decide +kernel) rfl
theorem lk_X9_104 : Cond.methodLink RX9 104 yX3_addRepeat ∈ xT := x_in (i := 494) (by decide +kernel) rfl
theorem lk_X9_108 : Cond.methodLink RX9 108 yX3_has ∈ xT := x_in (i := 503) (by decide +kernel) rfl
theorem fl_X9_111 : xFL RX9 111 3 0 true (.array (.object "HouseFronts$Rule")) := ⟨RX3, TX3, 3, cl_X3, by decide, x_in (i := 161) (by decide +kernel) rfl, rfl, rfl⟩
theorem lk_X9_115 : Cond.methodLink RX9 115 yX7_limit ∈ xT := x_in (i := 507) (by decide +kernel) rfl
theorem fl_X9_121 : xFL RX9 121 3 2 false .int := ⟨RX3, TX3, 3, cl_X3, by decide, x_in (i := 167) (by decide +kernel) rfl, rfl, rfl⟩
theorem lk_X9_122 : Cond.methodLink RX9 122 yX3_empty ∈ xT := x_in (i := 512) (by decide +kernel) rfl
theorem lk_X9_125 : Cond.methodLink RX9 125 yX2_empty ∈ xT := x_in (i := 516) (by decide +kernel) rfl
theorem fl_X9_126 : xFL RX9 126 7 1 false .int := ⟨RX7, TX7, 9, cl_X7, by decide, x_in (i := 122) (by decide +kernel) rfl, rfl, rfl⟩
theorem fl_X9_129 : xFL RX9 129 7 2 false .int := ⟨RX7, TX7, 9, cl_X7, by decide, x_in (i := 127) (by decide +kernel) rfl, rfl, rfl⟩
theorem fl_X9_132 : xFL RX9 132 7 3 false .int := ⟨RX7, TX7, 9, cl_X7, by decide, x_in (i := 131) (by decide +kernel) rfl, rfl, rfl⟩
theorem fl_X9_135 : xFL RX9 135 7 0 true (.object "HouseFronts$Parts") := ⟨RX7, TX7, 9, cl_X7, by decide, x_in (i := 119) (by decide +kernel) rfl, rfl, rfl⟩
theorem fl_X9_138 : xFL RX9 138 7 4 false .int := ⟨RX7, TX7, 9, cl_X7, by decide, x_in (i := 135) (by decide +kernel) rfl, rfl, rfl⟩
theorem lk_X9_141 : Cond.methodLink RX9 141 yX9_isScope ∈ xT := x_in (i := 532) (by decide +kernel) rfl
theorem lk_X9_145 : Cond.methodLink RX9 145 yX5_lay ∈ xT := x_in (i := 535) (by decide +kernel) rfl
theorem fl_X9_149 : xFL RX9 149 5 3 false .int := ⟨RX5, TX5, 4, cl_X5, by decide, x_in (i := 196) (by decide +kernel) rfl, rfl, rfl⟩
theorem fl_X9_150 : xFL RX9 150 5 2 true (.array .int) := ⟨RX5, TX5, 4, cl_X5, by decide, x_in (i := 193) (by decide +kernel) rfl, rfl, rfl⟩
theorem fl_X9_154 : xFL RX9 154 5 1 true (.array .int) := ⟨RX5, TX5, 4, cl_X5, by decide, x_in (i := 189) (by decide +kernel) rfl, rfl, rfl⟩
theorem lk_X9_157 : Cond.methodLink RX9 157 yX8_grow ∈ xT := x_in (i := 572) (by decide +kernel) rfl
theorem fl_X9_161 : xFL RX9 161 8 10 false .int := ⟨RX8, TX8, 12, cl_X8, by decide, x_in (i := 344) (by decide +kernel) rfl, rfl, rfl⟩
theorem fl_X9_164 : xFL RX9 164 2 4 false .int := ⟨RX2, TX2, 6, cl_X2, by decide, x_in (i := 385) (by decide +kernel) rfl, rfl, rfl⟩
theorem fl_X9_165 : xFL RX9 165 2 2 false .int := ⟨RX2, TX2, 6, cl_X2, by decide, x_in (i := 381) (by decide +kernel) rfl, rfl, rfl⟩
theorem fl_X9_168 : xFL RX9 168 2 3 false .int := ⟨RX2, TX2, 6, cl_X2, by decide, x_in (i := 383) (by decide +kernel) rfl, rfl, rfl⟩
theorem lk_X9_171 : Cond.methodLink RX9 171 yX2_letterOf ∈ xT := x_in (i := 619) (by decide +kernel) rfl
theorem fl_X9_175 : xFL RX9 175 2 1 true (.array .byte) := ⟨RX2, TX2, 6, cl_X2, by decide, x_in (i := 379) (by decide +kernel) rfl, rfl, rfl⟩
theorem fl_X9_178 : xFL RX9 178 2 5 false .int := ⟨RX2, TX2, 6, cl_X2, by decide, x_in (i := 387) (by decide +kernel) rfl, rfl, rfl⟩
theorem lk_X9_179 : Cond.methodLink RX9 179 yX0_begin ∈ xT := x_in (i := 639) (by decide +kernel) rfl
theorem lk_X9_182 : Cond.methodLink RX9 182 yX0_set ∈ xT := x_in (i := 646) (by decide +kernel) rfl
theorem fl_X9_185 : xFL RX9 185 1 13 false .boolean := ⟨RX1, TX1, 14, cl_X1, by decide, x_in (i := 290) (by decide +kernel) rfl, rfl, rfl⟩
theorem kc_X9_189 : Cond.constantLong RX9 189 (-1 : Int64) ∈ xT := x_in (i := 658) (by decide +kernel) rfl
theorem kc_X9_191 : Cond.constantLong RX9 191 (-2 : Int64) ∈ xT := x_in (i := 659) (by decide +kernel) rfl
theorem lk_X9_193 : Cond.methodLink RX9 193 yX1_settle ∈ xT := x_in (i := 660) (by decide +kernel) rfl
theorem lk_X9_197 : Cond.methodLink RX9 197 yX1_waysOf ∈ xT := x_in (i := 777) (by decide +kernel) rfl
theorem lk_X9_201 : Cond.methodLink RX9 201 yX1_costOf ∈ xT := x_in (i := 782) (by decide +kernel) rfl
theorem lk_X9_205 : Cond.methodLink RX9 205 yX0_has ∈ xT := x_in (i := 795) (by decide +kernel) rfl
theorem fl_X9_206 : xFL RX9 206 0 0 true (.array .byte) := ⟨RX0, TX0, 3, cl_X0, by decide, x_in (i := 214) (by decide +kernel) rfl, rfl, rfl⟩
theorem lk_X9_209 : Cond.methodLink RX9 209 yX9_settleBoard ∈ xT := x_in (i := 800) (by decide +kernel) rfl
theorem lk_X9_213 : Cond.methodLink RX9 213 yX1_stepsOf ∈ xT := x_in (i := 812) (by decide +kernel) rfl
theorem fl_X9_216 : xFL RX9 216 0 1 false .int := ⟨RX0, TX0, 3, cl_X0, by decide, x_in (i := 216) (by decide +kernel) rfl, rfl, rfl⟩
theorem fl_X9_217 : xFL RX9 217 0 2 false .int := ⟨RX0, TX0, 3, cl_X0, by decide, x_in (i := 218) (by decide +kernel) rfl, rfl, rfl⟩
theorem lk_X9_218 : Cond.methodLink RX9 218 yX8_begin ∈ xT := x_in (i := 816) (by decide +kernel) rfl
theorem lk_X9_220 : Cond.methodLink RX9 220 yX8_next ∈ xT := x_in (i := 817) (by decide +kernel) rfl
theorem fl_X9_223 : xFL RX9 223 8 5 false .int := ⟨RX8, TX8, 12, cl_X8, by decide, x_in (i := 334) (by decide +kernel) rfl, rfl, rfl⟩
theorem fl_X9_224 : xFL RX9 224 8 6 false .int := ⟨RX8, TX8, 12, cl_X8, by decide, x_in (i := 336) (by decide +kernel) rfl, rfl, rfl⟩
theorem fl_X9_227 : xFL RX9 227 8 7 false .int := ⟨RX8, TX8, 12, cl_X8, by decide, x_in (i := 338) (by decide +kernel) rfl, rfl, rfl⟩
theorem fl_X9_230 : xFL RX9 230 8 8 false .int := ⟨RX8, TX8, 12, cl_X8, by decide, x_in (i := 340) (by decide +kernel) rfl, rfl, rfl⟩
theorem fl_X9_231 : xFL RX9 231 8 9 false .int := ⟨RX8, TX8, 12, cl_X8, by decide, x_in (i := 342) (by decide +kernel) rfl, rfl, rfl⟩
theorem lk_X9_232 : Cond.methodLink RX9 232 yX1_pickOf ∈ xT := x_in (i := 818) (by decide +kernel) rfl
theorem lk_X9_235 : Cond.methodLink RX9 235 yX8_spread ∈ xT := x_in (i := 822) (by decide +kernel) rfl
theorem lk_X10_1 : Cond.methodLink RX10 1 objectInit ∈ xT := x_in (i := 836) (by decide +kernel) rfl
theorem fl_X10_7 : xFL RX10 7 10 1 true (.array .int) := ⟨RX10, TX10, 51, cl_X10, by decide, x_in (i := 843) (by decide +kernel) rfl, rfl, rfl⟩
theorem fl_X10_13 : xFL RX10 13 10 2 true (.array .int) := ⟨RX10, TX10, 51, cl_X10, by decide, x_in (i := 844) (by decide +kernel) rfl, rfl, rfl⟩
theorem fl_X10_16 : xFL RX10 16 10 3 true (.array .int) := ⟨RX10, TX10, 51, cl_X10, by decide, x_in (i := 845) (by decide +kernel) rfl, rfl, rfl⟩
theorem fl_X10_19 : xFL RX10 19 10 4 true (.array .int) := ⟨RX10, TX10, 51, cl_X10, by decide, x_in (i := 846) (by decide +kernel) rfl, rfl, rfl⟩
theorem fl_X10_22 : xFL RX10 22 10 5 true (.array .int) := ⟨RX10, TX10, 51, cl_X10, by decide, x_in (i := 847) (by decide +kernel) rfl, rfl, rfl⟩
theorem fl_X10_25 : xFL RX10 25 10 6 true (.array .int) := ⟨RX10, TX10, 51, cl_X10, by decide, x_in (i := 848) (by decide +kernel) rfl, rfl, rfl⟩
theorem fl_X10_28 : xFL RX10 28 10 7 true (.array .int) := ⟨RX10, TX10, 51, cl_X10, by decide, x_in (i := 849) (by decide +kernel) rfl, rfl, rfl⟩
theorem fl_X10_31 : xFL RX10 31 10 8 true (.array .boolean) := ⟨RX10, TX10, 51, cl_X10, by decide, x_in (i := 850) (by decide +kernel) rfl, rfl, rfl⟩
theorem fl_X10_35 : xFL RX10 35 10 9 true (.array .int) := ⟨RX10, TX10, 51, cl_X10, by decide, x_in (i := 851) (by decide +kernel) rfl, rfl, rfl⟩
theorem fl_X10_38 : xFL RX10 38 10 11 true (.array .int) := ⟨RX10, TX10, 51, cl_X10, by decide, x_in (i := 853) (by decide +kernel) rfl, rfl, rfl⟩
theorem fl_X10_41 : xFL RX10 41 10 12 true (.array .int) := ⟨RX10, TX10, 51, cl_X10, by decide, x_in (i := 854) (by decide +kernel) rfl, rfl, rfl⟩
theorem fl_X10_44 : xFL RX10 44 10 13 true (.array .boolean) := ⟨RX10, TX10, 51, cl_X10, by decide, x_in (i := 855) (by decide +kernel) rfl, rfl, rfl⟩
theorem fl_X10_47 : xFL RX10 47 10 15 true (.array .int) := ⟨RX10, TX10, 51, cl_X10, by decide, x_in (i := 857) (by decide +kernel) rfl, rfl, rfl⟩
theorem fl_X10_50 : xFL RX10 50 10 16 true (.array .int) := ⟨RX10, TX10, 51, cl_X10, by decide, x_in (i := 858) (by decide +kernel) rfl, rfl, rfl⟩
theorem fl_X10_53 : xFL RX10 53 10 17 true (.array .int) := ⟨RX10, TX10, 51, cl_X10, by decide, x_in (i := 859) (by decide +kernel) rfl, rfl, rfl⟩
theorem fl_X10_56 : xFL RX10 56 10 21 true (.array .int) := ⟨RX10, TX10, 51, cl_X10, by decide, x_in (i := 863) (by decide +kernel) rfl, rfl, rfl⟩
theorem fl_X10_59 : xFL RX10 59 10 23 true (.array .int) := ⟨RX10, TX10, 51, cl_X10, by decide, x_in (i := 865) (by decide +kernel) rfl, rfl, rfl⟩
theorem fl_X10_62 : xFL RX10 62 10 24 true (.array .int) := ⟨RX10, TX10, 51, cl_X10, by decide, x_in (i := 866) (by decide +kernel) rfl, rfl, rfl⟩
theorem fl_X10_65 : xFL RX10 65 10 25 true (.array .int) := ⟨RX10, TX10, 51, cl_X10, by decide, x_in (i := 867) (by decide +kernel) rfl, rfl, rfl⟩
theorem fl_X10_68 : xFL RX10 68 10 28 true (.array .int) := ⟨RX10, TX10, 51, cl_X10, by decide, x_in (i := 870) (by decide +kernel) rfl, rfl, rfl⟩
theorem fl_X10_71 : xFL RX10 71 10 29 true (.array .int) := ⟨RX10, TX10, 51, cl_X10, by decide, x_in (i := 871) (by decide +kernel) rfl, rfl, rfl⟩
theorem fl_X10_74 : xFL RX10 74 10 30 true (.array .int) := ⟨RX10, TX10, 51, cl_X10, by decide, x_in (i := 872) (by decide +kernel) rfl, rfl, rfl⟩
theorem fl_X10_77 : xFL RX10 77 10 31 true (.array .int) := ⟨RX10, TX10, 51, cl_X10, by decide, x_in (i := 873) (by decide +kernel) rfl, rfl, rfl⟩
theorem fl_X10_80 : xFL RX10 80 10 32 true (.array .int) := ⟨RX10, TX10, 51, cl_X10, by decide, x_in (i := 874) (by decide +kernel) rfl, rfl, rfl⟩
theorem fl_X10_83 : xFL RX10 83 10 33 true (.array .int) := ⟨RX10, TX10, 51, cl_X10, by decide, x_in (i := 875) (by decide +kernel) rfl, rfl, rfl⟩
theorem fl_X10_86 : xFL RX10 86 10 34 true (.array .int) := ⟨RX10, TX10, 51, cl_X10, by decide, x_in (i := 876) (by decide +kernel) rfl, rfl, rfl⟩
theorem fl_X10_89 : xFL RX10 89 10 37 true (.array .int) := ⟨RX10, TX10, 51, cl_X10, by decide, x_in (i := 879) (by decide +kernel) rfl, rfl, rfl⟩
theorem kc_X10_92 : Cond.constant RX10 92 (55688 : Int32) ∈ xT := x_in (i := 837) (by decide +kernel) rfl
theorem fl_X10_93 : xFL RX10 93 10 38 true (.array .long) := ⟨RX10, TX10, 51, cl_X10, by decide, x_in (i := 880) (by decide +kernel) rfl, rfl, rfl⟩
theorem fl_X10_97 : xFL RX10 97 10 39 true (.array .int) := ⟨RX10, TX10, 51, cl_X10, by decide, x_in (i := 881) (by decide +kernel) rfl, rfl, rfl⟩
theorem fl_X10_100 : xFL RX10 100 10 40 true (.array .int) := ⟨RX10, TX10, 51, cl_X10, by decide, x_in (i := 882) (by decide +kernel) rfl, rfl, rfl⟩
theorem fl_X10_103 : xFL RX10 103 10 41 true (.array .int) := ⟨RX10, TX10, 51, cl_X10, by decide, x_in (i := 883) (by decide +kernel) rfl, rfl, rfl⟩
theorem fl_X10_106 : xFL RX10 106 10 43 true (.array .long) := ⟨RX10, TX10, 51, cl_X10, by decide, x_in (i := 885) (by decide +kernel) rfl, rfl, rfl⟩
theorem fl_X10_109 : xFL RX10 109 10 44 true (.array .int) := ⟨RX10, TX10, 51, cl_X10, by decide, x_in (i := 886) (by decide +kernel) rfl, rfl, rfl⟩
theorem fl_X10_112 : xFL RX10 112 10 45 true (.array .boolean) := ⟨RX10, TX10, 51, cl_X10, by decide, x_in (i := 887) (by decide +kernel) rfl, rfl, rfl⟩
theorem fl_X10_115 : xFL RX10 115 10 46 true (.array .boolean) := ⟨RX10, TX10, 51, cl_X10, by decide, x_in (i := 888) (by decide +kernel) rfl, rfl, rfl⟩
theorem lk_X10_118 : Cond.methodLink RX10 118 yX10_boards ∈ xT := x_in (i := 838) (by decide +kernel) rfl
theorem kc_X10_122 : Cond.constantLong RX10 122 (7 : Int64) ∈ xT := x_in (i := 1004) (by decide +kernel) rfl
theorem lk_X10_124 : Cond.methodLink RX10 124 yX10_in ∈ xT := x_in (i := 1005) (by decide +kernel) rfl
theorem fl_X10_128 : xFL RX10 128 10 0 false .int := ⟨RX10, TX10, 51, cl_X10, by decide, x_in (i := 842) (by decide +kernel) rfl, rfl, rfl⟩
theorem lk_X10_132 : Cond.methodLink RX10 132 yX10_forget ∈ xT := x_in (i := 1014) (by decide +kernel) rfl
theorem lk_X10_135 : Cond.methodLink RX10 135 yX10_isName ∈ xT := x_in (i := 1001) (by decide +kernel) rfl
theorem kc_X10_139 : Cond.constantLong RX10 139 (25 : Int64) ∈ xT := x_in (i := 1008) (by decide +kernel) rfl
theorem kc_X10_141 : Cond.constantLong RX10 141 (99 : Int64) ∈ xT := x_in (i := 1009) (by decide +kernel) rfl
theorem lk_X10_143 : Cond.methodLink RX10 143 yX10_add ∈ xT := x_in (i := 1010) (by decide +kernel) rfl
theorem kc_X10_147 : Cond.constantLong RX10 147 (9 : Int64) ∈ xT := x_in (i := 1022) (by decide +kernel) rfl
theorem kc_X10_149 : Cond.constantLong RX10 149 (20 : Int64) ∈ xT := x_in (i := 1023) (by decide +kernel) rfl
theorem fl_X10_151 : xFL RX10 151 10 10 false .int := ⟨RX10, TX10, 51, cl_X10, by decide, x_in (i := 852) (by decide +kernel) rfl, rfl, rfl⟩
theorem lk_X10_154 : Cond.methodLink RX10 154 yX10_addPart ∈ xT := x_in (i := 1028) (by decide +kernel) rfl
theorem lk_X10_158 : Cond.methodLink RX10 158 yX10_isRule ∈ xT := x_in (i := 1040) (by decide +kernel) rfl
theorem lk_X10_161 : Cond.methodLink RX10 161 yX10_isLength ∈ xT := x_in (i := 1044) (by decide +kernel) rfl
theorem fl_X10_164 : xFL RX10 164 10 18 false .int := ⟨RX10, TX10, 51, cl_X10, by decide, x_in (i := 860) (by decide +kernel) rfl, rfl, rfl⟩
theorem fl_X10_167 : xFL RX10 167 10 19 false .int := ⟨RX10, TX10, 51, cl_X10, by decide, x_in (i := 861) (by decide +kernel) rfl, rfl, rfl⟩
theorem fl_X10_170 : xFL RX10 170 10 20 false .int := ⟨RX10, TX10, 51, cl_X10, by decide, x_in (i := 862) (by decide +kernel) rfl, rfl, rfl⟩
theorem fl_X10_173 : xFL RX10 173 10 14 false .int := ⟨RX10, TX10, 51, cl_X10, by decide, x_in (i := 856) (by decide +kernel) rfl, rfl, rfl⟩
theorem lk_X10_176 : Cond.methodLink RX10 176 yX10_isAlongY ∈ xT := x_in (i := 1063) (by decide +kernel) rfl
theorem lk_X10_179 : Cond.methodLink RX10 179 yX10_laySplit ∈ xT := x_in (i := 1067) (by decide +kernel) rfl
theorem lk_X10_183 : Cond.methodLink RX10 183 yX10_layRepeat ∈ xT := x_in (i := 1071) (by decide +kernel) rfl
theorem lk_X10_186 : Cond.methodLink RX10 186 yX10_lay ∈ xT := x_in (i := 1059) (by decide +kernel) rfl
theorem fl_X10_190 : xFL RX10 190 10 27 false .int := ⟨RX10, TX10, 51, cl_X10, by decide, x_in (i := 869) (by decide +kernel) rfl, rfl, rfl⟩
theorem kc_X10_193 : Cond.constant RX10 193 (1103515245 : Int32) ∈ xT := x_in (i := 1091) (by decide +kernel) rfl
theorem lk_X10_194 : Cond.methodLink RX10 194 yX10_put ∈ xT := x_in (i := 1083) (by decide +kernel) rfl
theorem lk_X10_198 : Cond.methodLink RX10 198 yX10_picked ∈ xT := x_in (i := 1087) (by decide +kernel) rfl
theorem fl_X10_201 : xFL RX10 201 10 26 false .int := ⟨RX10, TX10, 51, cl_X10, by decide, x_in (i := 868) (by decide +kernel) rfl, rfl, rfl⟩
theorem lk_X10_204 : Cond.methodLink RX10 204 yX10_fillDraft ∈ xT := x_in (i := 1092) (by decide +kernel) rfl
theorem lk_X10_207 : Cond.methodLink RX10 207 yX10_putPieces ∈ xT := x_in (i := 1096) (by decide +kernel) rfl
theorem fl_X10_211 : xFL RX10 211 10 22 false .int := ⟨RX10, TX10, 51, cl_X10, by decide, x_in (i := 864) (by decide +kernel) rfl, rfl, rfl⟩
theorem fl_X10_214 : xFL RX10 214 10 50 false .boolean := ⟨RX10, TX10, 51, cl_X10, by decide, x_in (i := 892) (by decide +kernel) rfl, rfl, rfl⟩
theorem fl_X10_218 : xFL RX10 218 10 35 false .int := ⟨RX10, TX10, 51, cl_X10, by decide, x_in (i := 877) (by decide +kernel) rfl, rfl, rfl⟩
theorem fl_X10_221 : xFL RX10 221 10 36 false .int := ⟨RX10, TX10, 51, cl_X10, by decide, x_in (i := 878) (by decide +kernel) rfl, rfl, rfl⟩
theorem kc_X10_224 : Cond.constantLong RX10 224 (80 : Int64) ∈ xT := x_in (i := 1132) (by decide +kernel) rfl
theorem lk_X10_226 : Cond.methodLink RX10 226 yX10_isPlace ∈ xT := x_in (i := 1128) (by decide +kernel) rfl
theorem fl_X10_229 : xFL RX10 229 10 42 false .boolean := ⟨RX10, TX10, 51, cl_X10, by decide, x_in (i := 884) (by decide +kernel) rfl, rfl, rfl⟩
theorem kc_X10_232 : Cond.constant RX10 232 (52488 : Int32) ∈ xT := x_in (i := 1151) (by decide +kernel) rfl
theorem kc_X10_233 : Cond.constantLong RX10 233 (-10 : Int64) ∈ xT := x_in (i := 1163) (by decide +kernel) rfl
theorem kc_X10_235 : Cond.constantLong RX10 235 (1000000000000000000 : Int64) ∈ xT := x_in (i := 1164) (by decide +kernel) rfl
theorem lk_X10_237 : Cond.methodLink RX10 237 yX10_isAll ∈ xT := x_in (i := 1156) (by decide +kernel) rfl
theorem lk_X10_241 : Cond.methodLink RX10 241 yX10_plus ∈ xT := x_in (i := 1160) (by decide +kernel) rfl
theorem lk_X10_245 : Cond.methodLink RX10 245 yX10_place ∈ xT := x_in (i := 1147) (by decide +kernel) rfl
theorem lk_X10_248 : Cond.methodLink RX10 248 yX10_mult ∈ xT := x_in (i := 1165) (by decide +kernel) rfl
theorem lk_X10_251 : Cond.methodLink RX10 251 yX10_findMade ∈ xT := x_in (i := 1172) (by decide +kernel) rfl
theorem lk_X10_254 : Cond.methodLink RX10 254 yX10_isEndless ∈ xT := x_in (i := 1176) (by decide +kernel) rfl
theorem fl_X10_257 : xFL RX10 257 10 47 false .int := ⟨RX10, TX10, 51, cl_X10, by decide, x_in (i := 889) (by decide +kernel) rfl, rfl, rfl⟩
theorem fl_X10_260 : xFL RX10 260 10 48 false .int := ⟨RX10, TX10, 51, cl_X10, by decide, x_in (i := 890) (by decide +kernel) rfl, rfl, rfl⟩
theorem lk_X10_263 : Cond.methodLink RX10 263 yX10_tries ∈ xT := x_in (i := 1184) (by decide +kernel) rfl
theorem lk_X10_266 : Cond.methodLink RX10 266 yX10_count ∈ xT := x_in (i := 1152) (by decide +kernel) rfl
theorem lk_X10_269 : Cond.methodLink RX10 269 yX10_sum ∈ xT := x_in (i := 1168) (by decide +kernel) rfl
theorem lk_X10_273 : Cond.methodLink RX10 273 yX10_improve ∈ xT := x_in (i := 1180) (by decide +kernel) rfl
theorem fl_X10_276 : xFL RX10 276 10 49 false .boolean := ⟨RX10, TX10, 51, cl_X10, by decide, x_in (i := 891) (by decide +kernel) rfl, rfl, rfl⟩
theorem lk_X10_279 : Cond.methodLink RX10 279 yX10_work ∈ xT := x_in (i := 1143) (by decide +kernel) rfl
theorem kc_X10_283 : Cond.constantLong RX10 283 (-1 : Int64) ∈ xT := x_in (i := 1137) (by decide +kernel) rfl
theorem kc_X10_285 : Cond.constantLong RX10 285 (-2 : Int64) ∈ xT := x_in (i := 1138) (by decide +kernel) rfl
theorem lk_X10_287 : Cond.methodLink RX10 287 yX10_workScopes ∈ xT := x_in (i := 1139) (by decide +kernel) rfl
theorem lk_X10_290 : Cond.methodLink RX10 290 yX10_workBoard ∈ xT := x_in (i := 1196) (by decide +kernel) rfl
theorem lk_J7_13 : Cond.methodLink RJ7 13 yJ7_rangeCheck_23922 ∈ xT := x_in (i := 607) (by decide +kernel) rfl
theorem nl_L_7 : xNL RL 7 9 := ⟨RX9, TX9, 9, cl_X9, x_in (i := 60) (by decide +kernel) rfl, x_in (i := 61) (by decide +kernel) rfl, x_in (i := 46) (by decide +kernel) rfl, by decide +kernel⟩
theorem lk_L_9 : Cond.methodLink RL 9 yX9_init ∈ xT := x_in (i := 62) (by decide +kernel) rfl
theorem nl_L_10 : xNL RL 10 10 := ⟨RX10, TX10, 51, cl_X10, x_in (i := 831) (by decide +kernel) rfl, x_in (i := 832) (by decide +kernel) rfl, x_in (i := 56) (by decide +kernel) rfl, by decide +kernel⟩
theorem lk_L_12 : Cond.methodLink RL 12 yX10_init ∈ xT := x_in (i := 833) (by decide +kernel) rfl
theorem lk_L_13 : Cond.methodLink RL 13 yX9_fill ∈ xT := x_in (i := 429) (by decide +kernel) rfl
theorem lk_L_17 : Cond.methodLink RL 17 yX10_fill ∈ xT := x_in (i := 997) (by decide +kernel) rfl
theorem lk_L_18 : Cond.methodLink RL 18 yX9_part ∈ xT := x_in (i := 467) (by decide +kernel) rfl
theorem lk_L_22 : Cond.methodLink RL 22 yX10_part ∈ xT := x_in (i := 1018) (by decide +kernel) rfl
theorem lk_L_23 : Cond.methodLink RL 23 yX9_split ∈ xT := x_in (i := 475) (by decide +kernel) rfl
theorem lk_L_27 : Cond.methodLink RL 27 yX10_split ∈ xT := x_in (i := 1024) (by decide +kernel) rfl
theorem lk_L_28 : Cond.methodLink RL 28 yX9_repeat ∈ xT := x_in (i := 490) (by decide +kernel) rfl
theorem lk_L_32 : Cond.methodLink RL 32 yX10_repeat ∈ xT := x_in (i := 1032) (by decide +kernel) rfl
theorem lk_L_33 : Cond.methodLink RL 33 yX9_only ∈ xT := x_in (i := 499) (by decide +kernel) rfl
theorem lk_L_37 : Cond.methodLink RL 37 yX10_only ∈ xT := x_in (i := 1036) (by decide +kernel) rfl
theorem lk_L_38 : Cond.methodLink RL 38 yX9_clear ∈ xT := x_in (i := 508) (by decide +kernel) rfl
theorem lk_L_42 : Cond.methodLink RL 42 yX10_clear ∈ xT := x_in (i := 1047) (by decide +kernel) rfl
theorem lk_L_43 : Cond.methodLink RL 43 yX9_rule ∈ xT := x_in (i := 524) (by decide +kernel) rfl
theorem lk_L_47 : Cond.methodLink RL 47 yX10_rule ∈ xT := x_in (i := 1051) (by decide +kernel) rfl
theorem lk_L_48 : Cond.methodLink RL 48 yX9_holds ∈ xT := x_in (i := 528) (by decide +kernel) rfl
theorem lk_L_51 : Cond.methodLink RL 51 yX10_holds ∈ xT := x_in (i := 1055) (by decide +kernel) rfl
theorem lk_L_52 : Cond.methodLink RL 52 yX9_piece ∈ xT := x_in (i := 564) (by decide +kernel) rfl
theorem lk_L_56 : Cond.methodLink RL 56 yX10_piece ∈ xT := x_in (i := 1075) (by decide +kernel) rfl
theorem lk_L_57 : Cond.methodLink RL 57 yX9_draw ∈ xT := x_in (i := 568) (by decide +kernel) rfl
theorem lk_L_60 : Cond.methodLink RL 60 yX10_draw ∈ xT := x_in (i := 1079) (by decide +kernel) rfl
theorem lk_L_61 : Cond.methodLink RL 61 yX9_at ∈ xT := x_in (i := 615) (by decide +kernel) rfl
theorem lk_L_64 : Cond.methodLink RL 64 yX10_at ∈ xT := x_in (i := 1100) (by decide +kernel) rfl
theorem lk_L_65 : Cond.methodLink RL 65 yX9_step ∈ xT := x_in (i := 623) (by decide +kernel) rfl
theorem lk_L_69 : Cond.methodLink RL 69 yX10_step ∈ xT := x_in (i := 1104) (by decide +kernel) rfl
theorem lk_L_70 : Cond.methodLink RL 70 yX9_drawn ∈ xT := x_in (i := 627) (by decide +kernel) rfl
theorem lk_L_73 : Cond.methodLink RL 73 yX10_drawn ∈ xT := x_in (i := 1108) (by decide +kernel) rfl
theorem lk_L_74 : Cond.methodLink RL 74 yX9_fault ∈ xT := x_in (i := 631) (by decide +kernel) rfl
theorem lk_L_77 : Cond.methodLink RL 77 yX10_fault ∈ xT := x_in (i := 1112) (by decide +kernel) rfl
theorem lk_L_78 : Cond.methodLink RL 78 yX9_take ∈ xT := x_in (i := 635) (by decide +kernel) rfl
theorem lk_L_81 : Cond.methodLink RL 81 yX10_take ∈ xT := x_in (i := 1116) (by decide +kernel) rfl
theorem lk_L_82 : Cond.methodLink RL 82 yX9_ways ∈ xT := x_in (i := 654) (by decide +kernel) rfl
theorem lk_L_86 : Cond.methodLink RL 86 yX10_ways ∈ xT := x_in (i := 1133) (by decide +kernel) rfl
theorem lk_L_87 : Cond.methodLink RL 87 yX9_least ∈ xT := x_in (i := 778) (by decide +kernel) rfl
theorem lk_L_90 : Cond.methodLink RL 90 yX10_least ∈ xT := x_in (i := 1188) (by decide +kernel) rfl
theorem lk_L_91 : Cond.methodLink RL 91 yX9_board ∈ xT := x_in (i := 787) (by decide +kernel) rfl
theorem lk_L_94 : Cond.methodLink RL 94 yX10_board ∈ xT := x_in (i := 1120) (by decide +kernel) rfl
theorem lk_L_95 : Cond.methodLink RL 95 yX9_put ∈ xT := x_in (i := 791) (by decide +kernel) rfl
theorem lk_L_98 : Cond.methodLink RL 98 yX10_put_ ∈ xT := x_in (i := 1124) (by decide +kernel) rfl
theorem lk_L_99 : Cond.methodLink RL 99 yX9_parses ∈ xT := x_in (i := 796) (by decide +kernel) rfl
theorem lk_L_103 : Cond.methodLink RL 103 yX10_parses ∈ xT := x_in (i := 1192) (by decide +kernel) rfl
theorem lk_L_104 : Cond.methodLink RL 104 yX9_best ∈ xT := x_in (i := 804) (by decide +kernel) rfl
theorem lk_L_107 : Cond.methodLink RL 107 yX10_best ∈ xT := x_in (i := 1200) (by decide +kernel) rfl
theorem lk_L_108 : Cond.methodLink RL 108 yX9_bestStep ∈ xT := x_in (i := 808) (by decide +kernel) rfl
theorem lk_L_111 : Cond.methodLink RL 111 yX10_bestStep ∈ xT := x_in (i := 1204) (by decide +kernel) rfl
theorem lk_L_112 : Cond.methodLink RL 112 yX9_stands ∈ xT := x_in (i := 823) (by decide +kernel) rfl
theorem lk_L_116 : Cond.methodLink RL 116 yX10_stands ∈ xT := x_in (i := 1208) (by decide +kernel) rfl
theorem lk_L_117 : Cond.methodLink RL 117 yX9_count ∈ xT := x_in (i := 827) (by decide +kernel) rfl
theorem lk_L_120 : Cond.methodLink RL 120 yX10_count_ ∈ xT := x_in (i := 1212) (by decide +kernel) rfl
theorem ac_int : Cond.arrayClass .int ∈ xT := x_in (i := 108) (by decide +kernel) rfl
theorem ac_long : Cond.arrayClass .long ∈ xT := x_in (i := 275) (by decide +kernel) rfl
theorem ac_byte : Cond.arrayClass .byte ∈ xT := x_in (i := 226) (by decide +kernel) rfl
theorem ac_boolean : Cond.arrayClass .boolean ∈ xT := x_in (i := 996) (by decide +kernel) rfl
theorem w_oi : Cond.instanceMethod objectInit ∈ xT := x_in (i := 66) (by decide +kernel) rfl
theorem w_oc : Cond.code objectInit ⟨#[0xb1]⟩ 1 none ∈ xT := x_in (i := 67) (by decide +kernel) rfl
theorem w_mc : Cond.code Lib.MathLoose.min_long.x Lib.MathLoose.min_long.code 4 (some .long) ∈ xT := x_in (i := 719) (by decide +kernel) rfl
theorem w_ms : Cond.static Lib.MathLoose.min_long.x ∈ xT := x_in (i := 718) (by decide +kernel) rfl
theorem w_mi : Cond.initialized "java/lang/Math" ∈ xT := x_in (i := 58) (by decide +kernel) rfl
theorem w_yn : Cond.native arraycopyName ∈ xT := x_in (i := 748) (by decide +kernel) rfl
theorem w_ys : Cond.static arraycopyName ∈ xT := x_in (i := 747) (by decide +kernel) rfl
theorem w_yi : Cond.initialized "java/lang/System" ∈ xT := x_in (i := 59) (by decide +kernel) rfl
end
section
/-! THE LAYOUT behind the constructors (301 cells), and what is where -/
def SH : List (Nat × Nat) := [(6, 9), (6, 3), (4, 40), (6, 6), (0, 6), (0, 6), (0, 6), (6, 7), (6, 6), (0, 6), (0, 6), (0, 6), (6, 7), (6, 6), (0, 6), (0, 6), (0, 6), (6, 7), (6, 6), (0, 6), (0, 6), (0, 6), (6, 7), (6, 6), (0, 6), (0, 6), (0, 6), (6, 7), (6, 6), (0, 6), (0, 6), (0, 6), (6, 7), (6, 6), (0, 6), (0, 6), (0, 6), (6, 7), (6, 6), (0, 6), (0, 6), (0, 6), (6, 7), (6, 6), (0, 6), (0, 6), (0, 6), (6, 7), (6, 6), (0, 6), (0, 6), (0, 6), (6, 7), (6, 6), (0, 6), (0, 6), (0, 6), (6, 7), (6, 6), (0, 6), (0, 6), (0, 6), (6, 7), (6, 6), (0, 6), (0, 6), (0, 6), (6, 7), (6, 6), (0, 6), (0, 6), (0, 6), (6, 7), (6, 6), (0, 6), (0, 6), (0, 6), (6, 7), (6, 6), (0, 6), (0, 6), (0, 6), (6, 7), (6, 6), (0, 6), (0, 6), (0, 6), (6, 7), (6, 6), (0, 6), (0, 6), (0, 6), (6, 7), (6, 6), (0, 6), (0, 6), (0, 6), (6, 7), (6, 6), (0, 6), (0, 6), (0, 6), (6, 7), (6, 6), (0, 6), (0, 6), (0, 6), (6, 7), (6, 6), (0, 6), (0, 6), (0, 6), (6, 7), (6, 6), (0, 6), (0, 6), (0, 6), (6, 7), (6, 6), (0, 6), (0, 6), (0, 6), (6, 7), (6, 6), (0, 6), (0, 6), (0, 6), (6, 7), (6, 6), (0, 6), (0, 6), (0, 6), (6, 7), (6, 6), (0, 6), (0, 6), (0, 6), (6, 7), (6, 6), (0, 6), (0, 6), (0, 6), (6, 7), (6, 6), (0, 6), (0, 6), (0, 6), (6, 7), (6, 6), (0, 6), (0, 6), (0, 6), (6, 7), (6, 6), (0, 6), (0, 6), (0, 6), (6, 7), (6, 6), (0, 6), (0, 6), (0, 6), (6, 7), (6, 6), (0, 6), (0, 6), (0, 6), (6, 7), (6, 6), (0, 6), (0, 6), (0, 6), (6, 7), (6, 6), (0, 6), (0, 6), (0, 6), (6, 7), (6, 6), (0, 6), (0, 6), (0, 6), (6, 7), (6, 6), (0, 6), (0, 6), (0, 6), (6, 7), (6, 6), (0, 6), (0, 6), (0, 6), (6, 7), (6, 6), (0, 6), (0, 6), (0, 6), (6, 7), (6, 6), (0, 6), (0, 6), (0, 6), (6, 7), (6, 6), (0, 6), (0, 6), (0, 6), (6, 5), (0, 20), (0, 20), (0, 20), (6, 0), (2, 81), (6, 1), (6, 4), (1, 8), (1, 8), (1, 8), (1, 8), (0, 8), (0, 40), (0, 40), (0, 40), (1, 40), (0, 20), (0, 20), (0, 400), (0, 400), (1, 3200), (1, 3200), (2, 3200), (6, 1), (6, 4), (1, 8), (1, 8), (1, 8), (1, 8), (0, 8), (0, 40), (0, 40), (0, 40), (1, 40), (0, 45), (0, 45), (0, 2025), (0, 2025), (1, 16200), (1, 16200), (2, 16200), (6, 8), (5, 7), (0, 400), (0, 400), (0, 400), (0, 400), (0, 400), (0, 400), (0, 400), (0, 40), (6, 2), (2, 400), (2, 8000), (6, 2), (2, 400), (2, 8000), (6, 10), (0, 40), (0, 40), (0, 40), (0, 40), (0, 40), (0, 240), (0, 240), (3, 240), (0, 160), (0, 6), (0, 6), (3, 6), (0, 20), (0, 20), (0, 20), (0, 8000), (0, 400), (0, 400), (0, 8000), (0, 600), (0, 600), (0, 600), (0, 600), (0, 600), (0, 600), (0, 600), (0, 81), (1, 55688), (0, 55688), (0, 55688), (0, 55688), (1, 8), (0, 64), (3, 8), (3, 64)]
def NUT : List (Nat × Nat × Nat) := [(0, 0, 1), (0, 1, 207), (0, 2, 211), (0, 3, 213), (0, 4, 231), (0, 5, 249), (1, 0, 2), (1, 1, 3), (3, 0, 4), (3, 1, 5), (3, 2, 6), (207, 0, 208), (207, 1, 209), (207, 2, 210), (211, 0, 212), (213, 0, 1), (213, 1, 207), (213, 2, 211), (213, 5, 224), (213, 6, 225), (213, 7, 226), (213, 8, 227), (213, 9, 228), (213, 10, 229), (213, 11, 230), (213, 12, 214), (214, 0, 215), (214, 1, 216), (214, 2, 217), (214, 3, 218), (214, 4, 219), (214, 5, 220), (214, 6, 221), (214, 7, 222), (214, 8, 223), (231, 0, 1), (231, 1, 207), (231, 2, 211), (231, 5, 242), (231, 6, 243), (231, 7, 244), (231, 8, 245), (231, 9, 246), (231, 10, 247), (231, 11, 248), (231, 12, 232), (232, 0, 233), (232, 1, 234), (232, 2, 235), (232, 3, 236), (232, 4, 237), (232, 5, 238), (232, 6, 239), (232, 7, 240), (232, 8, 241), (249, 0, 1), (249, 1, 207), (249, 2, 250), (249, 3, 258), (259, 0, 260), (259, 1, 261), (262, 0, 263), (262, 1, 264), (265, 1, 266), (265, 2, 267), (265, 3, 268), (265, 4, 269), (265, 5, 270), (265, 6, 271), (265, 7, 272), (265, 8, 273), (265, 9, 274), (265, 11, 275), (265, 12, 276), (265, 13, 277), (265, 15, 278), (265, 16, 279), (265, 17, 280), (265, 21, 281), (265, 23, 282), (265, 24, 283), (265, 25, 284), (265, 28, 285), (265, 29, 286), (265, 30, 287), (265, 31, 288), (265, 32, 289), (265, 33, 290), (265, 34, 291), (265, 37, 292), (265, 38, 293), (265, 39, 294), (265, 40, 295), (265, 41, 296), (265, 43, 297), (265, 44, 298), (265, 45, 299), (265, 46, 300), (250, 0, 251), (250, 1, 252), (250, 2, 253), (250, 3, 254), (250, 4, 255), (250, 5, 256), (250, 6, 257)]
def WF (sh : List (Nat × Nat)) (ν : Nat → Nat → Option Nat) (f s : Nat) : Prop := sh = SH ∧ (∀ e ∈ NUT, ν e.1 e.2.1 = some e.2.2) ∧ (∀ r, r < 40 → ν 2 r = some (7 + 5 * r) ∧ ν (7 + 5 * r) 0 = some (7 + 5 * r + 1) ∧ ν (7 + 5 * r + 1) 0 = some (7 + 5 * r + 1 + 1) ∧ ν (7 + 5 * r + 1) 1 = some (7 + 5 * r + 1 + 2) ∧ ν (7 + 5 * r + 1) 2 = some (7 + 5 * r + 1 + 3)) ∧ ν 0 6 = some f ∧ ν 0 7 = some s ∧ ((f = 259 ∧ s = 262) ∨ (f = 262 ∧ s = 259))
def isRule (a : Nat) : Prop := ∃ r, r < 40 ∧ a = 7 + 5 * r
def isParts (a : Nat) : Prop := a = 3 ∨ ∃ r, r < 40 ∧ a = 7 + 5 * r + 1
def isChart (a : Nat) : Prop := a = 213 ∨ a = 231
def isKnot (a : Nat) : Prop := a = 214 ∨ a = 232
def isFront (a : Nat) : Prop := a = 259 ∨ a = 262
def nsp (a : Nat) : Nat := if a = 213 then 20 else 45
theorem SH_rule : ∀ r, r < 40 → SH[7 + 5 * r]? = some (6, 7) ∧ SH[7 + 5 * r + 1]? = some (6, 6) ∧ SH[7 + 5 * r + 1 + 1]? = some (0, 6) ∧ SH[7 + 5 * r + 1 + 2]? = some (0, 6) ∧ SH[7 + 5 * r + 1 + 3]? = some (0, 6) := by decide +kernel
section WFS
variable {sh : List (Nat × Nat)} {ν : Nat → Nat → Option Nat} {f s a : Nat}
theorem wf_f (hW : WF sh ν f s) : isFront f := by
  rcases hW.2.2.2.2.2 with ⟨h, -⟩ | ⟨h, -⟩
  · exact Or.inl h
  · exact Or.inr h
theorem wf_s (hW : WF sh ν f s) : isFront s := by
  rcases hW.2.2.2.2.2 with ⟨-, h⟩ | ⟨-, h⟩
  · exact Or.inr h
  · exact Or.inl h
theorem wf_nu (hW : WF sh ν f s) (i : Nat) {e : Nat × Nat × Nat} (h : NUT[i]? = some e) : ν e.1 e.2.1 = some e.2.2 := hW.2.1 e (List.mem_of_getElem? h)
theorem fe_rules (hW : WF sh ν f s) {i : Int} (h : 0 ≤ i ∧ i < (40 : Nat)) : ν 2 i.toNat = some (7 + 5 * i.toNat) := (hW.2.2.1 i.toNat (by omega)).1
theorem mk_rules {i : Int} (h : 0 ≤ i ∧ i < (40 : Nat)) : isRule (7 + 5 * i.toNat) := ⟨i.toNat, by omega, rfl⟩
theorem mk_rule_parts (h : isRule a) : isParts (a + 1) := by
  obtain ⟨r, hr, rfl⟩ := h
  exact Or.inr ⟨r, hr, rfl⟩
theorem mk_coll : isParts 3 := Or.inl rfl
theorem mk_free : isChart 213 := Or.inl rfl
theorem mk_bound : isChart 231 := Or.inr rfl
theorem mk_knot (h : isChart a) : isKnot (a + 1) := by
  rcases h with rfl | rfl
  · exact Or.inl rfl
  · exact Or.inr rfl
theorem fs_X0 (hW : WF sh ν f s) : sh[211]? = some (6, 0) := by rw [hW.1]; rfl
theorem fp_X0_0 (hW : WF sh ν f s) : ν 211 0 = some 212 := wf_nu hW 14 rfl
theorem fa_X0_0 (hW : WF sh ν f s) : sh[212]? = some (2, 81) := by rw [hW.1]; rfl
theorem fs_X1 (hW : WF sh ν f s) (hA : isChart a) : sh[a]? = some (6, 1) := by
  rw [hW.1]
  rcases hA with rfl | rfl <;> rfl
theorem fp_X1_0 (hW : WF sh ν f s) (hA : isChart a) : ν a 0 = some 1 := by
  rcases hA with rfl | rfl
  · exact wf_nu hW 15 rfl
  · exact wf_nu hW 35 rfl
theorem fp_X1_1 (hW : WF sh ν f s) (hA : isChart a) : ν a 1 = some 207 := by
  rcases hA with rfl | rfl
  · exact wf_nu hW 16 rfl
  · exact wf_nu hW 36 rfl
theorem fp_X1_2 (hW : WF sh ν f s) (hA : isChart a) : ν a 2 = some 211 := by
  rcases hA with rfl | rfl
  · exact wf_nu hW 17 rfl
  · exact wf_nu hW 37 rfl
theorem fp_X1_5 (hW : WF sh ν f s) (hA : isChart a) : ν a 5 = some (a + 11) := by
  rcases hA with rfl | rfl
  · exact wf_nu hW 18 rfl
  · exact wf_nu hW 38 rfl
theorem fa_X1_5 (hW : WF sh ν f s) (hA : isChart a) : sh[a + 11]? = some (0, nsp a) := by
  rw [hW.1]
  rcases hA with rfl | rfl <;> rfl
theorem fp_X1_6 (hW : WF sh ν f s) (hA : isChart a) : ν a 6 = some (a + 12) := by
  rcases hA with rfl | rfl
  · exact wf_nu hW 19 rfl
  · exact wf_nu hW 39 rfl
theorem fa_X1_6 (hW : WF sh ν f s) (hA : isChart a) : sh[a + 12]? = some (0, nsp a) := by
  rw [hW.1]
  rcases hA with rfl | rfl <;> rfl
theorem fp_X1_7 (hW : WF sh ν f s) (hA : isChart a) : ν a 7 = some (a + 13) := by
  rcases hA with rfl | rfl
  · exact wf_nu hW 20 rfl
  · exact wf_nu hW 40 rfl
theorem fa_X1_7 (hW : WF sh ν f s) (hA : isChart a) : sh[a + 13]? = some (0, nsp a * nsp a) := by
  rw [hW.1]
  rcases hA with rfl | rfl <;> rfl
theorem fp_X1_8 (hW : WF sh ν f s) (hA : isChart a) : ν a 8 = some (a + 14) := by
  rcases hA with rfl | rfl
  · exact wf_nu hW 21 rfl
  · exact wf_nu hW 41 rfl
theorem fa_X1_8 (hW : WF sh ν f s) (hA : isChart a) : sh[a + 14]? = some (0, nsp a * nsp a) := by
  rw [hW.1]
  rcases hA with rfl | rfl <;> rfl
theorem fp_X1_9 (hW : WF sh ν f s) (hA : isChart a) : ν a 9 = some (a + 15) := by
  rcases hA with rfl | rfl
  · exact wf_nu hW 22 rfl
  · exact wf_nu hW 42 rfl
theorem fa_X1_9 (hW : WF sh ν f s) (hA : isChart a) : sh[a + 15]? = some (1, nsp a * nsp a * 8) := by
  rw [hW.1]
  rcases hA with rfl | rfl <;> rfl
theorem fp_X1_10 (hW : WF sh ν f s) (hA : isChart a) : ν a 10 = some (a + 16) := by
  rcases hA with rfl | rfl
  · exact wf_nu hW 23 rfl
  · exact wf_nu hW 43 rfl
theorem fa_X1_10 (hW : WF sh ν f s) (hA : isChart a) : sh[a + 16]? = some (1, nsp a * nsp a * 8) := by
  rw [hW.1]
  rcases hA with rfl | rfl <;> rfl
theorem fp_X1_11 (hW : WF sh ν f s) (hA : isChart a) : ν a 11 = some (a + 17) := by
  rcases hA with rfl | rfl
  · exact wf_nu hW 24 rfl
  · exact wf_nu hW 44 rfl
theorem fa_X1_11 (hW : WF sh ν f s) (hA : isChart a) : sh[a + 17]? = some (2, nsp a * nsp a * 8) := by
  rw [hW.1]
  rcases hA with rfl | rfl <;> rfl
theorem fp_X1_12 (hW : WF sh ν f s) (hA : isChart a) : ν a 12 = some (a + 1) := by
  rcases hA with rfl | rfl
  · exact wf_nu hW 25 rfl
  · exact wf_nu hW 45 rfl
theorem fs_X2 (hW : WF sh ν f s) (hA : isFront a) : sh[a]? = some (6, 2) := by
  rw [hW.1]
  rcases hA with rfl | rfl <;> rfl
theorem fp_X2_0 (hW : WF sh ν f s) (hA : isFront a) : ν a 0 = some (a + 1) := by
  rcases hA with rfl | rfl
  · exact wf_nu hW 59 rfl
  · exact wf_nu hW 61 rfl
theorem fa_X2_0 (hW : WF sh ν f s) (hA : isFront a) : sh[a + 1]? = some (2, 400) := by
  rw [hW.1]
  rcases hA with rfl | rfl <;> rfl
theorem fp_X2_1 (hW : WF sh ν f s) (hA : isFront a) : ν a 1 = some (a + 2) := by
  rcases hA with rfl | rfl
  · exact wf_nu hW 60 rfl
  · exact wf_nu hW 62 rfl
theorem fa_X2_1 (hW : WF sh ν f s) (hA : isFront a) : sh[a + 2]? = some (2, 8000) := by
  rw [hW.1]
  rcases hA with rfl | rfl <;> rfl
theorem fs_X3 (hW : WF sh ν f s) : sh[1]? = some (6, 3) := by rw [hW.1]; rfl
theorem fp_X3_0 (hW : WF sh ν f s) : ν 1 0 = some 2 := wf_nu hW 6 rfl
theorem fa_X3_0 (hW : WF sh ν f s) : sh[2]? = some (4, 40) := by rw [hW.1]; rfl
theorem fp_X3_1 (hW : WF sh ν f s) : ν 1 1 = some 3 := wf_nu hW 7 rfl
theorem fs_X4 (hW : WF sh ν f s) (hA : isKnot a) : sh[a]? = some (6, 4) := by
  rw [hW.1]
  rcases hA with rfl | rfl <;> rfl
theorem fp_X4_0 (hW : WF sh ν f s) (hA : isKnot a) : ν a 0 = some (a + 1) := by
  rcases hA with rfl | rfl
  · exact wf_nu hW 26 rfl
  · exact wf_nu hW 46 rfl
theorem fa_X4_0 (hW : WF sh ν f s) (hA : isKnot a) : sh[a + 1]? = some (1, 8) := by
  rw [hW.1]
  rcases hA with rfl | rfl <;> rfl
theorem fp_X4_1 (hW : WF sh ν f s) (hA : isKnot a) : ν a 1 = some (a + 2) := by
  rcases hA with rfl | rfl
  · exact wf_nu hW 27 rfl
  · exact wf_nu hW 47 rfl
theorem fa_X4_1 (hW : WF sh ν f s) (hA : isKnot a) : sh[a + 2]? = some (1, 8) := by
  rw [hW.1]
  rcases hA with rfl | rfl <;> rfl
theorem fp_X4_2 (hW : WF sh ν f s) (hA : isKnot a) : ν a 2 = some (a + 3) := by
  rcases hA with rfl | rfl
  · exact wf_nu hW 28 rfl
  · exact wf_nu hW 48 rfl
theorem fa_X4_2 (hW : WF sh ν f s) (hA : isKnot a) : sh[a + 3]? = some (1, 8) := by
  rw [hW.1]
  rcases hA with rfl | rfl <;> rfl
theorem fp_X4_3 (hW : WF sh ν f s) (hA : isKnot a) : ν a 3 = some (a + 4) := by
  rcases hA with rfl | rfl
  · exact wf_nu hW 29 rfl
  · exact wf_nu hW 49 rfl
theorem fa_X4_3 (hW : WF sh ν f s) (hA : isKnot a) : sh[a + 4]? = some (1, 8) := by
  rw [hW.1]
  rcases hA with rfl | rfl <;> rfl
theorem fp_X4_4 (hW : WF sh ν f s) (hA : isKnot a) : ν a 4 = some (a + 5) := by
  rcases hA with rfl | rfl
  · exact wf_nu hW 30 rfl
  · exact wf_nu hW 50 rfl
theorem fa_X4_4 (hW : WF sh ν f s) (hA : isKnot a) : sh[a + 5]? = some (0, 8) := by
  rw [hW.1]
  rcases hA with rfl | rfl <;> rfl
theorem fp_X4_5 (hW : WF sh ν f s) (hA : isKnot a) : ν a 5 = some (a + 6) := by
  rcases hA with rfl | rfl
  · exact wf_nu hW 31 rfl
  · exact wf_nu hW 51 rfl
theorem fa_X4_5 (hW : WF sh ν f s) (hA : isKnot a) : sh[a + 6]? = some (0, 40) := by
  rw [hW.1]
  rcases hA with rfl | rfl <;> rfl
theorem fp_X4_6 (hW : WF sh ν f s) (hA : isKnot a) : ν a 6 = some (a + 7) := by
  rcases hA with rfl | rfl
  · exact wf_nu hW 32 rfl
  · exact wf_nu hW 52 rfl
theorem fa_X4_6 (hW : WF sh ν f s) (hA : isKnot a) : sh[a + 7]? = some (0, 40) := by
  rw [hW.1]
  rcases hA with rfl | rfl <;> rfl
theorem fp_X4_7 (hW : WF sh ν f s) (hA : isKnot a) : ν a 7 = some (a + 8) := by
  rcases hA with rfl | rfl
  · exact wf_nu hW 33 rfl
  · exact wf_nu hW 53 rfl
theorem fa_X4_7 (hW : WF sh ν f s) (hA : isKnot a) : sh[a + 8]? = some (0, 40) := by
  rw [hW.1]
  rcases hA with rfl | rfl <;> rfl
theorem fp_X4_8 (hW : WF sh ν f s) (hA : isKnot a) : ν a 8 = some (a + 9) := by
  rcases hA with rfl | rfl
  · exact wf_nu hW 34 rfl
  · exact wf_nu hW 54 rfl
theorem fa_X4_8 (hW : WF sh ν f s) (hA : isKnot a) : sh[a + 9]? = some (1, 40) := by
  rw [hW.1]
  rcases hA with rfl | rfl <;> rfl
theorem fs_X5 (hW : WF sh ν f s) : sh[207]? = some (6, 5) := by rw [hW.1]; rfl
theorem fp_X5_0 (hW : WF sh ν f s) : ν 207 0 = some 208 := wf_nu hW 11 rfl
theorem fa_X5_0 (hW : WF sh ν f s) : sh[208]? = some (0, 20) := by rw [hW.1]; rfl
theorem fp_X5_1 (hW : WF sh ν f s) : ν 207 1 = some 209 := wf_nu hW 12 rfl
theorem fa_X5_1 (hW : WF sh ν f s) : sh[209]? = some (0, 20) := by rw [hW.1]; rfl
theorem fp_X5_2 (hW : WF sh ν f s) : ν 207 2 = some 210 := wf_nu hW 13 rfl
theorem fa_X5_2 (hW : WF sh ν f s) : sh[210]? = some (0, 20) := by rw [hW.1]; rfl
theorem fs_X6 (hW : WF sh ν f s) (hA : isParts a) : sh[a]? = some (6, 6) := by
  rw [hW.1]
  rcases hA with rfl | ⟨r, hr, rfl⟩
  · rfl
  · exact (SH_rule r hr).2.1
theorem fp_X6_0 (hW : WF sh ν f s) (hA : isParts a) : ν a 0 = some (a + 1) := by
  rcases hA with rfl | ⟨r, hr, rfl⟩
  · exact wf_nu hW 8 rfl
  · exact (hW.2.2.1 r hr).2.2.1
theorem fa_X6_0 (hW : WF sh ν f s) (hA : isParts a) : sh[a + 1]? = some (0, 6) := by
  rw [hW.1]
  rcases hA with rfl | ⟨r, hr, rfl⟩
  · rfl
  · exact (SH_rule r hr).2.2.1
theorem fp_X6_1 (hW : WF sh ν f s) (hA : isParts a) : ν a 1 = some (a + 2) := by
  rcases hA with rfl | ⟨r, hr, rfl⟩
  · exact wf_nu hW 9 rfl
  · exact (hW.2.2.1 r hr).2.2.2.1
theorem fa_X6_1 (hW : WF sh ν f s) (hA : isParts a) : sh[a + 2]? = some (0, 6) := by
  rw [hW.1]
  rcases hA with rfl | ⟨r, hr, rfl⟩
  · rfl
  · exact (SH_rule r hr).2.2.2.1
theorem fp_X6_2 (hW : WF sh ν f s) (hA : isParts a) : ν a 2 = some (a + 3) := by
  rcases hA with rfl | ⟨r, hr, rfl⟩
  · exact wf_nu hW 10 rfl
  · exact (hW.2.2.1 r hr).2.2.2.2
theorem fa_X6_2 (hW : WF sh ν f s) (hA : isParts a) : sh[a + 3]? = some (0, 6) := by
  rw [hW.1]
  rcases hA with rfl | ⟨r, hr, rfl⟩
  · rfl
  · exact (SH_rule r hr).2.2.2.2
theorem fs_X7 (hW : WF sh ν f s) (hA : isRule a) : sh[a]? = some (6, 7) := by
  obtain ⟨r, hr, rfl⟩ := hA
  rw [hW.1]; exact (SH_rule r hr).1
theorem fp_X7_0 (hW : WF sh ν f s) (hA : isRule a) : ν a 0 = some (a + 1) := by
  obtain ⟨r, hr, rfl⟩ := hA
  exact (hW.2.2.1 r hr).2.1
theorem fs_X8 (hW : WF sh ν f s) : sh[249]? = some (6, 8) := by rw [hW.1]; rfl
theorem fp_X8_0 (hW : WF sh ν f s) : ν 249 0 = some 1 := wf_nu hW 55 rfl
theorem fp_X8_1 (hW : WF sh ν f s) : ν 249 1 = some 207 := wf_nu hW 56 rfl
theorem fp_X8_2 (hW : WF sh ν f s) : ν 249 2 = some 250 := wf_nu hW 57 rfl
theorem fa_X8_2 (hW : WF sh ν f s) : sh[250]? = some (5, 7) := by rw [hW.1]; rfl
theorem fp_X8_3 (hW : WF sh ν f s) : ν 249 3 = some 258 := wf_nu hW 58 rfl
theorem fa_X8_3 (hW : WF sh ν f s) : sh[258]? = some (0, 40) := by rw [hW.1]; rfl
theorem fs_X9 (hW : WF sh ν f s) : sh[0]? = some (6, 9) := by rw [hW.1]; rfl
theorem fp_X9_0 (hW : WF sh ν f s) : ν 0 0 = some 1 := wf_nu hW 0 rfl
theorem fp_X9_1 (hW : WF sh ν f s) : ν 0 1 = some 207 := wf_nu hW 1 rfl
theorem fp_X9_2 (hW : WF sh ν f s) : ν 0 2 = some 211 := wf_nu hW 2 rfl
theorem fp_X9_3 (hW : WF sh ν f s) : ν 0 3 = some 213 := wf_nu hW 3 rfl
theorem fp_X9_4 (hW : WF sh ν f s) : ν 0 4 = some 231 := wf_nu hW 4 rfl
theorem fp_X9_5 (hW : WF sh ν f s) : ν 0 5 = some 249 := wf_nu hW 5 rfl
theorem fp_X9_6 (hW : WF sh ν f s) : ν 0 6 = some f := hW.2.2.2.1
theorem fp_X9_7 (hW : WF sh ν f s) : ν 0 7 = some s := hW.2.2.2.2.1
theorem fs_X10 (hW : WF sh ν f s) : sh[265]? = some (6, 10) := by rw [hW.1]; rfl
theorem fp_X10_1 (hW : WF sh ν f s) : ν 265 1 = some 266 := wf_nu hW 63 rfl
theorem fa_X10_1 (hW : WF sh ν f s) : sh[266]? = some (0, 40) := by rw [hW.1]; rfl
theorem fp_X10_2 (hW : WF sh ν f s) : ν 265 2 = some 267 := wf_nu hW 64 rfl
theorem fa_X10_2 (hW : WF sh ν f s) : sh[267]? = some (0, 40) := by rw [hW.1]; rfl
theorem fp_X10_3 (hW : WF sh ν f s) : ν 265 3 = some 268 := wf_nu hW 65 rfl
theorem fa_X10_3 (hW : WF sh ν f s) : sh[268]? = some (0, 40) := by rw [hW.1]; rfl
theorem fp_X10_4 (hW : WF sh ν f s) : ν 265 4 = some 269 := wf_nu hW 66 rfl
theorem fa_X10_4 (hW : WF sh ν f s) : sh[269]? = some (0, 40) := by rw [hW.1]; rfl
theorem fp_X10_5 (hW : WF sh ν f s) : ν 265 5 = some 270 := wf_nu hW 67 rfl
theorem fa_X10_5 (hW : WF sh ν f s) : sh[270]? = some (0, 40) := by rw [hW.1]; rfl
theorem fp_X10_6 (hW : WF sh ν f s) : ν 265 6 = some 271 := wf_nu hW 68 rfl
theorem fa_X10_6 (hW : WF sh ν f s) : sh[271]? = some (0, 240) := by rw [hW.1]; rfl
theorem fp_X10_7 (hW : WF sh ν f s) : ν 265 7 = some 272 := wf_nu hW 69 rfl
theorem fa_X10_7 (hW : WF sh ν f s) : sh[272]? = some (0, 240) := by rw [hW.1]; rfl
theorem fp_X10_8 (hW : WF sh ν f s) : ν 265 8 = some 273 := wf_nu hW 70 rfl
theorem fa_X10_8 (hW : WF sh ν f s) : sh[273]? = some (3, 240) := by rw [hW.1]; rfl
theorem fp_X10_9 (hW : WF sh ν f s) : ν 265 9 = some 274 := wf_nu hW 71 rfl
theorem fa_X10_9 (hW : WF sh ν f s) : sh[274]? = some (0, 160) := by rw [hW.1]; rfl
theorem fp_X10_11 (hW : WF sh ν f s) : ν 265 11 = some 275 := wf_nu hW 72 rfl
theorem fa_X10_11 (hW : WF sh ν f s) : sh[275]? = some (0, 6) := by rw [hW.1]; rfl
theorem fp_X10_12 (hW : WF sh ν f s) : ν 265 12 = some 276 := wf_nu hW 73 rfl
theorem fa_X10_12 (hW : WF sh ν f s) : sh[276]? = some (0, 6) := by rw [hW.1]; rfl
theorem fp_X10_13 (hW : WF sh ν f s) : ν 265 13 = some 277 := wf_nu hW 74 rfl
theorem fa_X10_13 (hW : WF sh ν f s) : sh[277]? = some (3, 6) := by rw [hW.1]; rfl
theorem fp_X10_15 (hW : WF sh ν f s) : ν 265 15 = some 278 := wf_nu hW 75 rfl
theorem fa_X10_15 (hW : WF sh ν f s) : sh[278]? = some (0, 20) := by rw [hW.1]; rfl
theorem fp_X10_16 (hW : WF sh ν f s) : ν 265 16 = some 279 := wf_nu hW 76 rfl
theorem fa_X10_16 (hW : WF sh ν f s) : sh[279]? = some (0, 20) := by rw [hW.1]; rfl
theorem fp_X10_17 (hW : WF sh ν f s) : ν 265 17 = some 280 := wf_nu hW 77 rfl
theorem fa_X10_17 (hW : WF sh ν f s) : sh[280]? = some (0, 20) := by rw [hW.1]; rfl
theorem fp_X10_21 (hW : WF sh ν f s) : ν 265 21 = some 281 := wf_nu hW 78 rfl
theorem fa_X10_21 (hW : WF sh ν f s) : sh[281]? = some (0, 8000) := by rw [hW.1]; rfl
theorem fp_X10_23 (hW : WF sh ν f s) : ν 265 23 = some 282 := wf_nu hW 79 rfl
theorem fa_X10_23 (hW : WF sh ν f s) : sh[282]? = some (0, 400) := by rw [hW.1]; rfl
theorem fp_X10_24 (hW : WF sh ν f s) : ν 265 24 = some 283 := wf_nu hW 80 rfl
theorem fa_X10_24 (hW : WF sh ν f s) : sh[283]? = some (0, 400) := by rw [hW.1]; rfl
theorem fp_X10_25 (hW : WF sh ν f s) : ν 265 25 = some 284 := wf_nu hW 81 rfl
theorem fa_X10_25 (hW : WF sh ν f s) : sh[284]? = some (0, 8000) := by rw [hW.1]; rfl
theorem fp_X10_28 (hW : WF sh ν f s) : ν 265 28 = some 285 := wf_nu hW 82 rfl
theorem fa_X10_28 (hW : WF sh ν f s) : sh[285]? = some (0, 600) := by rw [hW.1]; rfl
theorem fp_X10_29 (hW : WF sh ν f s) : ν 265 29 = some 286 := wf_nu hW 83 rfl
theorem fa_X10_29 (hW : WF sh ν f s) : sh[286]? = some (0, 600) := by rw [hW.1]; rfl
theorem fp_X10_30 (hW : WF sh ν f s) : ν 265 30 = some 287 := wf_nu hW 84 rfl
theorem fa_X10_30 (hW : WF sh ν f s) : sh[287]? = some (0, 600) := by rw [hW.1]; rfl
theorem fp_X10_31 (hW : WF sh ν f s) : ν 265 31 = some 288 := wf_nu hW 85 rfl
theorem fa_X10_31 (hW : WF sh ν f s) : sh[288]? = some (0, 600) := by rw [hW.1]; rfl
theorem fp_X10_32 (hW : WF sh ν f s) : ν 265 32 = some 289 := wf_nu hW 86 rfl
theorem fa_X10_32 (hW : WF sh ν f s) : sh[289]? = some (0, 600) := by rw [hW.1]; rfl
theorem fp_X10_33 (hW : WF sh ν f s) : ν 265 33 = some 290 := wf_nu hW 87 rfl
theorem fa_X10_33 (hW : WF sh ν f s) : sh[290]? = some (0, 600) := by rw [hW.1]; rfl
theorem fp_X10_34 (hW : WF sh ν f s) : ν 265 34 = some 291 := wf_nu hW 88 rfl
theorem fa_X10_34 (hW : WF sh ν f s) : sh[291]? = some (0, 600) := by rw [hW.1]; rfl
theorem fp_X10_37 (hW : WF sh ν f s) : ν 265 37 = some 292 := wf_nu hW 89 rfl
theorem fa_X10_37 (hW : WF sh ν f s) : sh[292]? = some (0, 81) := by rw [hW.1]; rfl
theorem fp_X10_38 (hW : WF sh ν f s) : ν 265 38 = some 293 := wf_nu hW 90 rfl
theorem fa_X10_38 (hW : WF sh ν f s) : sh[293]? = some (1, 55688) := by rw [hW.1]; rfl
theorem fp_X10_39 (hW : WF sh ν f s) : ν 265 39 = some 294 := wf_nu hW 91 rfl
theorem fa_X10_39 (hW : WF sh ν f s) : sh[294]? = some (0, 55688) := by rw [hW.1]; rfl
theorem fp_X10_40 (hW : WF sh ν f s) : ν 265 40 = some 295 := wf_nu hW 92 rfl
theorem fa_X10_40 (hW : WF sh ν f s) : sh[295]? = some (0, 55688) := by rw [hW.1]; rfl
theorem fp_X10_41 (hW : WF sh ν f s) : ν 265 41 = some 296 := wf_nu hW 93 rfl
theorem fa_X10_41 (hW : WF sh ν f s) : sh[296]? = some (0, 55688) := by rw [hW.1]; rfl
theorem fp_X10_43 (hW : WF sh ν f s) : ν 265 43 = some 297 := wf_nu hW 94 rfl
theorem fa_X10_43 (hW : WF sh ν f s) : sh[297]? = some (1, 8) := by rw [hW.1]; rfl
theorem fp_X10_44 (hW : WF sh ν f s) : ν 265 44 = some 298 := wf_nu hW 95 rfl
theorem fa_X10_44 (hW : WF sh ν f s) : sh[298]? = some (0, 64) := by rw [hW.1]; rfl
theorem fp_X10_45 (hW : WF sh ν f s) : ν 265 45 = some 299 := wf_nu hW 96 rfl
theorem fa_X10_45 (hW : WF sh ν f s) : sh[299]? = some (3, 8) := by rw [hW.1]; rfl
theorem fp_X10_46 (hW : WF sh ν f s) : ν 265 46 = some 300 := wf_nu hW 97 rfl
theorem fa_X10_46 (hW : WF sh ν f s) : sh[300]? = some (3, 64) := by rw [hW.1]; rfl
theorem fe_pile0 (hW : WF sh ν f s) : ν 250 (Int.toNat 0) = some 251 := wf_nu hW 98 rfl
theorem fz_pile0 (hW : WF sh ν f s) : sh[251]? = some (0, 400) := by rw [hW.1]; rfl
theorem fe_pile1 (hW : WF sh ν f s) : ν 250 (Int.toNat 1) = some 252 := wf_nu hW 99 rfl
theorem fz_pile1 (hW : WF sh ν f s) : sh[252]? = some (0, 400) := by rw [hW.1]; rfl
theorem fe_pile2 (hW : WF sh ν f s) : ν 250 (Int.toNat 2) = some 253 := wf_nu hW 100 rfl
theorem fz_pile2 (hW : WF sh ν f s) : sh[253]? = some (0, 400) := by rw [hW.1]; rfl
theorem fe_pile3 (hW : WF sh ν f s) : ν 250 (Int.toNat 3) = some 254 := wf_nu hW 101 rfl
theorem fz_pile3 (hW : WF sh ν f s) : sh[254]? = some (0, 400) := by rw [hW.1]; rfl
theorem fe_pile4 (hW : WF sh ν f s) : ν 250 (Int.toNat 4) = some 255 := wf_nu hW 102 rfl
theorem fz_pile4 (hW : WF sh ν f s) : sh[255]? = some (0, 400) := by rw [hW.1]; rfl
theorem fe_pile5 (hW : WF sh ν f s) : ν 250 (Int.toNat 5) = some 256 := wf_nu hW 103 rfl
theorem fz_pile5 (hW : WF sh ν f s) : sh[256]? = some (0, 400) := by rw [hW.1]; rfl
theorem fe_pile6 (hW : WF sh ν f s) : ν 250 (Int.toNat 6) = some 257 := wf_nu hW 104 rfl
theorem fz_pile6 (hW : WF sh ν f s) : sh[257]? = some (0, 400) := by rw [hW.1]; rfl
end WFS
theorem X.pick {M : xM} {pc : Nat} {ls ls' : List (Nat × xV)} {st : List xV} {sh : List (Nat × Nat)} {ν : Nat → Nat → Option Nat} {μ : Nat → Nat → Int} {k n : Nat} {Q : xQ} (ps : List Nat) (h : ps.filterMap (fun i => ls[i]?) = ls') (K : X M pc ls' st sh ν μ k n Q) : X M pc ls st sh ν μ k n Q := by
  subst h
  refine X.sub (fun q hq => ?_) K
  obtain ⟨i, -, hi⟩ := List.mem_filterMap.mp hq
  exact List.mem_of_getElem? hi
end
