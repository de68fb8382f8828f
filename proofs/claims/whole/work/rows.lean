section
-- ===== PART A: goes FIRST, ahead of the names: the tables' words, and 'selects' of the private methods out of them =====
/-- a private method of a class that the tables say can be made, by its rows of tables_1 -/
def lw_okq (q : MethodName × Nat) : Prop := (q.1.cls ≠ "java/lang/invoke/MethodHandle" ∧ q.1.cls ≠ "java/lang/invoke/VarHandle") ∧ Cond.instantiable q.1.cls q.2 ∈ tables_1 ∧ Cond.privateMethod q.1 ∈ tables_1 ∧ Cond.instanceMethod q.1 ∈ tables_1
theorem lw_p0 : lw_okq (⟨"SunRopes", "found", "(I)I"⟩, 16) := ⟨⟨by decide +kernel, by decide +kernel⟩, List.mem_of_getElem? (i := 17) (by decide +kernel), List.mem_of_getElem? (i := 309) (by decide +kernel), List.mem_of_getElem? (i := 310) (by decide +kernel)⟩
theorem lw_p1 : lw_okq (⟨"SunRopes", "placeRefusal", "(II)I"⟩, 16) := ⟨⟨by decide +kernel, by decide +kernel⟩, List.mem_of_getElem? (i := 17) (by decide +kernel), List.mem_of_getElem? (i := 324) (by decide +kernel), List.mem_of_getElem? (i := 325) (by decide +kernel)⟩
theorem lw_p2 : lw_okq (⟨"SunRopes$Reader", "faultInCape", "(LSunRopes$Text;I)I"⟩, 4) := ⟨⟨by decide +kernel, by decide +kernel⟩, List.mem_of_getElem? (i := 29) (by decide +kernel), List.mem_of_getElem? (i := 394) (by decide +kernel), List.mem_of_getElem? (i := 395) (by decide +kernel)⟩
theorem lw_p3 : lw_okq (⟨"SunRopes$Reader", "faultInValley", "(LSunRopes$Text;I)I"⟩, 4) := ⟨⟨by decide +kernel, by decide +kernel⟩, List.mem_of_getElem? (i := 29) (by decide +kernel), List.mem_of_getElem? (i := 401) (by decide +kernel), List.mem_of_getElem? (i := 402) (by decide +kernel)⟩
theorem lw_p4 : lw_okq (⟨"SunRopes$Reader", "leastFigure", "(II)I"⟩, 4) := ⟨⟨by decide +kernel, by decide +kernel⟩, List.mem_of_getElem? (i := 29) (by decide +kernel), List.mem_of_getElem? (i := 405) (by decide +kernel), List.mem_of_getElem? (i := 406) (by decide +kernel)⟩
theorem lw_p5 : lw_okq (⟨"SunRopes", "factOfCape", "(II)I"⟩, 16) := ⟨⟨by decide +kernel, by decide +kernel⟩, List.mem_of_getElem? (i := 17) (by decide +kernel), List.mem_of_getElem? (i := 433) (by decide +kernel), List.mem_of_getElem? (i := 434) (by decide +kernel)⟩
theorem lw_p6 : lw_okq (⟨"SunRopes", "factOfValley", "(II)I"⟩, 16) := ⟨⟨by decide +kernel, by decide +kernel⟩, List.mem_of_getElem? (i := 17) (by decide +kernel), List.mem_of_getElem? (i := 467) (by decide +kernel), List.mem_of_getElem? (i := 468) (by decide +kernel)⟩
theorem lw_p7 : lw_okq (⟨"SunRopes", "markOf", "(II)I"⟩, 16) := ⟨⟨by decide +kernel, by decide +kernel⟩, List.mem_of_getElem? (i := 17) (by decide +kernel), List.mem_of_getElem? (i := 475) (by decide +kernel), List.mem_of_getElem? (i := 476) (by decide +kernel)⟩
theorem lw_p8 : lw_okq (⟨"SunRopes", "trueHour", "(I)I"⟩, 16) := ⟨⟨by decide +kernel, by decide +kernel⟩, List.mem_of_getElem? (i := 17) (by decide +kernel), List.mem_of_getElem? (i := 501) (by decide +kernel), List.mem_of_getElem? (i := 502) (by decide +kernel)⟩
theorem lw_p9 : lw_okq (⟨"SunRopes$Day", "wearAndRest", "(LSunRopes$Year;)V"⟩, 5) := ⟨⟨by decide +kernel, by decide +kernel⟩, List.mem_of_getElem? (i := 99) (by decide +kernel), List.mem_of_getElem? (i := 537) (by decide +kernel), List.mem_of_getElem? (i := 538) (by decide +kernel)⟩
theorem lw_p10 : lw_okq (⟨"SunRopes", "planRefusal", "(I)I"⟩, 16) := ⟨⟨by decide +kernel, by decide +kernel⟩, List.mem_of_getElem? (i := 17) (by decide +kernel), List.mem_of_getElem? (i := 586) (by decide +kernel), List.mem_of_getElem? (i := 587) (by decide +kernel)⟩
theorem lw_p11 : lw_okq (⟨"SunRopes", "rowRefusal", "(I)I"⟩, 16) := ⟨⟨by decide +kernel, by decide +kernel⟩, List.mem_of_getElem? (i := 17) (by decide +kernel), List.mem_of_getElem? (i := 590) (by decide +kernel), List.mem_of_getElem? (i := 591) (by decide +kernel)⟩
theorem lw_p12 : lw_okq (⟨"SunRopes$Search", "begin", "(LSunRopes$Day;I)V"⟩, 8) := ⟨⟨by decide +kernel, by decide +kernel⟩, List.mem_of_getElem? (i := 166) (by decide +kernel), List.mem_of_getElem? (i := 625) (by decide +kernel), List.mem_of_getElem? (i := 626) (by decide +kernel)⟩
theorem lw_p13 : lw_okq (⟨"SunRopes$Search", "seekMost", "(LSunRopes$Year;II)V"⟩, 8) := ⟨⟨by decide +kernel, by decide +kernel⟩, List.mem_of_getElem? (i := 166) (by decide +kernel), List.mem_of_getElem? (i := 630) (by decide +kernel), List.mem_of_getElem? (i := 631) (by decide +kernel)⟩
theorem lw_p14 : lw_okq (⟨"SunRopes$Search", "setFirst", "(I)V"⟩, 8) := ⟨⟨by decide +kernel, by decide +kernel⟩, List.mem_of_getElem? (i := 166) (by decide +kernel), List.mem_of_getElem? (i := 634) (by decide +kernel), List.mem_of_getElem? (i := 635) (by decide +kernel)⟩
theorem lw_p15 : lw_okq (⟨"SunRopes$Search", "step", "(LSunRopes$Year;II)V"⟩, 8) := ⟨⟨by decide +kernel, by decide +kernel⟩, List.mem_of_getElem? (i := 166) (by decide +kernel), List.mem_of_getElem? (i := 641) (by decide +kernel), List.mem_of_getElem? (i := 642) (by decide +kernel)⟩
def lw_privs_1 : List (MethodName × Nat) := [(⟨"SunRopes", "found", "(I)I"⟩, 16), (⟨"SunRopes", "placeRefusal", "(II)I"⟩, 16), (⟨"SunRopes$Reader", "faultInCape", "(LSunRopes$Text;I)I"⟩, 4), (⟨"SunRopes$Reader", "faultInValley", "(LSunRopes$Text;I)I"⟩, 4), (⟨"SunRopes$Reader", "leastFigure", "(II)I"⟩, 4), (⟨"SunRopes", "factOfCape", "(II)I"⟩, 16), (⟨"SunRopes", "factOfValley", "(II)I"⟩, 16), (⟨"SunRopes", "markOf", "(II)I"⟩, 16), (⟨"SunRopes", "trueHour", "(I)I"⟩, 16), (⟨"SunRopes$Day", "wearAndRest", "(LSunRopes$Year;)V"⟩, 5), (⟨"SunRopes", "planRefusal", "(I)I"⟩, 16), (⟨"SunRopes", "rowRefusal", "(I)I"⟩, 16), (⟨"SunRopes$Search", "begin", "(LSunRopes$Day;I)V"⟩, 8), (⟨"SunRopes$Search", "seekMost", "(LSunRopes$Year;II)V"⟩, 8), (⟨"SunRopes$Search", "setFirst", "(I)V"⟩, 8), (⟨"SunRopes$Search", "step", "(LSunRopes$Year;II)V"⟩, 8)]
theorem lw_r1 : ∀ q ∈ lw_privs_1, lw_okq q := List.forall_mem_cons.mpr ⟨lw_p0, List.forall_mem_cons.mpr ⟨lw_p1, List.forall_mem_cons.mpr ⟨lw_p2, List.forall_mem_cons.mpr ⟨lw_p3, List.forall_mem_cons.mpr ⟨lw_p4, List.forall_mem_cons.mpr ⟨lw_p5, List.forall_mem_cons.mpr ⟨lw_p6, List.forall_mem_cons.mpr ⟨lw_p7, List.forall_mem_cons.mpr ⟨lw_p8, List.forall_mem_cons.mpr ⟨lw_p9, List.forall_mem_cons.mpr ⟨lw_p10, List.forall_mem_cons.mpr ⟨lw_p11, List.forall_mem_cons.mpr ⟨lw_p12, List.forall_mem_cons.mpr ⟨lw_p13, List.forall_mem_cons.mpr ⟨lw_p14, List.forall_mem_cons.mpr ⟨lw_p15, fun _ h => absurd h List.not_mem_nil⟩⟩⟩⟩⟩⟩⟩⟩⟩⟩⟩⟩⟩⟩⟩⟩
theorem lw_p16 : lw_okq (⟨"SunRopes$Search", "seekSlowest", "(LSunRopes$Year;II)V"⟩, 8) := ⟨⟨by decide +kernel, by decide +kernel⟩, List.mem_of_getElem? (i := 166) (by decide +kernel), List.mem_of_getElem? (i := 660) (by decide +kernel), List.mem_of_getElem? (i := 661) (by decide +kernel)⟩
theorem lw_p17 : lw_okq (⟨"SunRopes", "orderFrom", "(II)I"⟩, 16) := ⟨⟨by decide +kernel, by decide +kernel⟩, List.mem_of_getElem? (i := 17) (by decide +kernel), List.mem_of_getElem? (i := 694) (by decide +kernel), List.mem_of_getElem? (i := 695) (by decide +kernel)⟩
theorem lw_p18 : lw_okq (⟨"SunRopes$Council", "isBeaten", "(LSunRopes$Year;I)Z"⟩, 2) := ⟨⟨by decide +kernel, by decide +kernel⟩, List.mem_of_getElem? (i := 202) (by decide +kernel), List.mem_of_getElem? (i := 723) (by decide +kernel), List.mem_of_getElem? (i := 724) (by decide +kernel)⟩
theorem lw_p19 : lw_okq (⟨"SunRopes$Council", "mostOf", "(LSunRopes$Year;I)I"⟩, 2) := ⟨⟨by decide +kernel, by decide +kernel⟩, List.mem_of_getElem? (i := 202) (by decide +kernel), List.mem_of_getElem? (i := 737) (by decide +kernel), List.mem_of_getElem? (i := 738) (by decide +kernel)⟩
theorem lw_p20 : lw_okq (⟨"SunRopes", "minutesRefusal", "(I)I"⟩, 16) := ⟨⟨by decide +kernel, by decide +kernel⟩, List.mem_of_getElem? (i := 17) (by decide +kernel), List.mem_of_getElem? (i := 746) (by decide +kernel), List.mem_of_getElem? (i := 747) (by decide +kernel)⟩
theorem lw_p21 : lw_okq (⟨"SunRopes$Search", "seekFitting", "(LSunRopes$Year;IIILSunRopes$Row;)V"⟩, 8) := ⟨⟨by decide +kernel, by decide +kernel⟩, List.mem_of_getElem? (i := 166) (by decide +kernel), List.mem_of_getElem? (i := 754) (by decide +kernel), List.mem_of_getElem? (i := 755) (by decide +kernel)⟩
theorem lw_p22 : lw_okq (⟨"SunRopes$Search", "waysFrom", "(LSunRopes$Year;III)I"⟩, 8) := ⟨⟨by decide +kernel, by decide +kernel⟩, List.mem_of_getElem? (i := 166) (by decide +kernel), List.mem_of_getElem? (i := 770) (by decide +kernel), List.mem_of_getElem? (i := 771) (by decide +kernel)⟩
theorem lw_p23 : lw_okq (⟨"SunRopes", "tellChance", "(II)V"⟩, 16) := ⟨⟨by decide +kernel, by decide +kernel⟩, List.mem_of_getElem? (i := 17) (by decide +kernel), List.mem_of_getElem? (i := 774) (by decide +kernel), List.mem_of_getElem? (i := 775) (by decide +kernel)⟩
theorem lw_p24 : lw_okq (⟨"SunRopes", "countOf", "(I)I"⟩, 16) := ⟨⟨by decide +kernel, by decide +kernel⟩, List.mem_of_getElem? (i := 17) (by decide +kernel), List.mem_of_getElem? (i := 802) (by decide +kernel), List.mem_of_getElem? (i := 803) (by decide +kernel)⟩
theorem lw_p25 : lw_okq (⟨"SunRopes", "rowsThere", "()I"⟩, 16) := ⟨⟨by decide +kernel, by decide +kernel⟩, List.mem_of_getElem? (i := 17) (by decide +kernel), List.mem_of_getElem? (i := 806) (by decide +kernel), List.mem_of_getElem? (i := 807) (by decide +kernel)⟩
theorem lw_p26 : lw_okq (⟨"SunRopes", "textsThere", "()I"⟩, 16) := ⟨⟨by decide +kernel, by decide +kernel⟩, List.mem_of_getElem? (i := 17) (by decide +kernel), List.mem_of_getElem? (i := 810) (by decide +kernel), List.mem_of_getElem? (i := 811) (by decide +kernel)⟩
theorem lw_p27 : lw_okq (⟨"SunRopes", "yearsKept", "()I"⟩, 16) := ⟨⟨by decide +kernel, by decide +kernel⟩, List.mem_of_getElem? (i := 17) (by decide +kernel), List.mem_of_getElem? (i := 814) (by decide +kernel), List.mem_of_getElem? (i := 815) (by decide +kernel)⟩
theorem lw_p28 : lw_okq (⟨"SunRopesModel", "finds", "(I)I"⟩, 39) := ⟨⟨by decide +kernel, by decide +kernel⟩, List.mem_of_getElem? (i := 842) (by decide +kernel), List.mem_of_getElem? (i := 977) (by decide +kernel), List.mem_of_getElem? (i := 978) (by decide +kernel)⟩
theorem lw_p29 : lw_okq (⟨"SunRopesModel", "readYear", "(I)V"⟩, 39) := ⟨⟨by decide +kernel, by decide +kernel⟩, List.mem_of_getElem? (i := 842) (by decide +kernel), List.mem_of_getElem? (i := 1017) (by decide +kernel), List.mem_of_getElem? (i := 1018) (by decide +kernel)⟩
theorem lw_p30 : lw_okq (⟨"SunRopesModel", "skip", "(I)V"⟩, 39) := ⟨⟨by decide +kernel, by decide +kernel⟩, List.mem_of_getElem? (i := 842) (by decide +kernel), List.mem_of_getElem? (i := 1021) (by decide +kernel), List.mem_of_getElem? (i := 1022) (by decide +kernel)⟩
theorem lw_p31 : lw_okq (⟨"SunRopesModel", "byteOf", "(I)I"⟩, 39) := ⟨⟨by decide +kernel, by decide +kernel⟩, List.mem_of_getElem? (i := 842) (by decide +kernel), List.mem_of_getElem? (i := 1025) (by decide +kernel), List.mem_of_getElem? (i := 1026) (by decide +kernel)⟩
def lw_privs_2 : List (MethodName × Nat) := [(⟨"SunRopes$Search", "seekSlowest", "(LSunRopes$Year;II)V"⟩, 8), (⟨"SunRopes", "orderFrom", "(II)I"⟩, 16), (⟨"SunRopes$Council", "isBeaten", "(LSunRopes$Year;I)Z"⟩, 2), (⟨"SunRopes$Council", "mostOf", "(LSunRopes$Year;I)I"⟩, 2), (⟨"SunRopes", "minutesRefusal", "(I)I"⟩, 16), (⟨"SunRopes$Search", "seekFitting", "(LSunRopes$Year;IIILSunRopes$Row;)V"⟩, 8), (⟨"SunRopes$Search", "waysFrom", "(LSunRopes$Year;III)I"⟩, 8), (⟨"SunRopes", "tellChance", "(II)V"⟩, 16), (⟨"SunRopes", "countOf", "(I)I"⟩, 16), (⟨"SunRopes", "rowsThere", "()I"⟩, 16), (⟨"SunRopes", "textsThere", "()I"⟩, 16), (⟨"SunRopes", "yearsKept", "()I"⟩, 16), (⟨"SunRopesModel", "finds", "(I)I"⟩, 39), (⟨"SunRopesModel", "readYear", "(I)V"⟩, 39), (⟨"SunRopesModel", "skip", "(I)V"⟩, 39), (⟨"SunRopesModel", "byteOf", "(I)I"⟩, 39)]
theorem lw_r2 : ∀ q ∈ lw_privs_2, lw_okq q := List.forall_mem_cons.mpr ⟨lw_p16, List.forall_mem_cons.mpr ⟨lw_p17, List.forall_mem_cons.mpr ⟨lw_p18, List.forall_mem_cons.mpr ⟨lw_p19, List.forall_mem_cons.mpr ⟨lw_p20, List.forall_mem_cons.mpr ⟨lw_p21, List.forall_mem_cons.mpr ⟨lw_p22, List.forall_mem_cons.mpr ⟨lw_p23, List.forall_mem_cons.mpr ⟨lw_p24, List.forall_mem_cons.mpr ⟨lw_p25, List.forall_mem_cons.mpr ⟨lw_p26, List.forall_mem_cons.mpr ⟨lw_p27, List.forall_mem_cons.mpr ⟨lw_p28, List.forall_mem_cons.mpr ⟨lw_p29, List.forall_mem_cons.mpr ⟨lw_p30, List.forall_mem_cons.mpr ⟨lw_p31, fun _ h => absurd h List.not_mem_nil⟩⟩⟩⟩⟩⟩⟩⟩⟩⟩⟩⟩⟩⟩⟩⟩
theorem lw_p32 : lw_okq (⟨"SunRopesModel", "readOne", "(I)V"⟩, 39) := ⟨⟨by decide +kernel, by decide +kernel⟩, List.mem_of_getElem? (i := 842) (by decide +kernel), List.mem_of_getElem? (i := 1029) (by decide +kernel), List.mem_of_getElem? (i := 1030) (by decide +kernel)⟩
theorem lw_p33 : lw_okq (⟨"SunRopesModel", "figure", "(III)I"⟩, 39) := ⟨⟨by decide +kernel, by decide +kernel⟩, List.mem_of_getElem? (i := 842) (by decide +kernel), List.mem_of_getElem? (i := 1036) (by decide +kernel), List.mem_of_getElem? (i := 1037) (by decide +kernel)⟩
theorem lw_p34 : lw_okq (⟨"SunRopesModel", "isCape", "(I)Z"⟩, 39) := ⟨⟨by decide +kernel, by decide +kernel⟩, List.mem_of_getElem? (i := 842) (by decide +kernel), List.mem_of_getElem? (i := 1048) (by decide +kernel), List.mem_of_getElem? (i := 1049) (by decide +kernel)⟩
theorem lw_p35 : lw_okq (⟨"SunRopesModel", "capeOf", "(II)I"⟩, 39) := ⟨⟨by decide +kernel, by decide +kernel⟩, List.mem_of_getElem? (i := 842) (by decide +kernel), List.mem_of_getElem? (i := 1052) (by decide +kernel), List.mem_of_getElem? (i := 1053) (by decide +kernel)⟩
theorem lw_p36 : lw_okq (⟨"SunRopesModel", "canPull", "(I)Z"⟩, 39) := ⟨⟨by decide +kernel, by decide +kernel⟩, List.mem_of_getElem? (i := 842) (by decide +kernel), List.mem_of_getElem? (i := 1056) (by decide +kernel), List.mem_of_getElem? (i := 1057) (by decide +kernel)⟩
theorem lw_p37 : lw_okq (⟨"SunRopesModel", "isDown", "()Z"⟩, 39) := ⟨⟨by decide +kernel, by decide +kernel⟩, List.mem_of_getElem? (i := 842) (by decide +kernel), List.mem_of_getElem? (i := 1060) (by decide +kernel), List.mem_of_getElem? (i := 1061) (by decide +kernel)⟩
theorem lw_p38 : lw_okq (⟨"SunRopesModel", "isOf", "(II)Z"⟩, 39) := ⟨⟨by decide +kernel, by decide +kernel⟩, List.mem_of_getElem? (i := 842) (by decide +kernel), List.mem_of_getElem? (i := 1064) (by decide +kernel), List.mem_of_getElem? (i := 1065) (by decide +kernel)⟩
theorem lw_p39 : lw_okq (⟨"SunRopesModel", "pullBy", "(I)I"⟩, 39) := ⟨⟨by decide +kernel, by decide +kernel⟩, List.mem_of_getElem? (i := 842) (by decide +kernel), List.mem_of_getElem? (i := 1068) (by decide +kernel), List.mem_of_getElem? (i := 1069) (by decide +kernel)⟩
theorem lw_p40 : lw_okq (⟨"SunRopesModel", "isValley", "(I)Z"⟩, 39) := ⟨⟨by decide +kernel, by decide +kernel⟩, List.mem_of_getElem? (i := 842) (by decide +kernel), List.mem_of_getElem? (i := 1076) (by decide +kernel), List.mem_of_getElem? (i := 1077) (by decide +kernel)⟩
theorem lw_p41 : lw_okq (⟨"SunRopesModel", "valleyOf", "(II)I"⟩, 39) := ⟨⟨by decide +kernel, by decide +kernel⟩, List.mem_of_getElem? (i := 842) (by decide +kernel), List.mem_of_getElem? (i := 1081) (by decide +kernel), List.mem_of_getElem? (i := 1082) (by decide +kernel)⟩
theorem lw_p42 : lw_okq (⟨"SunRopesModel", "weaker", "(I)I"⟩, 39) := ⟨⟨by decide +kernel, by decide +kernel⟩, List.mem_of_getElem? (i := 842) (by decide +kernel), List.mem_of_getElem? (i := 1089) (by decide +kernel), List.mem_of_getElem? (i := 1090) (by decide +kernel)⟩
theorem lw_p43 : lw_okq (⟨"SunRopesModel", "isSet", "(I)Z"⟩, 39) := ⟨⟨by decide +kernel, by decide +kernel⟩, List.mem_of_getElem? (i := 842) (by decide +kernel), List.mem_of_getElem? (i := 1102) (by decide +kernel), List.mem_of_getElem? (i := 1103) (by decide +kernel)⟩
theorem lw_p44 : lw_okq (⟨"SunRopesModel", "remember", "()V"⟩, 39) := ⟨⟨by decide +kernel, by decide +kernel⟩, List.mem_of_getElem? (i := 842) (by decide +kernel), List.mem_of_getElem? (i := 1106) (by decide +kernel), List.mem_of_getElem? (i := 1107) (by decide +kernel)⟩
theorem lw_p45 : lw_okq (⟨"SunRopesModel", "goHour", "(I)I"⟩, 39) := ⟨⟨by decide +kernel, by decide +kernel⟩, List.mem_of_getElem? (i := 842) (by decide +kernel), List.mem_of_getElem? (i := 1110) (by decide +kernel), List.mem_of_getElem? (i := 1111) (by decide +kernel)⟩
theorem lw_p46 : lw_okq (⟨"SunRopesModel", "gainAll", "()V"⟩, 39) := ⟨⟨by decide +kernel, by decide +kernel⟩, List.mem_of_getElem? (i := 842) (by decide +kernel), List.mem_of_getElem? (i := 1114) (by decide +kernel), List.mem_of_getElem? (i := 1115) (by decide +kernel)⟩
theorem lw_p47 : lw_okq (⟨"SunRopesModel", "gainOf", "(I)I"⟩, 39) := ⟨⟨by decide +kernel, by decide +kernel⟩, List.mem_of_getElem? (i := 842) (by decide +kernel), List.mem_of_getElem? (i := 1118) (by decide +kernel), List.mem_of_getElem? (i := 1119) (by decide +kernel)⟩
def lw_privs_3 : List (MethodName × Nat) := [(⟨"SunRopesModel", "readOne", "(I)V"⟩, 39), (⟨"SunRopesModel", "figure", "(III)I"⟩, 39), (⟨"SunRopesModel", "isCape", "(I)Z"⟩, 39), (⟨"SunRopesModel", "capeOf", "(II)I"⟩, 39), (⟨"SunRopesModel", "canPull", "(I)Z"⟩, 39), (⟨"SunRopesModel", "isDown", "()Z"⟩, 39), (⟨"SunRopesModel", "isOf", "(II)Z"⟩, 39), (⟨"SunRopesModel", "pullBy", "(I)I"⟩, 39), (⟨"SunRopesModel", "isValley", "(I)Z"⟩, 39), (⟨"SunRopesModel", "valleyOf", "(II)I"⟩, 39), (⟨"SunRopesModel", "weaker", "(I)I"⟩, 39), (⟨"SunRopesModel", "isSet", "(I)Z"⟩, 39), (⟨"SunRopesModel", "remember", "()V"⟩, 39), (⟨"SunRopesModel", "goHour", "(I)I"⟩, 39), (⟨"SunRopesModel", "gainAll", "()V"⟩, 39), (⟨"SunRopesModel", "gainOf", "(I)I"⟩, 39)]
theorem lw_r3 : ∀ q ∈ lw_privs_3, lw_okq q := List.forall_mem_cons.mpr ⟨lw_p32, List.forall_mem_cons.mpr ⟨lw_p33, List.forall_mem_cons.mpr ⟨lw_p34, List.forall_mem_cons.mpr ⟨lw_p35, List.forall_mem_cons.mpr ⟨lw_p36, List.forall_mem_cons.mpr ⟨lw_p37, List.forall_mem_cons.mpr ⟨lw_p38, List.forall_mem_cons.mpr ⟨lw_p39, List.forall_mem_cons.mpr ⟨lw_p40, List.forall_mem_cons.mpr ⟨lw_p41, List.forall_mem_cons.mpr ⟨lw_p42, List.forall_mem_cons.mpr ⟨lw_p43, List.forall_mem_cons.mpr ⟨lw_p44, List.forall_mem_cons.mpr ⟨lw_p45, List.forall_mem_cons.mpr ⟨lw_p46, List.forall_mem_cons.mpr ⟨lw_p47, fun _ h => absurd h List.not_mem_nil⟩⟩⟩⟩⟩⟩⟩⟩⟩⟩⟩⟩⟩⟩⟩⟩
theorem lw_p48 : lw_okq (⟨"SunRopesModel", "tire", "(IZ)V"⟩, 39) := ⟨⟨by decide +kernel, by decide +kernel⟩, List.mem_of_getElem? (i := 842) (by decide +kernel), List.mem_of_getElem? (i := 1125) (by decide +kernel), List.mem_of_getElem? (i := 1126) (by decide +kernel)⟩
theorem lw_p49 : lw_okq (⟨"SunRopesModel", "rest", "(I)V"⟩, 39) := ⟨⟨by decide +kernel, by decide +kernel⟩, List.mem_of_getElem? (i := 842) (by decide +kernel), List.mem_of_getElem? (i := 1129) (by decide +kernel), List.mem_of_getElem? (i := 1130) (by decide +kernel)⟩
theorem lw_p50 : lw_okq (⟨"SunRopesModel", "planRefused", "(I)I"⟩, 39) := ⟨⟨by decide +kernel, by decide +kernel⟩, List.mem_of_getElem? (i := 842) (by decide +kernel), List.mem_of_getElem? (i := 1169) (by decide +kernel), List.mem_of_getElem? (i := 1170) (by decide +kernel)⟩
theorem lw_p51 : lw_okq (⟨"SunRopesModel", "save", "()V"⟩, 39) := ⟨⟨by decide +kernel, by decide +kernel⟩, List.mem_of_getElem? (i := 842) (by decide +kernel), List.mem_of_getElem? (i := 1173) (by decide +kernel), List.mem_of_getElem? (i := 1174) (by decide +kernel)⟩
theorem lw_p52 : lw_okq (⟨"SunRopesModel", "gainsNow", "()I"⟩, 39) := ⟨⟨by decide +kernel, by decide +kernel⟩, List.mem_of_getElem? (i := 842) (by decide +kernel), List.mem_of_getElem? (i := 1177) (by decide +kernel), List.mem_of_getElem? (i := 1178) (by decide +kernel)⟩
theorem lw_p53 : lw_okq (⟨"SunRopesModel", "putBack", "()V"⟩, 39) := ⟨⟨by decide +kernel, by decide +kernel⟩, List.mem_of_getElem? (i := 842) (by decide +kernel), List.mem_of_getElem? (i := 1181) (by decide +kernel), List.mem_of_getElem? (i := 1182) (by decide +kernel)⟩
theorem lw_p54 : lw_okq (⟨"SunRopesModel", "firstLurch", "(I)I"⟩, 39) := ⟨⟨by decide +kernel, by decide +kernel⟩, List.mem_of_getElem? (i := 842) (by decide +kernel), List.mem_of_getElem? (i := 1189) (by decide +kernel), List.mem_of_getElem? (i := 1190) (by decide +kernel)⟩
theorem lw_p55 : lw_okq (⟨"SunRopesModel", "codes", "(I)I"⟩, 39) := ⟨⟨by decide +kernel, by decide +kernel⟩, List.mem_of_getElem? (i := 842) (by decide +kernel), List.mem_of_getElem? (i := 1197) (by decide +kernel), List.mem_of_getElem? (i := 1198) (by decide +kernel)⟩
theorem lw_p56 : lw_okq (⟨"SunRopesModel", "goPlan", "(II)Z"⟩, 39) := ⟨⟨by decide +kernel, by decide +kernel⟩, List.mem_of_getElem? (i := 842) (by decide +kernel), List.mem_of_getElem? (i := 1201) (by decide +kernel), List.mem_of_getElem? (i := 1202) (by decide +kernel)⟩
theorem lw_p57 : lw_okq (⟨"SunRopesModel", "setOf", "(III)I"⟩, 39) := ⟨⟨by decide +kernel, by decide +kernel⟩, List.mem_of_getElem? (i := 842) (by decide +kernel), List.mem_of_getElem? (i := 1205) (by decide +kernel), List.mem_of_getElem? (i := 1206) (by decide +kernel)⟩
theorem lw_p58 : lw_okq (⟨"SunRopesModel", "layPlan", "(III)V"⟩, 39) := ⟨⟨by decide +kernel, by decide +kernel⟩, List.mem_of_getElem? (i := 842) (by decide +kernel), List.mem_of_getElem? (i := 1209) (by decide +kernel), List.mem_of_getElem? (i := 1210) (by decide +kernel)⟩
theorem lw_p59 : lw_okq (⟨"SunRopesModel", "hoursTillDown", "(I)I"⟩, 39) := ⟨⟨by decide +kernel, by decide +kernel⟩, List.mem_of_getElem? (i := 842) (by decide +kernel), List.mem_of_getElem? (i := 1223) (by decide +kernel), List.mem_of_getElem? (i := 1224) (by decide +kernel)⟩
theorem lw_p60 : lw_okq (⟨"SunRopesModel", "jumpsBy", "(III)I"⟩, 39) := ⟨⟨by decide +kernel, by decide +kernel⟩, List.mem_of_getElem? (i := 842) (by decide +kernel), List.mem_of_getElem? (i := 1239) (by decide +kernel), List.mem_of_getElem? (i := 1240) (by decide +kernel)⟩
theorem lw_p61 : lw_okq (⟨"SunRopesModel", "findGains", "()V"⟩, 39) := ⟨⟨by decide +kernel, by decide +kernel⟩, List.mem_of_getElem? (i := 842) (by decide +kernel), List.mem_of_getElem? (i := 1247) (by decide +kernel), List.mem_of_getElem? (i := 1248) (by decide +kernel)⟩
theorem lw_p62 : lw_okq (⟨"SunRopesModel", "votersFor", "(II)I"⟩, 39) := ⟨⟨by decide +kernel, by decide +kernel⟩, List.mem_of_getElem? (i := 842) (by decide +kernel), List.mem_of_getElem? (i := 1251) (by decide +kernel), List.mem_of_getElem? (i := 1252) (by decide +kernel)⟩
theorem lw_p63 : lw_okq (⟨"SunRopesModel", "mostOf", "(I)I"⟩, 39) := ⟨⟨by decide +kernel, by decide +kernel⟩, List.mem_of_getElem? (i := 842) (by decide +kernel), List.mem_of_getElem? (i := 1263) (by decide +kernel), List.mem_of_getElem? (i := 1264) (by decide +kernel)⟩
def lw_privs_4 : List (MethodName × Nat) := [(⟨"SunRopesModel", "tire", "(IZ)V"⟩, 39), (⟨"SunRopesModel", "rest", "(I)V"⟩, 39), (⟨"SunRopesModel", "planRefused", "(I)I"⟩, 39), (⟨"SunRopesModel", "save", "()V"⟩, 39), (⟨"SunRopesModel", "gainsNow", "()I"⟩, 39), (⟨"SunRopesModel", "putBack", "()V"⟩, 39), (⟨"SunRopesModel", "firstLurch", "(I)I"⟩, 39), (⟨"SunRopesModel", "codes", "(I)I"⟩, 39), (⟨"SunRopesModel", "goPlan", "(II)Z"⟩, 39), (⟨"SunRopesModel", "setOf", "(III)I"⟩, 39), (⟨"SunRopesModel", "layPlan", "(III)V"⟩, 39), (⟨"SunRopesModel", "hoursTillDown", "(I)I"⟩, 39), (⟨"SunRopesModel", "jumpsBy", "(III)I"⟩, 39), (⟨"SunRopesModel", "findGains", "()V"⟩, 39), (⟨"SunRopesModel", "votersFor", "(II)I"⟩, 39), (⟨"SunRopesModel", "mostOf", "(I)I"⟩, 39)]
theorem lw_r4 : ∀ q ∈ lw_privs_4, lw_okq q := List.forall_mem_cons.mpr ⟨lw_p48, List.forall_mem_cons.mpr ⟨lw_p49, List.forall_mem_cons.mpr ⟨lw_p50, List.forall_mem_cons.mpr ⟨lw_p51, List.forall_mem_cons.mpr ⟨lw_p52, List.forall_mem_cons.mpr ⟨lw_p53, List.forall_mem_cons.mpr ⟨lw_p54, List.forall_mem_cons.mpr ⟨lw_p55, List.forall_mem_cons.mpr ⟨lw_p56, List.forall_mem_cons.mpr ⟨lw_p57, List.forall_mem_cons.mpr ⟨lw_p58, List.forall_mem_cons.mpr ⟨lw_p59, List.forall_mem_cons.mpr ⟨lw_p60, List.forall_mem_cons.mpr ⟨lw_p61, List.forall_mem_cons.mpr ⟨lw_p62, List.forall_mem_cons.mpr ⟨lw_p63, fun _ h => absurd h List.not_mem_nil⟩⟩⟩⟩⟩⟩⟩⟩⟩⟩⟩⟩⟩⟩⟩⟩
theorem lw_p64 : lw_okq (⟨"SunRopesModel", "seenRefused", "(I)I"⟩, 39) := ⟨⟨by decide +kernel, by decide +kernel⟩, List.mem_of_getElem? (i := 842) (by decide +kernel), List.mem_of_getElem? (i := 1271) (by decide +kernel), List.mem_of_getElem? (i := 1272) (by decide +kernel)⟩
theorem lw_p65 : lw_okq (⟨"SunRopesModel", "isSo", "(III)Z"⟩, 39) := ⟨⟨by decide +kernel, by decide +kernel⟩, List.mem_of_getElem? (i := 842) (by decide +kernel), List.mem_of_getElem? (i := 1275) (by decide +kernel), List.mem_of_getElem? (i := 1276) (by decide +kernel)⟩
theorem lw_p66 : lw_okq (⟨"SunRopesModel", "tellOdds", "(JJ)V"⟩, 39) := ⟨⟨by decide +kernel, by decide +kernel⟩, List.mem_of_getElem? (i := 842) (by decide +kernel), List.mem_of_getElem? (i := 1288) (by decide +kernel), List.mem_of_getElem? (i := 1289) (by decide +kernel)⟩
theorem lw_p67 : lw_okq (⟨"SunRopesModel", "pullers", "()I"⟩, 39) := ⟨⟨by decide +kernel, by decide +kernel⟩, List.mem_of_getElem? (i := 842) (by decide +kernel), List.mem_of_getElem? (i := 1317) (by decide +kernel), List.mem_of_getElem? (i := 1318) (by decide +kernel)⟩
theorem lw_p68 : lw_okq (⟨"SunRopesModel", "strongOnes", "()I"⟩, 39) := ⟨⟨by decide +kernel, by decide +kernel⟩, List.mem_of_getElem? (i := 842) (by decide +kernel), List.mem_of_getElem? (i := 1321) (by decide +kernel), List.mem_of_getElem? (i := 1322) (by decide +kernel)⟩
def lw_privs_5 : List (MethodName × Nat) := [(⟨"SunRopesModel", "seenRefused", "(I)I"⟩, 39), (⟨"SunRopesModel", "isSo", "(III)Z"⟩, 39), (⟨"SunRopesModel", "tellOdds", "(JJ)V"⟩, 39), (⟨"SunRopesModel", "pullers", "()I"⟩, 39), (⟨"SunRopesModel", "strongOnes", "()I"⟩, 39)]
theorem lw_r5 : ∀ q ∈ lw_privs_5, lw_okq q := List.forall_mem_cons.mpr ⟨lw_p64, List.forall_mem_cons.mpr ⟨lw_p65, List.forall_mem_cons.mpr ⟨lw_p66, List.forall_mem_cons.mpr ⟨lw_p67, List.forall_mem_cons.mpr ⟨lw_p68, fun _ h => absurd h List.not_mem_nil⟩⟩⟩⟩⟩
def lw_privs : List (MethodName × Nat) := lw_privs_1 ++ (lw_privs_2 ++ (lw_privs_3 ++ (lw_privs_4 ++ (lw_privs_5))))
def lw_tbl : List Cond := k2_sels lw_privs ++ tables_1
theorem lw_privs_ok : ∀ q ∈ lw_privs, lw_okq q := by
  show ∀ q ∈ lw_privs_1 ++ (lw_privs_2 ++ (lw_privs_3 ++ (lw_privs_4 ++ (lw_privs_5)))), lw_okq q
  exact List.forall_mem_append.mpr ⟨lw_r1, List.forall_mem_append.mpr ⟨lw_r2, List.forall_mem_append.mpr ⟨lw_r3, List.forall_mem_append.mpr ⟨lw_r4, lw_r5⟩⟩⟩⟩
end
section
def RX0 : String := "SunRopes$Council"
def TX0 : u_T := fun k => match k with
  | 0 => ("SunRopes$Council", "day", "LSunRopes$Day;", true)
  | _ => ("SunRopes$Council", "gains", "[I", true)
def tyX0 : Nat → FieldType := fun k => match k with
  | 0 => .object "SunRopes$Day"
  | _ => .array .int
abbrev wsX00 : List Cond := u_ws RX0 TX0 2
theorem nmX0 : ∀ a, a < 2 → ∀ b, b < 2 → a ≠ b → (TX0 a).2.1 ≠ (TX0 b).2.1 := by decide +kernel
theorem tyX0_ok : ∀ k, k < 2 → parseFieldDescriptor (TX0 k).2.2.1 = some (tyX0 k) := by decide +kernel
abbrev cX0_init : ByteArray := prog_2_method_1_code
def yX0_init : MethodName := ⟨RX0, "<init>", "()V"⟩
abbrev cX0_weigh : ByteArray := prog_2_method_2_code
def yX0_weigh : MethodName := ⟨RX0, "weigh", "(LSunRopes$Year;LSunRopes$Day;)V"⟩
abbrev cX0_votersFor : ByteArray := prog_2_method_3_code
def yX0_votersFor : MethodName := ⟨RX0, "votersFor", "(LSunRopes$Year;II)I"⟩
abbrev cX0_firstUnbeaten : ByteArray := prog_2_method_4_code
def yX0_firstUnbeaten : MethodName := ⟨RX0, "firstUnbeaten", "(LSunRopes$Year;)I"⟩
abbrev cX0_isBeaten : ByteArray := prog_2_method_5_code
def yX0_isBeaten : MethodName := ⟨RX0, "isBeaten", "(LSunRopes$Year;I)Z"⟩
abbrev cX0_firstLeaving : ByteArray := prog_2_method_6_code
def yX0_firstLeaving : MethodName := ⟨RX0, "firstLeaving", "(LSunRopes$Year;LSunRopes$Row;)I"⟩
abbrev cX0_mostOf : ByteArray := prog_2_method_7_code
def yX0_mostOf : MethodName := ⟨RX0, "mostOf", "(LSunRopes$Year;I)I"⟩
def RX1 : String := "SunRopes$Day"
def TX1 : u_T := fun k => match k with
  | 0 => ("SunRopes$Day", "facts", "[I", true)
  | 1 => ("SunRopes$Day", "able", "I", false)
  | 2 => ("SunRopes$Day", "frail", "I", false)
  | 3 => ("SunRopes$Day", "pulled", "I", false)
  | _ => ("SunRopes$Day", "lurched", "I", false)
def tyX1 : Nat → FieldType := fun k => match k with
  | 0 => .array .int
  | 1 => .int
  | 2 => .int
  | 3 => .int
  | _ => .int
abbrev wsX10 : List Cond := u_ws RX1 TX1 5
theorem nmX1 : ∀ a, a < 5 → ∀ b, b < 5 → a ≠ b → (TX1 a).2.1 ≠ (TX1 b).2.1 := by decide +kernel
theorem tyX1_ok : ∀ k, k < 5 → parseFieldDescriptor (TX1 k).2.2.1 = some (tyX1 k) := by decide +kernel
abbrev cX1_init : ByteArray := prog_3_method_1_code
def yX1_init : MethodName := ⟨RX1, "<init>", "()V"⟩
abbrev cX1_begin : ByteArray := prog_3_method_2_code
def yX1_begin : MethodName := ⟨RX1, "begin", "(LSunRopes$Reader;)V"⟩
abbrev cX1_take : ByteArray := prog_3_method_3_code
def yX1_take : MethodName := ⟨RX1, "take", "(LSunRopes$Day;)V"⟩
abbrev cX1_isDown : ByteArray := prog_3_method_4_code
def yX1_isDown : MethodName := ⟨RX1, "isDown", "()Z"⟩
abbrev cX1_isAtEvenPlace : ByteArray := prog_3_method_5_code
def yX1_isAtEvenPlace : MethodName := ⟨RX1, "isAtEvenPlace", "()Z"⟩
abbrev cX1_look : ByteArray := prog_3_method_6_code
def yX1_look : MethodName := ⟨RX1, "look", "(LSunRopes$Year;)V"⟩
abbrev cX1_minuteBehind : ByteArray := prog_3_method_7_code
def yX1_minuteBehind : MethodName := ⟨RX1, "minuteBehind", "(LSunRopes$Year;I)I"⟩
abbrev cX1_collect : ByteArray := prog_3_method_8_code
def yX1_collect : MethodName := ⟨RX1, "collect", "(LSunRopes$Year;)V"⟩
abbrev cX1_goOn : ByteArray := prog_3_method_9_code
def yX1_goOn : MethodName := ⟨RX1, "goOn", "(LSunRopes$Year;I)I"⟩
abbrev cX1_wearAndRest : ByteArray := prog_3_method_10_code
def yX1_wearAndRest : MethodName := ⟨RX1, "wearAndRest", "(LSunRopes$Year;)V"⟩
def RX2 : String := "SunRopes$Diary"
def TX2 : u_T := fun k => match k with
  | 0 => ("SunRopes$Diary", "past", "[I", true)
  | 1 => ("SunRopes$Diary", "worths", "[I", true)
  | _ => ("SunRopes$Diary", "size", "I", false)
def tyX2 : Nat → FieldType := fun k => match k with
  | 0 => .array .int
  | 1 => .array .int
  | _ => .int
abbrev wsX20 : List Cond := u_ws RX2 TX2 3
theorem nmX2 : ∀ a, a < 3 → ∀ b, b < 3 → a ≠ b → (TX2 a).2.1 ≠ (TX2 b).2.1 := by decide +kernel
theorem tyX2_ok : ∀ k, k < 3 → parseFieldDescriptor (TX2 k).2.2.1 = some (tyX2 k) := by decide +kernel
abbrev cX2_init : ByteArray := prog_4_method_1_code
def yX2_init : MethodName := ⟨RX2, "<init>", "()V"⟩
abbrev cX2_writeLast : ByteArray := prog_4_method_2_code
def yX2_writeLast : MethodName := ⟨RX2, "writeLast", "(LSunRopes$Day;)V"⟩
abbrev cX2_write : ByteArray := prog_4_method_3_code
def yX2_write : MethodName := ⟨RX2, "write", "(LSunRopes$Day;)V"⟩
abbrev cX2_goBack : ByteArray := prog_4_method_4_code
def yX2_goBack : MethodName := ⟨RX2, "goBack", "(ILSunRopes$Day;)V"⟩
abbrev cX2_take : ByteArray := prog_4_method_5_code
def yX2_take : MethodName := ⟨RX2, "take", "(LSunRopes$Diary;)V"⟩
def RX3 : String := "SunRopes$Plans"
def TX3 : u_T := fun k => match k with
  | 0 => ("SunRopes$Plans", "day", "LSunRopes$Day;", true)
  | _ => ("SunRopes$Plans", "tells", "I", false)
def tyX3 : Nat → FieldType := fun k => match k with
  | 0 => .object "SunRopes$Day"
  | _ => .int
abbrev wsX30 : List Cond := u_ws RX3 TX3 2
theorem nmX3 : ∀ a, a < 2 → ∀ b, b < 2 → a ≠ b → (TX3 a).2.1 ≠ (TX3 b).2.1 := by decide +kernel
theorem tyX3_ok : ∀ k, k < 2 → parseFieldDescriptor (TX3 k).2.2.1 = some (tyX3 k) := by decide +kernel
abbrev cX3_init : ByteArray := prog_5_method_1_code
def yX3_init : MethodName := ⟨RX3, "<init>", "()V"⟩
abbrev cX3_gainOf : ByteArray := prog_5_method_2_code
def yX3_gainOf : MethodName := ⟨RX3, "gainOf", "(LSunRopes$Year;LSunRopes$Day;LSunRopes$Row;)I"⟩
abbrev cX3_firstLurch : ByteArray := prog_5_method_3_code
def yX3_firstLurch : MethodName := ⟨RX3, "firstLurch", "(LSunRopes$Year;LSunRopes$Day;LSunRopes$Row;I)I"⟩
abbrev cX3_fewestRopes : ByteArray := prog_5_method_4_code
def yX3_fewestRopes : MethodName := ⟨RX3, "fewestRopes", "(LSunRopes$Year;LSunRopes$Day;LSunRopes$Row;)I"⟩
abbrev cX3_hoursTillDown : ByteArray := prog_5_method_5_code
def yX3_hoursTillDown : MethodName := ⟨RX3, "hoursTillDown", "(LSunRopes$Year;LSunRopes$Day;I)I"⟩
def RX4 : String := "SunRopes$Reader"
def TX4 : u_T := fun k => match k with
  | 0 => ("SunRopes$Reader", "ofCapes", "[I", true)
  | 1 => ("SunRopes$Reader", "ofValleys", "[I", true)
  | 2 => ("SunRopes$Reader", "capes", "I", false)
  | _ => ("SunRopes$Reader", "valleys", "I", false)
def tyX4 : Nat → FieldType := fun k => match k with
  | 0 => .array .int
  | 1 => .array .int
  | 2 => .int
  | _ => .int
abbrev wsX40 : List Cond := u_ws RX4 TX4 4
theorem nmX4 : ∀ a, a < 4 → ∀ b, b < 4 → a ≠ b → (TX4 a).2.1 ≠ (TX4 b).2.1 := by decide +kernel
theorem tyX4_ok : ∀ k, k < 4 → parseFieldDescriptor (TX4 k).2.2.1 = some (tyX4 k) := by decide +kernel
abbrev cX4_init : ByteArray := prog_6_method_1_code
def yX4_init : MethodName := ⟨RX4, "<init>", "()V"⟩
abbrev cX4_faultIn : ByteArray := prog_6_method_2_code
def yX4_faultIn : MethodName := ⟨RX4, "faultIn", "(LSunRopes$Text;)I"⟩
abbrev cX4_faultInCape : ByteArray := prog_6_method_3_code
def yX4_faultInCape : MethodName := ⟨RX4, "faultInCape", "(LSunRopes$Text;I)I"⟩
abbrev cX4_faultInValley : ByteArray := prog_6_method_4_code
def yX4_faultInValley : MethodName := ⟨RX4, "faultInValley", "(LSunRopes$Text;I)I"⟩
abbrev cX4_leastFigure : ByteArray := prog_6_method_5_code
def yX4_leastFigure : MethodName := ⟨RX4, "leastFigure", "(II)I"⟩
abbrev cX4_figureAt : ByteArray := prog_6_method_6_code
def yX4_figureAt : MethodName := ⟨RX4, "figureAt", "(LSunRopes$Text;I)I"⟩
abbrev cX4_kindOf : ByteArray := prog_6_method_7_code
def yX4_kindOf : MethodName := ⟨RX4, "kindOf", "(I)I"⟩
def RX5 : String := "SunRopes$Row"
def TX5 : u_T := fun k => match k with
  | 0 => ("SunRopes$Row", "places", "[I", true)
  | _ => ("SunRopes$Row", "size", "I", false)
def tyX5 : Nat → FieldType := fun k => match k with
  | 0 => .array .int
  | _ => .int
abbrev wsX50 : List Cond := u_ws RX5 TX5 2
theorem nmX5 : ∀ a, a < 2 → ∀ b, b < 2 → a ≠ b → (TX5 a).2.1 ≠ (TX5 b).2.1 := by decide +kernel
theorem tyX5_ok : ∀ k, k < 2 → parseFieldDescriptor (TX5 k).2.2.1 = some (tyX5 k) := by decide +kernel
abbrev cX5_init : ByteArray := prog_7_method_1_code
def yX5_init : MethodName := ⟨RX5, "<init>", "()V"⟩
abbrev cX5_isThere : ByteArray := prog_7_method_2_code
def yX5_isThere : MethodName := ⟨RX5, "isThere", "()Z"⟩
abbrev cX5_hasMany : ByteArray := prog_7_method_3_code
def yX5_hasMany : MethodName := ⟨RX5, "hasMany", "(II)Z"⟩
abbrev cX5_begin : ByteArray := prog_7_method_4_code
def yX5_begin : MethodName := ⟨RX5, "begin", "(I)V"⟩
abbrev cX5_take : ByteArray := prog_7_method_5_code
def yX5_take : MethodName := ⟨RX5, "take", "([II)V"⟩
abbrev cX5_sum : ByteArray := prog_7_method_6_code
def yX5_sum : MethodName := ⟨RX5, "sum", "()J"⟩
abbrev cX5_digestFrom : ByteArray := prog_7_method_7_code
def yX5_digestFrom : MethodName := ⟨RX5, "digestFrom", "(J)J"⟩
def RX6 : String := "SunRopes$Search"
def TX6 : u_T := fun k => match k with
  | 0 => ("SunRopes$Search", "days", "[LSunRopes$Day;", true)
  | 1 => ("SunRopes$Search", "plan", "[I", true)
  | 2 => ("SunRopes$Search", "first", "[I", true)
  | 3 => ("SunRopes$Search", "hours", "I", false)
  | 4 => ("SunRopes$Search", "reached", "I", false)
  | 5 => ("SunRopes$Search", "goal", "I", false)
  | 6 => ("SunRopes$Search", "ways", "I", false)
  | _ => ("SunRopes$Search", "slips", "I", false)
def tyX6 : Nat → FieldType := fun k => match k with
  | 0 => .array (.object "SunRopes$Day")
  | 1 => .array .int
  | 2 => .array .int
  | 3 => .int
  | 4 => .int
  | 5 => .int
  | 6 => .int
  | _ => .int
abbrev wsX60 : List Cond := u_ws RX6 TX6 8
theorem nmX6 : ∀ a, a < 8 → ∀ b, b < 8 → a ≠ b → (TX6 a).2.1 ≠ (TX6 b).2.1 := by decide +kernel
theorem tyX6_ok : ∀ k, k < 8 → parseFieldDescriptor (TX6 k).2.2.1 = some (tyX6 k) := by decide +kernel
abbrev cX6_init : ByteArray := prog_8_method_1_code
def yX6_init : MethodName := ⟨RX6, "<init>", "()V"⟩
abbrev cX6_mostGain : ByteArray := prog_8_method_2_code
def yX6_mostGain : MethodName := ⟨RX6, "mostGain", "(LSunRopes$Year;LSunRopes$Day;I)I"⟩
abbrev cX6_seekMost : ByteArray := prog_8_method_3_code
def yX6_seekMost : MethodName := ⟨RX6, "seekMost", "(LSunRopes$Year;II)V"⟩
abbrev cX6_leastMinute : ByteArray := prog_8_method_4_code
def yX6_leastMinute : MethodName := ⟨RX6, "leastMinute", "(LSunRopes$Year;LSunRopes$Day;I)I"⟩
abbrev cX6_seekSlowest : ByteArray := prog_8_method_5_code
def yX6_seekSlowest : MethodName := ⟨RX6, "seekSlowest", "(LSunRopes$Year;II)V"⟩
abbrev cX6_waysThatFit : ByteArray := prog_8_method_6_code
def yX6_waysThatFit : MethodName := ⟨RX6, "waysThatFit", "(LSunRopes$Year;LSunRopes$Day;ILSunRopes$Row;)I"⟩
abbrev cX6_seekFitting : ByteArray := prog_8_method_7_code
def yX6_seekFitting : MethodName := ⟨RX6, "seekFitting", "(LSunRopes$Year;IIILSunRopes$Row;)V"⟩
abbrev cX6_waysTo : ByteArray := prog_8_method_8_code
def yX6_waysTo : MethodName := ⟨RX6, "waysTo", "(LSunRopes$Year;LSunRopes$Day;III)I"⟩
abbrev cX6_waysFrom : ByteArray := prog_8_method_9_code
def yX6_waysFrom : MethodName := ⟨RX6, "waysFrom", "(LSunRopes$Year;III)I"⟩
abbrev cX6_begin : ByteArray := prog_8_method_10_code
def yX6_begin : MethodName := ⟨RX6, "begin", "(LSunRopes$Day;I)V"⟩
abbrev cX6_step : ByteArray := prog_8_method_11_code
def yX6_step : MethodName := ⟨RX6, "step", "(LSunRopes$Year;II)V"⟩
abbrev cX6_setFirst : ByteArray := prog_8_method_12_code
def yX6_setFirst : MethodName := ⟨RX6, "setFirst", "(I)V"⟩
def RX7 : String := "SunRopes$Text"
def TX7 : u_T := fun k => match k with
  | 0 => ("SunRopes$Text", "bytes", "[B", true)
  | _ => ("SunRopes$Text", "size", "I", false)
def tyX7 : Nat → FieldType := fun k => match k with
  | 0 => .array .byte
  | _ => .int
abbrev wsX70 : List Cond := u_ws RX7 TX7 2
theorem nmX7 : ∀ a, a < 2 → ∀ b, b < 2 → a ≠ b → (TX7 a).2.1 ≠ (TX7 b).2.1 := by decide +kernel
theorem tyX7_ok : ∀ k, k < 2 → parseFieldDescriptor (TX7 k).2.2.1 = some (tyX7 k) := by decide +kernel
abbrev cX7_init : ByteArray := prog_9_method_1_code
def yX7_init : MethodName := ⟨RX7, "<init>", "()V"⟩
abbrev cX7_isThere : ByteArray := prog_9_method_2_code
def yX7_isThere : MethodName := ⟨RX7, "isThere", "()Z"⟩
abbrev cX7_begin : ByteArray := prog_9_method_3_code
def yX7_begin : MethodName := ⟨RX7, "begin", "(I)V"⟩
abbrev cX7_digestFrom : ByteArray := prog_9_method_4_code
def yX7_digestFrom : MethodName := ⟨RX7, "digestFrom", "(J)J"⟩
def RX8 : String := "SunRopes$Year"
def TX8 : u_T := fun k => match k with
  | 0 => ("SunRopes$Year", "kinds", "[I", true)
  | 1 => ("SunRopes$Year", "ofKind", "[I", true)
  | 2 => ("SunRopes$Year", "lights", "[I", true)
  | 3 => ("SunRopes$Year", "from", "[I", true)
  | 4 => ("SunRopes$Year", "to", "[I", true)
  | 5 => ("SunRopes$Year", "worths", "[I", true)
  | 6 => ("SunRopes$Year", "capes", "I", false)
  | _ => ("SunRopes$Year", "valleys", "I", false)
def tyX8 : Nat → FieldType := fun k => match k with
  | 0 => .array .int
  | 1 => .array .int
  | 2 => .array .int
  | 3 => .array .int
  | 4 => .array .int
  | 5 => .array .int
  | 6 => .int
  | _ => .int
abbrev wsX80 : List Cond := u_ws RX8 TX8 8
theorem nmX8 : ∀ a, a < 8 → ∀ b, b < 8 → a ≠ b → (TX8 a).2.1 ≠ (TX8 b).2.1 := by decide +kernel
theorem tyX8_ok : ∀ k, k < 8 → parseFieldDescriptor (TX8 k).2.2.1 = some (tyX8 k) := by decide +kernel
abbrev cX8_init : ByteArray := prog_10_method_1_code
def yX8_init : MethodName := ⟨RX8, "<init>", "()V"⟩
abbrev cX8_begin : ByteArray := prog_10_method_2_code
def yX8_begin : MethodName := ⟨RX8, "begin", "(LSunRopes$Reader;)V"⟩
abbrev cX8_hasCape : ByteArray := prog_10_method_3_code
def yX8_hasCape : MethodName := ⟨RX8, "hasCape", "(I)Z"⟩
abbrev cX8_hasValley : ByteArray := prog_10_method_4_code
def yX8_hasValley : MethodName := ⟨RX8, "hasValley", "(I)Z"⟩
abbrev cX8_allCapes : ByteArray := prog_10_method_5_code
def yX8_allCapes : MethodName := ⟨RX8, "allCapes", "()I"⟩
abbrev cX8_hasSet : ByteArray := prog_10_method_6_code
def yX8_hasSet : MethodName := ⟨RX8, "hasSet", "(I)Z"⟩
abbrev cX8_pullOf : ByteArray := prog_10_method_7_code
def yX8_pullOf : MethodName := ⟨RX8, "pullOf", "(I)I"⟩
abbrev cX8_gainOf : ByteArray := prog_10_method_8_code
def yX8_gainOf : MethodName := ⟨RX8, "gainOf", "(II)I"⟩
abbrev cX8_gainOfAll : ByteArray := prog_10_method_9_code
def yX8_gainOfAll : MethodName := ⟨RX8, "gainOfAll", "(I)I"⟩
def RX9 : String := "SunRopes"
def TX9 : u_T := fun k => match k with
  | 0 => ("SunRopes", "rows", "[LSunRopes$Row;", true)
  | 1 => ("SunRopes", "texts", "[LSunRopes$Text;", true)
  | 2 => ("SunRopes", "reader", "LSunRopes$Reader;", true)
  | 3 => ("SunRopes", "year", "LSunRopes$Year;", true)
  | 4 => ("SunRopes", "now", "LSunRopes$Day;", true)
  | 5 => ("SunRopes", "diary", "LSunRopes$Diary;", true)
  | 6 => ("SunRopes", "kept", "[LSunRopes$Diary;", true)
  | 7 => ("SunRopes", "plans", "LSunRopes$Plans;", true)
  | 8 => ("SunRopes", "search", "LSunRopes$Search;", true)
  | 9 => ("SunRopes", "council", "LSunRopes$Council;", true)
  | 10 => ("SunRopes", "order", "[I", true)
  | 11 => ("SunRopes", "findingCounts", "[I", true)
  | 12 => ("SunRopes", "latestFinding", "I", false)
  | 13 => ("SunRopes", "told", "I", false)
  | 14 => ("SunRopes", "chanceUpper", "J", false)
  | _ => ("SunRopes", "chanceLower", "J", false)
def tyX9 : Nat → FieldType := fun k => match k with
  | 0 => .array (.object "SunRopes$Row")
  | 1 => .array (.object "SunRopes$Text")
  | 2 => .object "SunRopes$Reader"
  | 3 => .object "SunRopes$Year"
  | 4 => .object "SunRopes$Day"
  | 5 => .object "SunRopes$Diary"
  | 6 => .array (.object "SunRopes$Diary")
  | 7 => .object "SunRopes$Plans"
  | 8 => .object "SunRopes$Search"
  | 9 => .object "SunRopes$Council"
  | 10 => .array .int
  | 11 => .array .int
  | 12 => .int
  | 13 => .int
  | 14 => .long
  | _ => .long
abbrev wsX90 : List Cond := u_ws RX9 TX9 16
theorem nmX9 : ∀ a, a < 16 → ∀ b, b < 16 → a ≠ b → (TX9 a).2.1 ≠ (TX9 b).2.1 := by decide +kernel
theorem tyX9_ok : ∀ k, k < 16 → parseFieldDescriptor (TX9 k).2.2.1 = some (tyX9 k) := by decide +kernel
abbrev cX9_init : ByteArray := prog_1_method_1_code
def yX9_init : MethodName := ⟨RX9, "<init>", "()V"⟩
abbrev cX9_row : ByteArray := prog_1_method_2_code
def yX9_row : MethodName := ⟨RX9, "row", "(II)I"⟩
abbrev cX9_lay : ByteArray := prog_1_method_3_code
def yX9_lay : MethodName := ⟨RX9, "lay", "(III)I"⟩
abbrev cX9_at : ByteArray := prog_1_method_4_code
def yX9_at : MethodName := ⟨RX9, "at", "(II)I"⟩
abbrev cX9_tear : ByteArray := prog_1_method_5_code
def yX9_tear : MethodName := ⟨RX9, "tear", "(I)I"⟩
abbrev cX9_copy : ByteArray := prog_1_method_6_code
def yX9_copy : MethodName := ⟨RX9, "copy", "(IIIII)I"⟩
abbrev cX9_mean : ByteArray := prog_1_method_7_code
def yX9_mean : MethodName := ⟨RX9, "mean", "(I)I"⟩
abbrev cX9_text : ByteArray := prog_1_method_8_code
def yX9_text : MethodName := ⟨RX9, "text", "(II)I"⟩
abbrev cX9_put : ByteArray := prog_1_method_9_code
def yX9_put : MethodName := ⟨RX9, "put", "(III)I"⟩
abbrev cX9_fault : ByteArray := prog_1_method_10_code
def yX9_fault : MethodName := ⟨RX9, "fault", "(I)I"⟩
abbrev cX9_year : ByteArray := prog_1_method_11_code
def yX9_year : MethodName := ⟨RX9, "year", "(I)I"⟩
abbrev cX9_cape : ByteArray := prog_1_method_12_code
def yX9_cape : MethodName := ⟨RX9, "cape", "(II)I"⟩
abbrev cX9_valley : ByteArray := prog_1_method_13_code
def yX9_valley : MethodName := ⟨RX9, "valley", "(II)I"⟩
abbrev cX9_mark : ByteArray := prog_1_method_14_code
def yX9_mark : MethodName := ⟨RX9, "mark", "(II)I"⟩
abbrev cX9_price : ByteArray := prog_1_method_15_code
def yX9_price : MethodName := ⟨RX9, "price", "(II)I"⟩
abbrev cX9_hold : ByteArray := prog_1_method_16_code
def yX9_hold : MethodName := ⟨RX9, "hold", "(I)I"⟩
abbrev cX9_rope : ByteArray := prog_1_method_17_code
def yX9_rope : MethodName := ⟨RX9, "rope", "(II)I"⟩
abbrev cX9_rise : ByteArray := prog_1_method_18_code
def yX9_rise : MethodName := ⟨RX9, "rise", "()I"⟩
abbrev cX9_undo : ByteArray := prog_1_method_19_code
def yX9_undo : MethodName := ⟨RX9, "undo", "(I)I"⟩
abbrev cX9_sun : ByteArray := prog_1_method_20_code
def yX9_sun : MethodName := ⟨RX9, "sun", "()I"⟩
abbrev cX9_gained : ByteArray := prog_1_method_21_code
def yX9_gained : MethodName := ⟨RX9, "gained", "()I"⟩
abbrev cX9_keep : ByteArray := prog_1_method_22_code
def yX9_keep : MethodName := ⟨RX9, "keep", "(I)I"⟩
abbrev cX9_on : ByteArray := prog_1_method_23_code
def yX9_on : MethodName := ⟨RX9, "on", "(I)I"⟩
abbrev cX9_run : ByteArray := prog_1_method_24_code
def yX9_run : MethodName := ⟨RX9, "run", "(I)I"⟩
abbrev cX9_burns : ByteArray := prog_1_method_25_code
def yX9_burns : MethodName := ⟨RX9, "burns", "(I)I"⟩
abbrev cX9_best : ByteArray := prog_1_method_26_code
def yX9_best : MethodName := ⟨RX9, "best", "(II)I"⟩
abbrev cX9_slowest : ByteArray := prog_1_method_27_code
def yX9_slowest : MethodName := ⟨RX9, "slowest", "(II)I"⟩
abbrev cX9_down : ByteArray := prog_1_method_28_code
def yX9_down : MethodName := ⟨RX9, "down", "(I)I"⟩
abbrev cX9_longest : ByteArray := prog_1_method_29_code
def yX9_longest : MethodName := ⟨RX9, "longest", "()I"⟩
abbrev cX9_ropes : ByteArray := prog_1_method_30_code
def yX9_ropes : MethodName := ⟨RX9, "ropes", "(I)I"⟩
abbrev cX9_loose : ByteArray := prog_1_method_31_code
def yX9_loose : MethodName := ⟨RX9, "loose", "(II)I"⟩
abbrev cX9_votes : ByteArray := prog_1_method_32_code
def yX9_votes : MethodName := ⟨RX9, "votes", "(II)I"⟩
abbrev cX9_choice : ByteArray := prog_1_method_33_code
def yX9_choice : MethodName := ⟨RX9, "choice", "()I"⟩
abbrev cX9_parts : ByteArray := prog_1_method_34_code
def yX9_parts : MethodName := ⟨RX9, "parts", "(I)I"⟩
abbrev cX9_fits : ByteArray := prog_1_method_35_code
def yX9_fits : MethodName := ⟨RX9, "fits", "(III)I"⟩
abbrev cX9_slipped : ByteArray := prog_1_method_36_code
def yX9_slipped : MethodName := ⟨RX9, "slipped", "(II)I"⟩
abbrev cX9_odds : ByteArray := prog_1_method_37_code
def yX9_odds : MethodName := ⟨RX9, "odds", "(III)I"⟩
abbrev cX9_lots : ByteArray := prog_1_method_38_code
def yX9_lots : MethodName := ⟨RX9, "lots", "(II)I"⟩
abbrev cX9_asked : ByteArray := prog_1_method_39_code
def yX9_asked : MethodName := ⟨RX9, "asked", "()I"⟩
abbrev cX9_upper : ByteArray := prog_1_method_40_code
def yX9_upper : MethodName := ⟨RX9, "upper", "()J"⟩
abbrev cX9_lower : ByteArray := prog_1_method_41_code
def yX9_lower : MethodName := ⟨RX9, "lower", "()J"⟩
abbrev cX9_count : ByteArray := prog_1_method_42_code
def yX9_count : MethodName := ⟨RX9, "count", "(I)I"⟩
abbrev cX9_finding : ByteArray := prog_1_method_43_code
def yX9_finding : MethodName := ⟨RX9, "finding", "()I"⟩
abbrev cX9_findings : ByteArray := prog_1_method_44_code
def yX9_findings : MethodName := ⟨RX9, "findings", "(I)I"⟩
abbrev cX9_digest : ByteArray := prog_1_method_45_code
def yX9_digest : MethodName := ⟨RX9, "digest", "()J"⟩
abbrev cX9_isRow : ByteArray := prog_1_method_46_code
def yX9_isRow : MethodName := ⟨RX9, "isRow", "(I)Z"⟩
abbrev cX9_isText : ByteArray := prog_1_method_47_code
def yX9_isText : MethodName := ⟨RX9, "isText", "(I)Z"⟩
abbrev cX9_isKeptPlace : ByteArray := prog_1_method_48_code
def yX9_isKeptPlace : MethodName := ⟨RX9, "isKeptPlace", "(I)Z"⟩
abbrev cX9_found : ByteArray := prog_1_method_49_code
def yX9_found : MethodName := ⟨RX9, "found", "(I)I"⟩
abbrev cX9_placeRefusal : ByteArray := prog_1_method_50_code
def yX9_placeRefusal : MethodName := ⟨RX9, "placeRefusal", "(II)I"⟩
abbrev cX9_rowRefusal : ByteArray := prog_1_method_51_code
def yX9_rowRefusal : MethodName := ⟨RX9, "rowRefusal", "(I)I"⟩
abbrev cX9_planRefusal : ByteArray := prog_1_method_52_code
def yX9_planRefusal : MethodName := ⟨RX9, "planRefusal", "(I)I"⟩
abbrev cX9_minutesRefusal : ByteArray := prog_1_method_53_code
def yX9_minutesRefusal : MethodName := ⟨RX9, "minutesRefusal", "(I)I"⟩
abbrev cX9_trueHour : ByteArray := prog_1_method_54_code
def yX9_trueHour : MethodName := ⟨RX9, "trueHour", "(I)I"⟩
abbrev cX9_factOfCape : ByteArray := prog_1_method_55_code
def yX9_factOfCape : MethodName := ⟨RX9, "factOfCape", "(II)I"⟩
abbrev cX9_factOfValley : ByteArray := prog_1_method_56_code
def yX9_factOfValley : MethodName := ⟨RX9, "factOfValley", "(II)I"⟩
abbrev cX9_markOf : ByteArray := prog_1_method_57_code
def yX9_markOf : MethodName := ⟨RX9, "markOf", "(II)I"⟩
abbrev cX9_countOf : ByteArray := prog_1_method_58_code
def yX9_countOf : MethodName := ⟨RX9, "countOf", "(I)I"⟩
abbrev cX9_rowsThere : ByteArray := prog_1_method_59_code
def yX9_rowsThere : MethodName := ⟨RX9, "rowsThere", "()I"⟩
abbrev cX9_textsThere : ByteArray := prog_1_method_60_code
def yX9_textsThere : MethodName := ⟨RX9, "textsThere", "()I"⟩
abbrev cX9_yearsKept : ByteArray := prog_1_method_61_code
def yX9_yearsKept : MethodName := ⟨RX9, "yearsKept", "()I"⟩
abbrev cX9_orderFrom : ByteArray := prog_1_method_62_code
def yX9_orderFrom : MethodName := ⟨RX9, "orderFrom", "(II)I"⟩
abbrev cX9_tellChance : ByteArray := prog_1_method_63_code
def yX9_tellChance : MethodName := ⟨RX9, "tellChance", "(II)V"⟩
def RX10 : String := "SunRopesModel"
def TX10 : u_T := fun k => match k with
  | 0 => ("SunRopesModel", "capes", "I", false)
  | 1 => ("SunRopesModel", "valleys", "I", false)
  | 2 => ("SunRopesModel", "kind", "[I", true)
  | 3 => ("SunRopesModel", "isLight", "[I", true)
  | 4 => ("SunRopesModel", "from", "[I", true)
  | 5 => ("SunRopesModel", "to", "[I", true)
  | 6 => ("SunRopesModel", "worth", "[I", true)
  | 7 => ("SunRopesModel", "now", "[I", true)
  | 8 => ("SunRopesModel", "deeds", "I", false)
  | 9 => ("SunRopesModel", "past", "[I", true)
  | 10 => ("SunRopesModel", "asked", "I", false)
  | 11 => ("SunRopesModel", "upper", "J", false)
  | 12 => ("SunRopesModel", "lower", "J", false)
  | 13 => ("SunRopesModel", "finding", "I", false)
  | 14 => ("SunRopesModel", "findings", "[I", true)
  | 15 => ("SunRopesModel", "rowSize", "[I", true)
  | 16 => ("SunRopesModel", "rows", "[I", true)
  | 17 => ("SunRopesModel", "textSize", "[I", true)
  | 18 => ("SunRopesModel", "texts", "[I", true)
  | 19 => ("SunRopesModel", "keptDeeds", "[I", true)
  | 20 => ("SunRopesModel", "keptNow", "[I", true)
  | 21 => ("SunRopesModel", "keptPast", "[I", true)
  | 22 => ("SunRopesModel", "keptWorth", "[I", true)
  | 23 => ("SunRopesModel", "copied", "[I", true)
  | 24 => ("SunRopesModel", "textAt", "I", false)
  | 25 => ("SunRopesModel", "faultAt", "I", false)
  | 26 => ("SunRopesModel", "readCapes", "I", false)
  | 27 => ("SunRopesModel", "readValleys", "I", false)
  | 28 => ("SunRopesModel", "readKind", "[I", true)
  | 29 => ("SunRopesModel", "readRope", "[I", true)
  | 30 => ("SunRopesModel", "readCrew", "[I", true)
  | 31 => ("SunRopesModel", "readLight", "[I", true)
  | 32 => ("SunRopesModel", "readFrom", "[I", true)
  | 33 => ("SunRopesModel", "readTo", "[I", true)
  | 34 => ("SunRopesModel", "readWorth", "[I", true)
  | 35 => ("SunRopesModel", "pulledNow", "I", false)
  | 36 => ("SunRopesModel", "lurched", "I", false)
  | 37 => ("SunRopesModel", "was", "[I", true)
  | _ => ("SunRopesModel", "gains", "[I", true)
def tyX10 : Nat → FieldType := fun k => match k with
  | 0 => .int
  | 1 => .int
  | 2 => .array .int
  | 3 => .array .int
  | 4 => .array .int
  | 5 => .array .int
  | 6 => .array .int
  | 7 => .array .int
  | 8 => .int
  | 9 => .array .int
  | 10 => .int
  | 11 => .long
  | 12 => .long
  | 13 => .int
  | 14 => .array .int
  | 15 => .array .int
  | 16 => .array .int
  | 17 => .array .int
  | 18 => .array .int
  | 19 => .array .int
  | 20 => .array .int
  | 21 => .array .int
  | 22 => .array .int
  | 23 => .array .int
  | 24 => .int
  | 25 => .int
  | 26 => .int
  | 27 => .int
  | 28 => .array .int
  | 29 => .array .int
  | 30 => .array .int
  | 31 => .array .int
  | 32 => .array .int
  | 33 => .array .int
  | 34 => .array .int
  | 35 => .int
  | 36 => .int
  | 37 => .array .int
  | _ => .array .int
abbrev wsX100 : List Cond := u_ws RX10 TX10 39
theorem nmX10 : ∀ a, a < 39 → ∀ b, b < 39 → a ≠ b → (TX10 a).2.1 ≠ (TX10 b).2.1 := by decide +kernel
theorem tyX10_ok : ∀ k, k < 39 → parseFieldDescriptor (TX10 k).2.2.1 = some (tyX10 k) := by decide +kernel
abbrev cX10_init : ByteArray := prog_12_method_1_code
def yX10_init : MethodName := ⟨RX10, "<init>", "()V"⟩
abbrev cX10_in : ByteArray := prog_12_method_3_code
def yX10_in : MethodName := ⟨RX10, "in", "(JJJ)Z"⟩
abbrev cX10_has : ByteArray := prog_12_method_4_code
def yX10_has : MethodName := ⟨RX10, "has", "(II)Z"⟩
abbrev cX10_bits : ByteArray := prog_12_method_5_code
def yX10_bits : MethodName := ⟨RX10, "bits", "(I)I"⟩
abbrev cX10_finds : ByteArray := prog_12_method_6_code
def yX10_finds : MethodName := ⟨RX10, "finds", "(I)I"⟩
abbrev cX10_isRow : ByteArray := prog_12_method_7_code
def yX10_isRow : MethodName := ⟨RX10, "isRow", "(I)Z"⟩
abbrev cX10_isText : ByteArray := prog_12_method_8_code
def yX10_isText : MethodName := ⟨RX10, "isText", "(I)Z"⟩
abbrev cX10_isCape : ByteArray := prog_12_method_9_code
def yX10_isCape : MethodName := ⟨RX10, "isCape", "(I)Z"⟩
abbrev cX10_isValley : ByteArray := prog_12_method_10_code
def yX10_isValley : MethodName := ⟨RX10, "isValley", "(I)Z"⟩
abbrev cX10_isSet : ByteArray := prog_12_method_11_code
def yX10_isSet : MethodName := ⟨RX10, "isSet", "(I)Z"⟩
abbrev cX10_row : ByteArray := prog_12_method_12_code
def yX10_row : MethodName := ⟨RX10, "row", "(II)I"⟩
abbrev cX10_lay : ByteArray := prog_12_method_13_code
def yX10_lay : MethodName := ⟨RX10, "lay", "(III)I"⟩
abbrev cX10_at : ByteArray := prog_12_method_14_code
def yX10_at : MethodName := ⟨RX10, "at", "(II)I"⟩
abbrev cX10_tear : ByteArray := prog_12_method_15_code
def yX10_tear : MethodName := ⟨RX10, "tear", "(I)I"⟩
abbrev cX10_copy : ByteArray := prog_12_method_16_code
def yX10_copy : MethodName := ⟨RX10, "copy", "(IIIII)I"⟩
abbrev cX10_mean : ByteArray := prog_12_method_17_code
def yX10_mean : MethodName := ⟨RX10, "mean", "(I)I"⟩
abbrev cX10_text : ByteArray := prog_12_method_18_code
def yX10_text : MethodName := ⟨RX10, "text", "(II)I"⟩
abbrev cX10_put : ByteArray := prog_12_method_19_code
def yX10_put : MethodName := ⟨RX10, "put", "(III)I"⟩
abbrev cX10_byteOf : ByteArray := prog_12_method_20_code
def yX10_byteOf : MethodName := ⟨RX10, "byteOf", "(I)I"⟩
abbrev cX10_skip : ByteArray := prog_12_method_21_code
def yX10_skip : MethodName := ⟨RX10, "skip", "(I)V"⟩
abbrev cX10_figure : ByteArray := prog_12_method_22_code
def yX10_figure : MethodName := ⟨RX10, "figure", "(III)I"⟩
abbrev cX10_kindOf : ByteArray := prog_12_method_23_code
def yX10_kindOf : MethodName := ⟨RX10, "kindOf", "(I)I"⟩
abbrev cX10_readOne : ByteArray := prog_12_method_24_code
def yX10_readOne : MethodName := ⟨RX10, "readOne", "(I)V"⟩
abbrev cX10_readYear : ByteArray := prog_12_method_25_code
def yX10_readYear : MethodName := ⟨RX10, "readYear", "(I)V"⟩
abbrev cX10_fault : ByteArray := prog_12_method_26_code
def yX10_fault : MethodName := ⟨RX10, "fault", "(I)I"⟩
abbrev cX10_year : ByteArray := prog_12_method_27_code
def yX10_year : MethodName := ⟨RX10, "year", "(I)I"⟩
abbrev cX10_isOf : ByteArray := prog_12_method_28_code
def yX10_isOf : MethodName := ⟨RX10, "isOf", "(II)Z"⟩
abbrev cX10_pullBy : ByteArray := prog_12_method_29_code
def yX10_pullBy : MethodName := ⟨RX10, "pullBy", "(I)I"⟩
abbrev cX10_isDown : ByteArray := prog_12_method_30_code
def yX10_isDown : MethodName := ⟨RX10, "isDown", "()Z"⟩
abbrev cX10_canPull : ByteArray := prog_12_method_31_code
def yX10_canPull : MethodName := ⟨RX10, "canPull", "(I)Z"⟩
abbrev cX10_gainOf : ByteArray := prog_12_method_32_code
def yX10_gainOf : MethodName := ⟨RX10, "gainOf", "(I)I"⟩
abbrev cX10_gainAll : ByteArray := prog_12_method_33_code
def yX10_gainAll : MethodName := ⟨RX10, "gainAll", "()V"⟩
abbrev cX10_rest : ByteArray := prog_12_method_34_code
def yX10_rest : MethodName := ⟨RX10, "rest", "(I)V"⟩
abbrev cX10_tire : ByteArray := prog_12_method_35_code
def yX10_tire : MethodName := ⟨RX10, "tire", "(IZ)V"⟩
abbrev cX10_goHour : ByteArray := prog_12_method_36_code
def yX10_goHour : MethodName := ⟨RX10, "goHour", "(I)I"⟩
abbrev cX10_remember : ByteArray := prog_12_method_37_code
def yX10_remember : MethodName := ⟨RX10, "remember", "()V"⟩
abbrev cX10_capeOf : ByteArray := prog_12_method_38_code
def yX10_capeOf : MethodName := ⟨RX10, "capeOf", "(II)I"⟩
abbrev cX10_cape : ByteArray := prog_12_method_39_code
def yX10_cape : MethodName := ⟨RX10, "cape", "(II)I"⟩
abbrev cX10_valleyOf : ByteArray := prog_12_method_40_code
def yX10_valleyOf : MethodName := ⟨RX10, "valleyOf", "(II)I"⟩
abbrev cX10_valley : ByteArray := prog_12_method_41_code
def yX10_valley : MethodName := ⟨RX10, "valley", "(II)I"⟩
abbrev cX10_weaker : ByteArray := prog_12_method_42_code
def yX10_weaker : MethodName := ⟨RX10, "weaker", "(I)I"⟩
abbrev cX10_mark : ByteArray := prog_12_method_43_code
def yX10_mark : MethodName := ⟨RX10, "mark", "(II)I"⟩
abbrev cX10_price : ByteArray := prog_12_method_44_code
def yX10_price : MethodName := ⟨RX10, "price", "(II)I"⟩
abbrev cX10_hold : ByteArray := prog_12_method_45_code
def yX10_hold : MethodName := ⟨RX10, "hold", "(I)I"⟩
abbrev cX10_rope : ByteArray := prog_12_method_46_code
def yX10_rope : MethodName := ⟨RX10, "rope", "(II)I"⟩
abbrev cX10_rise : ByteArray := prog_12_method_47_code
def yX10_rise : MethodName := ⟨RX10, "rise", "()I"⟩
abbrev cX10_undo : ByteArray := prog_12_method_48_code
def yX10_undo : MethodName := ⟨RX10, "undo", "(I)I"⟩
abbrev cX10_sun : ByteArray := prog_12_method_49_code
def yX10_sun : MethodName := ⟨RX10, "sun", "()I"⟩
abbrev cX10_gained : ByteArray := prog_12_method_50_code
def yX10_gained : MethodName := ⟨RX10, "gained", "()I"⟩
abbrev cX10_keep : ByteArray := prog_12_method_51_code
def yX10_keep : MethodName := ⟨RX10, "keep", "(I)I"⟩
abbrev cX10_on : ByteArray := prog_12_method_52_code
def yX10_on : MethodName := ⟨RX10, "on", "(I)I"⟩
abbrev cX10_save : ByteArray := prog_12_method_53_code
def yX10_save : MethodName := ⟨RX10, "save", "()V"⟩
abbrev cX10_putBack : ByteArray := prog_12_method_54_code
def yX10_putBack : MethodName := ⟨RX10, "putBack", "()V"⟩
abbrev cX10_gainsNow : ByteArray := prog_12_method_55_code
def yX10_gainsNow : MethodName := ⟨RX10, "gainsNow", "()I"⟩
abbrev cX10_planRefused : ByteArray := prog_12_method_56_code
def yX10_planRefused : MethodName := ⟨RX10, "planRefused", "(I)I"⟩
abbrev cX10_run : ByteArray := prog_12_method_57_code
def yX10_run : MethodName := ⟨RX10, "run", "(I)I"⟩
abbrev cX10_firstLurch : ByteArray := prog_12_method_58_code
def yX10_firstLurch : MethodName := ⟨RX10, "firstLurch", "(I)I"⟩
abbrev cX10_burns : ByteArray := prog_12_method_59_code
def yX10_burns : MethodName := ⟨RX10, "burns", "(I)I"⟩
abbrev cX10_codes : ByteArray := prog_12_method_60_code
def yX10_codes : MethodName := ⟨RX10, "codes", "(I)I"⟩
abbrev cX10_setOf : ByteArray := prog_12_method_61_code
def yX10_setOf : MethodName := ⟨RX10, "setOf", "(III)I"⟩
abbrev cX10_layPlan : ByteArray := prog_12_method_62_code
def yX10_layPlan : MethodName := ⟨RX10, "layPlan", "(III)V"⟩
abbrev cX10_goPlan : ByteArray := prog_12_method_63_code
def yX10_goPlan : MethodName := ⟨RX10, "goPlan", "(II)Z"⟩
abbrev cX10_best : ByteArray := prog_12_method_64_code
def yX10_best : MethodName := ⟨RX10, "best", "(II)I"⟩
abbrev cX10_slowest : ByteArray := prog_12_method_65_code
def yX10_slowest : MethodName := ⟨RX10, "slowest", "(II)I"⟩
abbrev cX10_hoursTillDown : ByteArray := prog_12_method_66_code
def yX10_hoursTillDown : MethodName := ⟨RX10, "hoursTillDown", "(I)I"⟩
abbrev cX10_down : ByteArray := prog_12_method_67_code
def yX10_down : MethodName := ⟨RX10, "down", "(I)I"⟩
abbrev cX10_longest : ByteArray := prog_12_method_68_code
def yX10_longest : MethodName := ⟨RX10, "longest", "()I"⟩
abbrev cX10_ropes : ByteArray := prog_12_method_69_code
def yX10_ropes : MethodName := ⟨RX10, "ropes", "(I)I"⟩
abbrev cX10_jumpsBy : ByteArray := prog_12_method_70_code
def yX10_jumpsBy : MethodName := ⟨RX10, "jumpsBy", "(III)I"⟩
abbrev cX10_loose : ByteArray := prog_12_method_71_code
def yX10_loose : MethodName := ⟨RX10, "loose", "(II)I"⟩
abbrev cX10_findGains : ByteArray := prog_12_method_72_code
def yX10_findGains : MethodName := ⟨RX10, "findGains", "()V"⟩
abbrev cX10_votersFor : ByteArray := prog_12_method_73_code
def yX10_votersFor : MethodName := ⟨RX10, "votersFor", "(II)I"⟩
abbrev cX10_votes : ByteArray := prog_12_method_74_code
def yX10_votes : MethodName := ⟨RX10, "votes", "(II)I"⟩
abbrev cX10_choice : ByteArray := prog_12_method_75_code
def yX10_choice : MethodName := ⟨RX10, "choice", "()I"⟩
abbrev cX10_mostOf : ByteArray := prog_12_method_76_code
def yX10_mostOf : MethodName := ⟨RX10, "mostOf", "(I)I"⟩
abbrev cX10_parts : ByteArray := prog_12_method_77_code
def yX10_parts : MethodName := ⟨RX10, "parts", "(I)I"⟩
abbrev cX10_seenRefused : ByteArray := prog_12_method_78_code
def yX10_seenRefused : MethodName := ⟨RX10, "seenRefused", "(I)I"⟩
abbrev cX10_isSo : ByteArray := prog_12_method_79_code
def yX10_isSo : MethodName := ⟨RX10, "isSo", "(III)Z"⟩
abbrev cX10_fits : ByteArray := prog_12_method_80_code
def yX10_fits : MethodName := ⟨RX10, "fits", "(III)I"⟩
abbrev cX10_slipped : ByteArray := prog_12_method_81_code
def yX10_slipped : MethodName := ⟨RX10, "slipped", "(II)I"⟩
abbrev cX10_tellOdds : ByteArray := prog_12_method_82_code
def yX10_tellOdds : MethodName := ⟨RX10, "tellOdds", "(JJ)V"⟩
abbrev cX10_odds : ByteArray := prog_12_method_83_code
def yX10_odds : MethodName := ⟨RX10, "odds", "(III)I"⟩
abbrev cX10_lots : ByteArray := prog_12_method_84_code
def yX10_lots : MethodName := ⟨RX10, "lots", "(II)I"⟩
abbrev cX10_asked : ByteArray := prog_12_method_85_code
def yX10_asked : MethodName := ⟨RX10, "asked", "()I"⟩
abbrev cX10_upper : ByteArray := prog_12_method_86_code
def yX10_upper : MethodName := ⟨RX10, "upper", "()J"⟩
abbrev cX10_lower : ByteArray := prog_12_method_87_code
def yX10_lower : MethodName := ⟨RX10, "lower", "()J"⟩
abbrev cX10_pullers : ByteArray := prog_12_method_88_code
def yX10_pullers : MethodName := ⟨RX10, "pullers", "()I"⟩
abbrev cX10_strongOnes : ByteArray := prog_12_method_89_code
def yX10_strongOnes : MethodName := ⟨RX10, "strongOnes", "()I"⟩
abbrev cX10_there : ByteArray := prog_12_method_90_code
def yX10_there : MethodName := ⟨RX10, "there", "([I)I"⟩
abbrev cX10_count : ByteArray := prog_12_method_91_code
def yX10_count : MethodName := ⟨RX10, "count", "(I)I"⟩
abbrev cX10_finding : ByteArray := prog_12_method_92_code
def yX10_finding : MethodName := ⟨RX10, "finding", "()I"⟩
abbrev cX10_findings : ByteArray := prog_12_method_93_code
def yX10_findings : MethodName := ⟨RX10, "findings", "(I)I"⟩
abbrev cX10_digest : ByteArray := prog_12_method_94_code
def yX10_digest : MethodName := ⟨RX10, "digest", "()J"⟩
def RJ6 : String := "java/lang/Integer"
def TJ6 : u_T := fun k => match k with
  | _ => ("", "", "", false)
def tyJ6 : Nat → FieldType := fun k => match k with
  | _ => .int
abbrev cJ6_bitCount_0f7a4 : ByteArray := prog_13_method_49_code
def yJ6_bitCount_0f7a4 : MethodName := ⟨RJ6, "bitCount", "(I)I"⟩
def RJ9 : String := "java/lang/Math"
def TJ9 : u_T := fun k => match k with
  | _ => ("", "", "", false)
def tyJ9 : Nat → FieldType := fun k => match k with
  | _ => .int
abbrev cJ9_max_7cf53 : ByteArray := prog_14_method_65_code
def yJ9_max_7cf53 : MethodName := ⟨RJ9, "max", "(II)I"⟩
abbrev cJ9_min_7cf53 : ByteArray := prog_14_method_69_code
def yJ9_min_7cf53 : MethodName := ⟨RJ9, "min", "(II)I"⟩
def RJ10 : String := "java/lang/System"
def TJ10 : u_T := fun k => match k with
  | _ => ("", "", "", false)
def tyJ10 : Nat → FieldType := fun k => match k with
  | _ => .int
def RJ7 : String := "java/util/Arrays"
def TJ7 : u_T := fun k => match k with
  | _ => ("", "", "", false)
def tyJ7 : Nat → FieldType := fun k => match k with
  | _ => .int
abbrev cJ7_fill_53178 : ByteArray := prog_16_method_103_code
def yJ7_fill_53178 : MethodName := ⟨RJ7, "fill", "([II)V"⟩
abbrev cJ7_fill_031fb : ByteArray := prog_16_method_109_code
def yJ7_fill_031fb : MethodName := ⟨RJ7, "fill", "([BB)V"⟩
def RL : String := "SunRopesLaw"
abbrev cL_law : ByteArray := code
def yL_law : MethodName := ⟨RL, "law", "([I)Z"⟩
def qcl : List vw_C := [(RX0, TX0, 2), (RX1, TX1, 5), (RX2, TX2, 3), (RX3, TX3, 2), (RX4, TX4, 4), (RX5, TX5, 2), (RX6, TX6, 8), (RX7, TX7, 2), (RX8, TX8, 8), (RX9, TX9, 16), (RX10, TX10, 39)]
end
section
def qws : List Cond := lw_tbl.filter goodWord
theorem qws_good : ∀ w ∈ qws, (w.onTables && w.keeps) = true ∨ ∃ ty, w = .arrayClass ty := fun w h => good_of_word (List.mem_filter.mp h).2
theorem qws_in {i : Nat} {w : Cond} (h : lw_tbl[i]? = some w) (hg : goodWord w = true) : w ∈ qws := List.mem_filter.mpr ⟨List.mem_of_getElem? h, hg⟩
theorem qws_ps {ws : List Cond} (ps : List Nat) (h : ws = ps.filterMap (fun i => lw_tbl[i]?)) (hg : ws.all goodWord = true) : ∀ w ∈ ws, w ∈ qws := fun w hw => List.mem_filter.mpr ⟨by
  have hw2 := hw
  rw [h] at hw2
  obtain ⟨i, -, hi⟩ := List.mem_filterMap.mp hw2
  exact List.mem_of_getElem? hi, List.all_eq_true.mp hg w hw⟩
theorem se_yX9_found : Cond.selects RX9 yX9_found yX9_found ∈ qws := qws_in (i := 0) (by decide +kernel) (by decide +kernel)
theorem se_yX9_placeRefusal : Cond.selects RX9 yX9_placeRefusal yX9_placeRefusal ∈ qws := qws_in (i := 1) (by decide +kernel) (by decide +kernel)
theorem se_yX4_faultInCape : Cond.selects RX4 yX4_faultInCape yX4_faultInCape ∈ qws := qws_in (i := 2) (by decide +kernel) (by decide +kernel)
theorem se_yX4_faultInValley : Cond.selects RX4 yX4_faultInValley yX4_faultInValley ∈ qws := qws_in (i := 3) (by decide +kernel) (by decide +kernel)
theorem se_yX4_leastFigure : Cond.selects RX4 yX4_leastFigure yX4_leastFigure ∈ qws := qws_in (i := 4) (by decide +kernel) (by decide +kernel)
theorem se_yX9_factOfCape : Cond.selects RX9 yX9_factOfCape yX9_factOfCape ∈ qws := qws_in (i := 5) (by decide +kernel) (by decide +kernel)
theorem se_yX9_factOfValley : Cond.selects RX9 yX9_factOfValley yX9_factOfValley ∈ qws := qws_in (i := 6) (by decide +kernel) (by decide +kernel)
theorem se_yX9_markOf : Cond.selects RX9 yX9_markOf yX9_markOf ∈ qws := qws_in (i := 7) (by decide +kernel) (by decide +kernel)
theorem se_yX9_trueHour : Cond.selects RX9 yX9_trueHour yX9_trueHour ∈ qws := qws_in (i := 8) (by decide +kernel) (by decide +kernel)
theorem se_yX1_wearAndRest : Cond.selects RX1 yX1_wearAndRest yX1_wearAndRest ∈ qws := qws_in (i := 9) (by decide +kernel) (by decide +kernel)
theorem se_yX9_planRefusal : Cond.selects RX9 yX9_planRefusal yX9_planRefusal ∈ qws := qws_in (i := 10) (by decide +kernel) (by decide +kernel)
theorem se_yX9_rowRefusal : Cond.selects RX9 yX9_rowRefusal yX9_rowRefusal ∈ qws := qws_in (i := 11) (by decide +kernel) (by decide +kernel)
theorem se_yX6_begin : Cond.selects RX6 yX6_begin yX6_begin ∈ qws := qws_in (i := 12) (by decide +kernel) (by decide +kernel)
theorem se_yX6_seekMost : Cond.selects RX6 yX6_seekMost yX6_seekMost ∈ qws := qws_in (i := 13) (by decide +kernel) (by decide +kernel)
theorem se_yX6_setFirst : Cond.selects RX6 yX6_setFirst yX6_setFirst ∈ qws := qws_in (i := 14) (by decide +kernel) (by decide +kernel)
theorem se_yX6_step : Cond.selects RX6 yX6_step yX6_step ∈ qws := qws_in (i := 15) (by decide +kernel) (by decide +kernel)
theorem se_yX6_seekSlowest : Cond.selects RX6 yX6_seekSlowest yX6_seekSlowest ∈ qws := qws_in (i := 16) (by decide +kernel) (by decide +kernel)
theorem se_yX9_orderFrom : Cond.selects RX9 yX9_orderFrom yX9_orderFrom ∈ qws := qws_in (i := 17) (by decide +kernel) (by decide +kernel)
theorem se_yX0_isBeaten : Cond.selects RX0 yX0_isBeaten yX0_isBeaten ∈ qws := qws_in (i := 18) (by decide +kernel) (by decide +kernel)
theorem se_yX0_mostOf : Cond.selects RX0 yX0_mostOf yX0_mostOf ∈ qws := qws_in (i := 19) (by decide +kernel) (by decide +kernel)
theorem se_yX9_minutesRefusal : Cond.selects RX9 yX9_minutesRefusal yX9_minutesRefusal ∈ qws := qws_in (i := 20) (by decide +kernel) (by decide +kernel)
theorem se_yX6_seekFitting : Cond.selects RX6 yX6_seekFitting yX6_seekFitting ∈ qws := qws_in (i := 21) (by decide +kernel) (by decide +kernel)
theorem se_yX6_waysFrom : Cond.selects RX6 yX6_waysFrom yX6_waysFrom ∈ qws := qws_in (i := 22) (by decide +kernel) (by decide +kernel)
theorem se_yX9_tellChance : Cond.selects RX9 yX9_tellChance yX9_tellChance ∈ qws := qws_in (i := 23) (by decide +kernel) (by decide +kernel)
theorem se_yX9_countOf : Cond.selects RX9 yX9_countOf yX9_countOf ∈ qws := qws_in (i := 24) (by decide +kernel) (by decide +kernel)
theorem se_yX9_rowsThere : Cond.selects RX9 yX9_rowsThere yX9_rowsThere ∈ qws := qws_in (i := 25) (by decide +kernel) (by decide +kernel)
theorem se_yX9_textsThere : Cond.selects RX9 yX9_textsThere yX9_textsThere ∈ qws := qws_in (i := 26) (by decide +kernel) (by decide +kernel)
theorem se_yX9_yearsKept : Cond.selects RX9 yX9_yearsKept yX9_yearsKept ∈ qws := qws_in (i := 27) (by decide +kernel) (by decide +kernel)
theorem se_yX10_finds : Cond.selects RX10 yX10_finds yX10_finds ∈ qws := qws_in (i := 28) (by decide +kernel) (by decide +kernel)
theorem se_yX10_readYear : Cond.selects RX10 yX10_readYear yX10_readYear ∈ qws := qws_in (i := 29) (by decide +kernel) (by decide +kernel)
theorem se_yX10_skip : Cond.selects RX10 yX10_skip yX10_skip ∈ qws := qws_in (i := 30) (by decide +kernel) (by decide +kernel)
theorem se_yX10_byteOf : Cond.selects RX10 yX10_byteOf yX10_byteOf ∈ qws := qws_in (i := 31) (by decide +kernel) (by decide +kernel)
theorem se_yX10_readOne : Cond.selects RX10 yX10_readOne yX10_readOne ∈ qws := qws_in (i := 32) (by decide +kernel) (by decide +kernel)
theorem se_yX10_figure : Cond.selects RX10 yX10_figure yX10_figure ∈ qws := qws_in (i := 33) (by decide +kernel) (by decide +kernel)
theorem se_yX10_isCape : Cond.selects RX10 yX10_isCape yX10_isCape ∈ qws := qws_in (i := 34) (by decide +kernel) (by decide +kernel)
theorem se_yX10_capeOf : Cond.selects RX10 yX10_capeOf yX10_capeOf ∈ qws := qws_in (i := 35) (by decide +kernel) (by decide +kernel)
theorem se_yX10_canPull : Cond.selects RX10 yX10_canPull yX10_canPull ∈ qws := qws_in (i := 36) (by decide +kernel) (by decide +kernel)
theorem se_yX10_isDown : Cond.selects RX10 yX10_isDown yX10_isDown ∈ qws := qws_in (i := 37) (by decide +kernel) (by decide +kernel)
theorem se_yX10_isOf : Cond.selects RX10 yX10_isOf yX10_isOf ∈ qws := qws_in (i := 38) (by decide +kernel) (by decide +kernel)
theorem se_yX10_pullBy : Cond.selects RX10 yX10_pullBy yX10_pullBy ∈ qws := qws_in (i := 39) (by decide +kernel) (by decide +kernel)
theorem se_yX10_isValley : Cond.selects RX10 yX10_isValley yX10_isValley ∈ qws := qws_in (i := 40) (by decide +kernel) (by decide +kernel)
theorem se_yX10_valleyOf : Cond.selects RX10 yX10_valleyOf yX10_valleyOf ∈ qws := qws_in (i := 41) (by decide +kernel) (by decide +kernel)
theorem se_yX10_weaker : Cond.selects RX10 yX10_weaker yX10_weaker ∈ qws := qws_in (i := 42) (by decide +kernel) (by decide +kernel)
theorem se_yX10_isSet : Cond.selects RX10 yX10_isSet yX10_isSet ∈ qws := qws_in (i := 43) (by decide +kernel) (by decide +kernel)
theorem se_yX10_remember : Cond.selects RX10 yX10_remember yX10_remember ∈ qws := qws_in (i := 44) (by decide +kernel) (by decide +kernel)
theorem se_yX10_goHour : Cond.selects RX10 yX10_goHour yX10_goHour ∈ qws := qws_in (i := 45) (by decide +kernel) (by decide +kernel)
theorem se_yX10_gainAll : Cond.selects RX10 yX10_gainAll yX10_gainAll ∈ qws := qws_in (i := 46) (by decide +kernel) (by decide +kernel)
theorem se_yX10_gainOf : Cond.selects RX10 yX10_gainOf yX10_gainOf ∈ qws := qws_in (i := 47) (by decide +kernel) (by decide +kernel)
theorem se_yX10_tire : Cond.selects RX10 yX10_tire yX10_tire ∈ qws := qws_in (i := 48) (by decide +kernel) (by decide +kernel)
theorem se_yX10_rest : Cond.selects RX10 yX10_rest yX10_rest ∈ qws := qws_in (i := 49) (by decide +kernel) (by decide +kernel)
theorem se_yX10_planRefused : Cond.selects RX10 yX10_planRefused yX10_planRefused ∈ qws := qws_in (i := 50) (by decide +kernel) (by decide +kernel)
theorem se_yX10_save : Cond.selects RX10 yX10_save yX10_save ∈ qws := qws_in (i := 51) (by decide +kernel) (by decide +kernel)
theorem se_yX10_gainsNow : Cond.selects RX10 yX10_gainsNow yX10_gainsNow ∈ qws := qws_in (i := 52) (by decide +kernel) (by decide +kernel)
theorem se_yX10_putBack : Cond.selects RX10 yX10_putBack yX10_putBack ∈ qws := qws_in (i := 53) (by decide +kernel) (by decide +kernel)
theorem se_yX10_firstLurch : Cond.selects RX10 yX10_firstLurch yX10_firstLurch ∈ qws := qws_in (i := 54) (by decide +kernel) (by decide +kernel)
theorem se_yX10_codes : Cond.selects RX10 yX10_codes yX10_codes ∈ qws := qws_in (i := 55) (by decide +kernel) (by decide +kernel)
theorem se_yX10_goPlan : Cond.selects RX10 yX10_goPlan yX10_goPlan ∈ qws := qws_in (i := 56) (by decide +kernel) (by decide +kernel)
theorem se_yX10_setOf : Cond.selects RX10 yX10_setOf yX10_setOf ∈ qws := qws_in (i := 57) (by decide +kernel) (by decide +kernel)
theorem se_yX10_layPlan : Cond.selects RX10 yX10_layPlan yX10_layPlan ∈ qws := qws_in (i := 58) (by decide +kernel) (by decide +kernel)
theorem se_yX10_hoursTillDown : Cond.selects RX10 yX10_hoursTillDown yX10_hoursTillDown ∈ qws := qws_in (i := 59) (by decide +kernel) (by decide +kernel)
theorem se_yX10_jumpsBy : Cond.selects RX10 yX10_jumpsBy yX10_jumpsBy ∈ qws := qws_in (i := 60) (by decide +kernel) (by decide +kernel)
theorem se_yX10_findGains : Cond.selects RX10 yX10_findGains yX10_findGains ∈ qws := qws_in (i := 61) (by decide +kernel) (by decide +kernel)
theorem se_yX10_votersFor : Cond.selects RX10 yX10_votersFor yX10_votersFor ∈ qws := qws_in (i := 62) (by decide +kernel) (by decide +kernel)
theorem se_yX10_mostOf : Cond.selects RX10 yX10_mostOf yX10_mostOf ∈ qws := qws_in (i := 63) (by decide +kernel) (by decide +kernel)
theorem se_yX10_seenRefused : Cond.selects RX10 yX10_seenRefused yX10_seenRefused ∈ qws := qws_in (i := 64) (by decide +kernel) (by decide +kernel)
theorem se_yX10_isSo : Cond.selects RX10 yX10_isSo yX10_isSo ∈ qws := qws_in (i := 65) (by decide +kernel) (by decide +kernel)
theorem se_yX10_tellOdds : Cond.selects RX10 yX10_tellOdds yX10_tellOdds ∈ qws := qws_in (i := 66) (by decide +kernel) (by decide +kernel)
theorem se_yX10_pullers : Cond.selects RX10 yX10_pullers yX10_pullers ∈ qws := qws_in (i := 67) (by decide +kernel) (by decide +kernel)
theorem se_yX10_strongOnes : Cond.selects RX10 yX10_strongOnes yX10_strongOnes ∈ qws := qws_in (i := 68) (by decide +kernel) (by decide +kernel)
theorem ini_L : Cond.initialized RL ∈ qws := qws_in (i := 69) (by decide +kernel) (by decide +kernel)
theorem ini_X9 : Cond.initialized RX9 ∈ qws := qws_in (i := 70) (by decide +kernel) (by decide +kernel)
theorem ini_X4 : Cond.initialized RX4 ∈ qws := qws_in (i := 71) (by decide +kernel) (by decide +kernel)
theorem ini_X8 : Cond.initialized RX8 ∈ qws := qws_in (i := 72) (by decide +kernel) (by decide +kernel)
theorem ini_X1 : Cond.initialized RX1 ∈ qws := qws_in (i := 73) (by decide +kernel) (by decide +kernel)
theorem ini_X2 : Cond.initialized RX2 ∈ qws := qws_in (i := 74) (by decide +kernel) (by decide +kernel)
theorem ini_X3 : Cond.initialized RX3 ∈ qws := qws_in (i := 75) (by decide +kernel) (by decide +kernel)
theorem ini_X6 : Cond.initialized RX6 ∈ qws := qws_in (i := 76) (by decide +kernel) (by decide +kernel)
theorem ini_X0 : Cond.initialized RX0 ∈ qws := qws_in (i := 77) (by decide +kernel) (by decide +kernel)
theorem ini_X5 : Cond.initialized RX5 ∈ qws := qws_in (i := 78) (by decide +kernel) (by decide +kernel)
theorem ini_X7 : Cond.initialized RX7 ∈ qws := qws_in (i := 79) (by decide +kernel) (by decide +kernel)
theorem ini_X10 : Cond.initialized RX10 ∈ qws := qws_in (i := 80) (by decide +kernel) (by decide +kernel)
theorem ini_J7 : Cond.initialized RJ7 ∈ qws := qws_in (i := 81) (by decide +kernel) (by decide +kernel)
theorem ini_J10 : Cond.initialized RJ10 ∈ qws := qws_in (i := 82) (by decide +kernel) (by decide +kernel)
theorem ini_J6 : Cond.initialized RJ6 ∈ qws := qws_in (i := 83) (by decide +kernel) (by decide +kernel)
theorem ini_J9 : Cond.initialized RJ9 ∈ qws := qws_in (i := 84) (by decide +kernel) (by decide +kernel)
theorem lc_L_7 : Cond.classLink RL 7 RX9 ∈ qws := qws_in (i := 85) (by decide +kernel) (by decide +kernel)
theorem ik_X9 : Cond.instantiable RX9 16 ∈ qws := qws_in (i := 86) (by decide +kernel) (by decide +kernel)
theorem lm_L_9 : Cond.methodLink RL 9 yX9_init ∈ qws := qws_in (i := 87) (by decide +kernel) (by decide +kernel)
theorem im_yX9_init : Cond.instanceMethod yX9_init ∈ qws := qws_in (i := 88) (by decide +kernel) (by decide +kernel)
theorem cd_yX9_init : Cond.code yX9_init cX9_init 2 none ∈ qws := qws_in (i := 89) (by decide +kernel) (by decide +kernel)
theorem lm_X9_1 : Cond.methodLink RX9 1 objectInit ∈ qws := qws_in (i := 90) (by decide +kernel) (by decide +kernel)
theorem im_objectInit : Cond.instanceMethod objectInit ∈ qws := qws_in (i := 91) (by decide +kernel) (by decide +kernel)
theorem cd_objectInit : Cond.code objectInit ⟨#[0xb1]⟩ 1 none ∈ qws := qws_in (i := 92) (by decide +kernel) (by decide +kernel)
theorem lc_X9_9 : Cond.classLink RX9 9 RX5 ∈ qws := qws_in (i := 93) (by decide +kernel) (by decide +kernel)
theorem lc_X9_15 : Cond.classLink RX9 15 RX7 ∈ qws := qws_in (i := 95) (by decide +kernel) (by decide +kernel)
theorem lc_X9_21 : Cond.classLink RX9 21 RX4 ∈ qws := qws_in (i := 97) (by decide +kernel) (by decide +kernel)
theorem ik_X4 : Cond.instantiable RX4 4 ∈ qws := qws_in (i := 98) (by decide +kernel) (by decide +kernel)
theorem im_yX4_init : Cond.instanceMethod yX4_init ∈ qws := qws_in (i := 100) (by decide +kernel) (by decide +kernel)
theorem cd_yX4_init : Cond.code yX4_init cX4_init 1 none ∈ qws := qws_in (i := 101) (by decide +kernel) (by decide +kernel)
theorem lm_X4_3 : Cond.methodLink RX4 3 objectInit ∈ qws := qws_in (i := 102) (by decide +kernel) (by decide +kernel)
theorem lf_X4_9 : Cond.fieldLink RX4 9 "SunRopes$Reader" "ofCapes" "[I" ∈ qws := qws_in (i := 103) (by decide +kernel) (by decide +kernel)
theorem lf_X1_39 : Cond.fieldLink RX1 39 "SunRopes$Reader" "ofCapes" "[I" ∈ qws := qws_in (i := 104) (by decide +kernel) (by decide +kernel)
theorem lf_X8_47 : Cond.fieldLink RX8 47 "SunRopes$Reader" "ofCapes" "[I" ∈ qws := qws_in (i := 105) (by decide +kernel) (by decide +kernel)
theorem lf_X4_15 : Cond.fieldLink RX4 15 "SunRopes$Reader" "ofValleys" "[I" ∈ qws := qws_in (i := 106) (by decide +kernel) (by decide +kernel)
theorem lf_X8_53 : Cond.fieldLink RX8 53 "SunRopes$Reader" "ofValleys" "[I" ∈ qws := qws_in (i := 107) (by decide +kernel) (by decide +kernel)
theorem lf_X4_18 : Cond.fieldLink RX4 18 "SunRopes$Reader" "capes" "I" ∈ qws := qws_in (i := 108) (by decide +kernel) (by decide +kernel)
theorem lf_X8_37 : Cond.fieldLink RX8 37 "SunRopes$Reader" "capes" "I" ∈ qws := qws_in (i := 109) (by decide +kernel) (by decide +kernel)
theorem lf_X1_34 : Cond.fieldLink RX1 34 "SunRopes$Reader" "capes" "I" ∈ qws := qws_in (i := 110) (by decide +kernel) (by decide +kernel)
theorem lf_X4_22 : Cond.fieldLink RX4 22 "SunRopes$Reader" "valleys" "I" ∈ qws := qws_in (i := 111) (by decide +kernel) (by decide +kernel)
theorem lf_X8_40 : Cond.fieldLink RX8 40 "SunRopes$Reader" "valleys" "I" ∈ qws := qws_in (i := 112) (by decide +kernel) (by decide +kernel)
theorem ac_int : Cond.arrayClass .int ∈ qws := qws_in (i := 122) (by decide +kernel) (by decide +kernel)
theorem lc_X9_28 : Cond.classLink RX9 28 RX8 ∈ qws := qws_in (i := 123) (by decide +kernel) (by decide +kernel)
theorem ik_X8 : Cond.instantiable RX8 8 ∈ qws := qws_in (i := 124) (by decide +kernel) (by decide +kernel)
theorem im_yX8_init : Cond.instanceMethod yX8_init ∈ qws := qws_in (i := 126) (by decide +kernel) (by decide +kernel)
theorem cd_yX8_init : Cond.code yX8_init cX8_init 1 none ∈ qws := qws_in (i := 127) (by decide +kernel) (by decide +kernel)
theorem lm_X8_3 : Cond.methodLink RX8 3 objectInit ∈ qws := qws_in (i := 128) (by decide +kernel) (by decide +kernel)
theorem lf_X8_9 : Cond.fieldLink RX8 9 "SunRopes$Year" "kinds" "[I" ∈ qws := qws_in (i := 129) (by decide +kernel) (by decide +kernel)
theorem lf_X9_333 : Cond.fieldLink RX9 333 "SunRopes$Year" "kinds" "[I" ∈ qws := qws_in (i := 130) (by decide +kernel) (by decide +kernel)
theorem lf_X8_15 : Cond.fieldLink RX8 15 "SunRopes$Year" "ofKind" "[I" ∈ qws := qws_in (i := 131) (by decide +kernel) (by decide +kernel)
theorem lf_X1_55 : Cond.fieldLink RX1 55 "SunRopes$Year" "ofKind" "[I" ∈ qws := qws_in (i := 132) (by decide +kernel) (by decide +kernel)
theorem lf_X9_171 : Cond.fieldLink RX9 171 "SunRopes$Year" "ofKind" "[I" ∈ qws := qws_in (i := 133) (by decide +kernel) (by decide +kernel)
theorem lf_X8_18 : Cond.fieldLink RX8 18 "SunRopes$Year" "lights" "[I" ∈ qws := qws_in (i := 134) (by decide +kernel) (by decide +kernel)
theorem lf_X9_342 : Cond.fieldLink RX9 342 "SunRopes$Year" "lights" "[I" ∈ qws := qws_in (i := 135) (by decide +kernel) (by decide +kernel)
theorem lf_X8_21 : Cond.fieldLink RX8 21 "SunRopes$Year" "from" "[I" ∈ qws := qws_in (i := 136) (by decide +kernel) (by decide +kernel)
theorem lf_X9_345 : Cond.fieldLink RX9 345 "SunRopes$Year" "from" "[I" ∈ qws := qws_in (i := 137) (by decide +kernel) (by decide +kernel)
theorem lf_X8_24 : Cond.fieldLink RX8 24 "SunRopes$Year" "to" "[I" ∈ qws := qws_in (i := 138) (by decide +kernel) (by decide +kernel)
theorem lf_X9_348 : Cond.fieldLink RX9 348 "SunRopes$Year" "to" "[I" ∈ qws := qws_in (i := 139) (by decide +kernel) (by decide +kernel)
theorem lf_X8_27 : Cond.fieldLink RX8 27 "SunRopes$Year" "worths" "[I" ∈ qws := qws_in (i := 140) (by decide +kernel) (by decide +kernel)
theorem lf_X9_177 : Cond.fieldLink RX9 177 "SunRopes$Year" "worths" "[I" ∈ qws := qws_in (i := 141) (by decide +kernel) (by decide +kernel)
theorem lf_X8_30 : Cond.fieldLink RX8 30 "SunRopes$Year" "capes" "I" ∈ qws := qws_in (i := 142) (by decide +kernel) (by decide +kernel)
theorem lf_X3_48 : Cond.fieldLink RX3 48 "SunRopes$Year" "capes" "I" ∈ qws := qws_in (i := 143) (by decide +kernel) (by decide +kernel)
theorem lf_X1_52 : Cond.fieldLink RX1 52 "SunRopes$Year" "capes" "I" ∈ qws := qws_in (i := 144) (by decide +kernel) (by decide +kernel)
theorem lf_X9_156 : Cond.fieldLink RX9 156 "SunRopes$Year" "capes" "I" ∈ qws := qws_in (i := 145) (by decide +kernel) (by decide +kernel)
theorem lf_X8_34 : Cond.fieldLink RX8 34 "SunRopes$Year" "valleys" "I" ∈ qws := qws_in (i := 146) (by decide +kernel) (by decide +kernel)
theorem lf_X0_43 : Cond.fieldLink RX0 43 "SunRopes$Year" "valleys" "I" ∈ qws := qws_in (i := 147) (by decide +kernel) (by decide +kernel)
theorem lf_X1_76 : Cond.fieldLink RX1 76 "SunRopes$Year" "valleys" "I" ∈ qws := qws_in (i := 148) (by decide +kernel) (by decide +kernel)
theorem lf_X9_208 : Cond.fieldLink RX9 208 "SunRopes$Year" "valleys" "I" ∈ qws := qws_in (i := 149) (by decide +kernel) (by decide +kernel)
theorem lc_X9_35 : Cond.classLink RX9 35 RX1 ∈ qws := qws_in (i := 167) (by decide +kernel) (by decide +kernel)
theorem ik_X1 : Cond.instantiable RX1 5 ∈ qws := qws_in (i := 168) (by decide +kernel) (by decide +kernel)
theorem im_yX1_init : Cond.instanceMethod yX1_init ∈ qws := qws_in (i := 170) (by decide +kernel) (by decide +kernel)
theorem cd_yX1_init : Cond.code yX1_init cX1_init 1 none ∈ qws := qws_in (i := 171) (by decide +kernel) (by decide +kernel)
theorem lm_X1_3 : Cond.methodLink RX1 3 objectInit ∈ qws := qws_in (i := 172) (by decide +kernel) (by decide +kernel)
theorem lf_X1_9 : Cond.fieldLink RX1 9 "SunRopes$Day" "facts" "[I" ∈ qws := qws_in (i := 173) (by decide +kernel) (by decide +kernel)
theorem lf_X2_22 : Cond.fieldLink RX2 22 "SunRopes$Day" "facts" "[I" ∈ qws := qws_in (i := 174) (by decide +kernel) (by decide +kernel)
theorem lf_X0_30 : Cond.fieldLink RX0 30 "SunRopes$Day" "facts" "[I" ∈ qws := qws_in (i := 175) (by decide +kernel) (by decide +kernel)
theorem lf_X3_31 : Cond.fieldLink RX3 31 "SunRopes$Day" "facts" "[I" ∈ qws := qws_in (i := 176) (by decide +kernel) (by decide +kernel)
theorem lf_X6_60 : Cond.fieldLink RX6 60 "SunRopes$Day" "facts" "[I" ∈ qws := qws_in (i := 177) (by decide +kernel) (by decide +kernel)
theorem lf_X9_193 : Cond.fieldLink RX9 193 "SunRopes$Day" "facts" "[I" ∈ qws := qws_in (i := 178) (by decide +kernel) (by decide +kernel)
theorem lf_X1_15 : Cond.fieldLink RX1 15 "SunRopes$Day" "able" "I" ∈ qws := qws_in (i := 179) (by decide +kernel) (by decide +kernel)
theorem lf_X6_57 : Cond.fieldLink RX6 57 "SunRopes$Day" "able" "I" ∈ qws := qws_in (i := 180) (by decide +kernel) (by decide +kernel)
theorem lf_X9_339 : Cond.fieldLink RX9 339 "SunRopes$Day" "able" "I" ∈ qws := qws_in (i := 181) (by decide +kernel) (by decide +kernel)
theorem lf_X1_19 : Cond.fieldLink RX1 19 "SunRopes$Day" "frail" "I" ∈ qws := qws_in (i := 182) (by decide +kernel) (by decide +kernel)
theorem lf_X6_78 : Cond.fieldLink RX6 78 "SunRopes$Day" "frail" "I" ∈ qws := qws_in (i := 183) (by decide +kernel) (by decide +kernel)
theorem lf_X1_22 : Cond.fieldLink RX1 22 "SunRopes$Day" "pulled" "I" ∈ qws := qws_in (i := 184) (by decide +kernel) (by decide +kernel)
theorem lf_X9_186 : Cond.fieldLink RX9 186 "SunRopes$Day" "pulled" "I" ∈ qws := qws_in (i := 185) (by decide +kernel) (by decide +kernel)
theorem lf_X1_25 : Cond.fieldLink RX1 25 "SunRopes$Day" "lurched" "I" ∈ qws := qws_in (i := 186) (by decide +kernel) (by decide +kernel)
theorem lf_X3_51 : Cond.fieldLink RX3 51 "SunRopes$Day" "lurched" "I" ∈ qws := qws_in (i := 187) (by decide +kernel) (by decide +kernel)
theorem lc_X9_42 : Cond.classLink RX9 42 RX2 ∈ qws := qws_in (i := 199) (by decide +kernel) (by decide +kernel)
theorem ik_X2 : Cond.instantiable RX2 3 ∈ qws := qws_in (i := 200) (by decide +kernel) (by decide +kernel)
theorem im_yX2_init : Cond.instanceMethod yX2_init ∈ qws := qws_in (i := 202) (by decide +kernel) (by decide +kernel)
theorem cd_yX2_init : Cond.code yX2_init cX2_init 1 none ∈ qws := qws_in (i := 203) (by decide +kernel) (by decide +kernel)
theorem lm_X2_3 : Cond.methodLink RX2 3 objectInit ∈ qws := qws_in (i := 204) (by decide +kernel) (by decide +kernel)
theorem lf_X2_9 : Cond.fieldLink RX2 9 "SunRopes$Diary" "past" "[I" ∈ qws := qws_in (i := 205) (by decide +kernel) (by decide +kernel)
theorem lf_X2_15 : Cond.fieldLink RX2 15 "SunRopes$Diary" "worths" "[I" ∈ qws := qws_in (i := 206) (by decide +kernel) (by decide +kernel)
theorem lf_X9_221 : Cond.fieldLink RX9 221 "SunRopes$Diary" "worths" "[I" ∈ qws := qws_in (i := 207) (by decide +kernel) (by decide +kernel)
theorem lf_X2_18 : Cond.fieldLink RX2 18 "SunRopes$Diary" "size" "I" ∈ qws := qws_in (i := 208) (by decide +kernel) (by decide +kernel)
theorem lf_X9_97 : Cond.fieldLink RX9 97 "SunRopes$Diary" "size" "I" ∈ qws := qws_in (i := 209) (by decide +kernel) (by decide +kernel)
theorem lc_X9_53 : Cond.classLink RX9 53 RX3 ∈ qws := qws_in (i := 218) (by decide +kernel) (by decide +kernel)
theorem ik_X3 : Cond.instantiable RX3 2 ∈ qws := qws_in (i := 219) (by decide +kernel) (by decide +kernel)
theorem im_yX3_init : Cond.instanceMethod yX3_init ∈ qws := qws_in (i := 221) (by decide +kernel) (by decide +kernel)
theorem cd_yX3_init : Cond.code yX3_init cX3_init 1 none ∈ qws := qws_in (i := 222) (by decide +kernel) (by decide +kernel)
theorem lm_X3_3 : Cond.methodLink RX3 3 objectInit ∈ qws := qws_in (i := 223) (by decide +kernel) (by decide +kernel)
theorem lc_X3_9 : Cond.classLink RX3 9 RX1 ∈ qws := qws_in (i := 224) (by decide +kernel) (by decide +kernel)
theorem lf_X3_12 : Cond.fieldLink RX3 12 "SunRopes$Plans" "day" "LSunRopes$Day;" ∈ qws := qws_in (i := 226) (by decide +kernel) (by decide +kernel)
theorem lf_X3_18 : Cond.fieldLink RX3 18 "SunRopes$Plans" "tells" "I" ∈ qws := qws_in (i := 227) (by decide +kernel) (by decide +kernel)
theorem lf_X9_229 : Cond.fieldLink RX9 229 "SunRopes$Plans" "tells" "I" ∈ qws := qws_in (i := 228) (by decide +kernel) (by decide +kernel)
theorem lc_X9_60 : Cond.classLink RX9 60 RX6 ∈ qws := qws_in (i := 234) (by decide +kernel) (by decide +kernel)
theorem ik_X6 : Cond.instantiable RX6 8 ∈ qws := qws_in (i := 235) (by decide +kernel) (by decide +kernel)
theorem lm_X9_62 : Cond.methodLink RX9 62 yX6_init ∈ qws := qws_in (i := 236) (by decide +kernel) (by decide +kernel)
theorem im_yX6_init : Cond.instanceMethod yX6_init ∈ qws := qws_in (i := 237) (by decide +kernel) (by decide +kernel)
theorem cd_yX6_init : Cond.code yX6_init cX6_init 2 none ∈ qws := qws_in (i := 238) (by decide +kernel) (by decide +kernel)
theorem lm_X6_3 : Cond.methodLink RX6 3 objectInit ∈ qws := qws_in (i := 239) (by decide +kernel) (by decide +kernel)
theorem lc_X6_9 : Cond.classLink RX6 9 RX1 ∈ qws := qws_in (i := 240) (by decide +kernel) (by decide +kernel)
theorem lf_X6_11 : Cond.fieldLink RX6 11 "SunRopes$Search" "days" "[LSunRopes$Day;" ∈ qws := qws_in (i := 243) (by decide +kernel) (by decide +kernel)
theorem lf_X6_17 : Cond.fieldLink RX6 17 "SunRopes$Search" "plan" "[I" ∈ qws := qws_in (i := 244) (by decide +kernel) (by decide +kernel)
theorem lf_X6_21 : Cond.fieldLink RX6 21 "SunRopes$Search" "first" "[I" ∈ qws := qws_in (i := 245) (by decide +kernel) (by decide +kernel)
theorem lf_X9_240 : Cond.fieldLink RX9 240 "SunRopes$Search" "first" "[I" ∈ qws := qws_in (i := 246) (by decide +kernel) (by decide +kernel)
theorem lf_X6_24 : Cond.fieldLink RX6 24 "SunRopes$Search" "hours" "I" ∈ qws := qws_in (i := 247) (by decide +kernel) (by decide +kernel)
theorem lf_X6_28 : Cond.fieldLink RX6 28 "SunRopes$Search" "reached" "I" ∈ qws := qws_in (i := 248) (by decide +kernel) (by decide +kernel)
theorem lf_X6_31 : Cond.fieldLink RX6 31 "SunRopes$Search" "goal" "I" ∈ qws := qws_in (i := 249) (by decide +kernel) (by decide +kernel)
theorem lf_X6_34 : Cond.fieldLink RX6 34 "SunRopes$Search" "ways" "I" ∈ qws := qws_in (i := 250) (by decide +kernel) (by decide +kernel)
theorem lf_X6_37 : Cond.fieldLink RX6 37 "SunRopes$Search" "slips" "I" ∈ qws := qws_in (i := 251) (by decide +kernel) (by decide +kernel)
theorem lf_X9_296 : Cond.fieldLink RX9 296 "SunRopes$Search" "slips" "I" ∈ qws := qws_in (i := 252) (by decide +kernel) (by decide +kernel)
theorem lc_X9_67 : Cond.classLink RX9 67 RX0 ∈ qws := qws_in (i := 270) (by decide +kernel) (by decide +kernel)
theorem ik_X0 : Cond.instantiable RX0 2 ∈ qws := qws_in (i := 271) (by decide +kernel) (by decide +kernel)
theorem im_yX0_init : Cond.instanceMethod yX0_init ∈ qws := qws_in (i := 273) (by decide +kernel) (by decide +kernel)
theorem cd_yX0_init : Cond.code yX0_init cX0_init 1 none ∈ qws := qws_in (i := 274) (by decide +kernel) (by decide +kernel)
theorem lm_X0_3 : Cond.methodLink RX0 3 objectInit ∈ qws := qws_in (i := 275) (by decide +kernel) (by decide +kernel)
theorem lc_X0_9 : Cond.classLink RX0 9 RX1 ∈ qws := qws_in (i := 276) (by decide +kernel) (by decide +kernel)
theorem lf_X0_12 : Cond.fieldLink RX0 12 "SunRopes$Council" "day" "LSunRopes$Day;" ∈ qws := qws_in (i := 278) (by decide +kernel) (by decide +kernel)
theorem lf_X0_18 : Cond.fieldLink RX0 18 "SunRopes$Council" "gains" "[I" ∈ qws := qws_in (i := 279) (by decide +kernel) (by decide +kernel)
theorem ik_X5 : Cond.instantiable RX5 2 ∈ qws := qws_in (i := 285) (by decide +kernel) (by decide +kernel)
theorem im_yX5_init : Cond.instanceMethod yX5_init ∈ qws := qws_in (i := 287) (by decide +kernel) (by decide +kernel)
theorem cd_yX5_init : Cond.code yX5_init cX5_init 1 none ∈ qws := qws_in (i := 288) (by decide +kernel) (by decide +kernel)
theorem lm_X5_3 : Cond.methodLink RX5 3 objectInit ∈ qws := qws_in (i := 289) (by decide +kernel) (by decide +kernel)
theorem lf_X5_9 : Cond.fieldLink RX5 9 "SunRopes$Row" "places" "[I" ∈ qws := qws_in (i := 290) (by decide +kernel) (by decide +kernel)
theorem lf_X3_41 : Cond.fieldLink RX3 41 "SunRopes$Row" "places" "[I" ∈ qws := qws_in (i := 291) (by decide +kernel) (by decide +kernel)
theorem lf_X9_116 : Cond.fieldLink RX9 116 "SunRopes$Row" "places" "[I" ∈ qws := qws_in (i := 292) (by decide +kernel) (by decide +kernel)
theorem lf_X0_65 : Cond.fieldLink RX0 65 "SunRopes$Row" "places" "[I" ∈ qws := qws_in (i := 293) (by decide +kernel) (by decide +kernel)
theorem lf_X6_94 : Cond.fieldLink RX6 94 "SunRopes$Row" "places" "[I" ∈ qws := qws_in (i := 294) (by decide +kernel) (by decide +kernel)
theorem lf_X5_15 : Cond.fieldLink RX5 15 "SunRopes$Row" "size" "I" ∈ qws := qws_in (i := 295) (by decide +kernel) (by decide +kernel)
theorem lf_X3_26 : Cond.fieldLink RX3 26 "SunRopes$Row" "size" "I" ∈ qws := qws_in (i := 296) (by decide +kernel) (by decide +kernel)
theorem lf_X9_123 : Cond.fieldLink RX9 123 "SunRopes$Row" "size" "I" ∈ qws := qws_in (i := 297) (by decide +kernel) (by decide +kernel)
theorem lf_X6_85 : Cond.fieldLink RX6 85 "SunRopes$Row" "size" "I" ∈ qws := qws_in (i := 298) (by decide +kernel) (by decide +kernel)
theorem ik_X7 : Cond.instantiable RX7 2 ∈ qws := qws_in (i := 304) (by decide +kernel) (by decide +kernel)
theorem im_yX7_init : Cond.instanceMethod yX7_init ∈ qws := qws_in (i := 306) (by decide +kernel) (by decide +kernel)
theorem cd_yX7_init : Cond.code yX7_init cX7_init 1 none ∈ qws := qws_in (i := 307) (by decide +kernel) (by decide +kernel)
theorem lm_X7_3 : Cond.methodLink RX7 3 objectInit ∈ qws := qws_in (i := 308) (by decide +kernel) (by decide +kernel)
theorem lf_X7_9 : Cond.fieldLink RX7 9 "SunRopes$Text" "bytes" "[B" ∈ qws := qws_in (i := 309) (by decide +kernel) (by decide +kernel)
theorem lf_X4_30 : Cond.fieldLink RX4 30 "SunRopes$Text" "bytes" "[B" ∈ qws := qws_in (i := 310) (by decide +kernel) (by decide +kernel)
theorem lf_X9_144 : Cond.fieldLink RX9 144 "SunRopes$Text" "bytes" "[B" ∈ qws := qws_in (i := 311) (by decide +kernel) (by decide +kernel)
theorem lf_X7_15 : Cond.fieldLink RX7 15 "SunRopes$Text" "size" "I" ∈ qws := qws_in (i := 312) (by decide +kernel) (by decide +kernel)
theorem lf_X4_25 : Cond.fieldLink RX4 25 "SunRopes$Text" "size" "I" ∈ qws := qws_in (i := 313) (by decide +kernel) (by decide +kernel)
theorem lf_X9_143 : Cond.fieldLink RX9 143 "SunRopes$Text" "size" "I" ∈ qws := qws_in (i := 314) (by decide +kernel) (by decide +kernel)
theorem ac_byte : Cond.arrayClass .byte ∈ qws := qws_in (i := 320) (by decide +kernel) (by decide +kernel)
theorem lf_X9_11 : Cond.fieldLink RX9 11 "SunRopes" "rows" "[LSunRopes$Row;" ∈ qws := qws_in (i := 321) (by decide +kernel) (by decide +kernel)
theorem lf_X9_17 : Cond.fieldLink RX9 17 "SunRopes" "texts" "[LSunRopes$Text;" ∈ qws := qws_in (i := 322) (by decide +kernel) (by decide +kernel)
theorem lf_X9_24 : Cond.fieldLink RX9 24 "SunRopes" "reader" "LSunRopes$Reader;" ∈ qws := qws_in (i := 323) (by decide +kernel) (by decide +kernel)
theorem lf_X9_31 : Cond.fieldLink RX9 31 "SunRopes" "year" "LSunRopes$Year;" ∈ qws := qws_in (i := 324) (by decide +kernel) (by decide +kernel)
theorem lf_X9_38 : Cond.fieldLink RX9 38 "SunRopes" "now" "LSunRopes$Day;" ∈ qws := qws_in (i := 325) (by decide +kernel) (by decide +kernel)
theorem lf_X9_45 : Cond.fieldLink RX9 45 "SunRopes" "diary" "LSunRopes$Diary;" ∈ qws := qws_in (i := 326) (by decide +kernel) (by decide +kernel)
theorem lf_X9_49 : Cond.fieldLink RX9 49 "SunRopes" "kept" "[LSunRopes$Diary;" ∈ qws := qws_in (i := 327) (by decide +kernel) (by decide +kernel)
theorem lf_X9_56 : Cond.fieldLink RX9 56 "SunRopes" "plans" "LSunRopes$Plans;" ∈ qws := qws_in (i := 328) (by decide +kernel) (by decide +kernel)
theorem lf_X9_63 : Cond.fieldLink RX9 63 "SunRopes" "search" "LSunRopes$Search;" ∈ qws := qws_in (i := 329) (by decide +kernel) (by decide +kernel)
theorem lf_X9_70 : Cond.fieldLink RX9 70 "SunRopes" "council" "LSunRopes$Council;" ∈ qws := qws_in (i := 330) (by decide +kernel) (by decide +kernel)
theorem lf_X9_74 : Cond.fieldLink RX9 74 "SunRopes" "order" "[I" ∈ qws := qws_in (i := 331) (by decide +kernel) (by decide +kernel)
theorem lf_X9_78 : Cond.fieldLink RX9 78 "SunRopes" "findingCounts" "[I" ∈ qws := qws_in (i := 332) (by decide +kernel) (by decide +kernel)
theorem lf_X9_81 : Cond.fieldLink RX9 81 "SunRopes" "latestFinding" "I" ∈ qws := qws_in (i := 333) (by decide +kernel) (by decide +kernel)
theorem lf_X9_85 : Cond.fieldLink RX9 85 "SunRopes" "told" "I" ∈ qws := qws_in (i := 334) (by decide +kernel) (by decide +kernel)
theorem lf_X9_88 : Cond.fieldLink RX9 88 "SunRopes" "chanceUpper" "J" ∈ qws := qws_in (i := 335) (by decide +kernel) (by decide +kernel)
theorem lf_X9_92 : Cond.fieldLink RX9 92 "SunRopes" "chanceLower" "J" ∈ qws := qws_in (i := 336) (by decide +kernel) (by decide +kernel)
theorem lm_L_13 : Cond.methodLink RL 13 yX9_row ∈ qws := qws_in (i := 370) (by decide +kernel) (by decide +kernel)
theorem im_yX9_row : Cond.instanceMethod yX9_row ∈ qws := qws_in (i := 371) (by decide +kernel) (by decide +kernel)
theorem se_yX9_row : Cond.selects RX9 yX9_row yX9_row ∈ qws := qws_in (i := 372) (by decide +kernel) (by decide +kernel)
theorem cd_yX9_row : Cond.code yX9_row cX9_row 3 (some .int) ∈ qws := qws_in (i := 373) (by decide +kernel) (by decide +kernel)
theorem lm_X9_100 : Cond.methodLink RX9 100 yX9_isRow ∈ qws := qws_in (i := 374) (by decide +kernel) (by decide +kernel)
theorem sm_yX9_isRow : Cond.static yX9_isRow ∈ qws := qws_in (i := 375) (by decide +kernel) (by decide +kernel)
theorem cd_yX9_isRow : Cond.code yX9_isRow cX9_isRow 1 (some .boolean) ∈ qws := qws_in (i := 376) (by decide +kernel) (by decide +kernel)
theorem lm_X9_104 : Cond.methodLink RX9 104 yX9_found ∈ qws := qws_in (i := 377) (by decide +kernel) (by decide +kernel)
theorem im_yX9_found : Cond.instanceMethod yX9_found ∈ qws := qws_in (i := 379) (by decide +kernel) (by decide +kernel)
theorem cd_yX9_found : Cond.code yX9_found cX9_found 2 (some .int) ∈ qws := qws_in (i := 380) (by decide +kernel) (by decide +kernel)
theorem lm_X9_108 : Cond.methodLink RX9 108 yX5_begin ∈ qws := qws_in (i := 381) (by decide +kernel) (by decide +kernel)
theorem im_yX5_begin : Cond.instanceMethod yX5_begin ∈ qws := qws_in (i := 382) (by decide +kernel) (by decide +kernel)
theorem se_yX5_begin : Cond.selects RX5 yX5_begin yX5_begin ∈ qws := qws_in (i := 383) (by decide +kernel) (by decide +kernel)
theorem cd_yX5_begin : Cond.code yX5_begin cX5_begin 2 none ∈ qws := qws_in (i := 384) (by decide +kernel) (by decide +kernel)
theorem lm_X5_19 : Cond.methodLink RX5 19 yJ7_fill_53178 ∈ qws := qws_in (i := 385) (by decide +kernel) (by decide +kernel)
theorem sm_yJ7_fill_53178 : Cond.static yJ7_fill_53178 ∈ qws := qws_in (i := 386) (by decide +kernel) (by decide +kernel)
theorem cd_yJ7_fill_53178 : Cond.code yJ7_fill_53178 cJ7_fill_53178 4 none ∈ qws := qws_in (i := 387) (by decide +kernel) (by decide +kernel)
theorem lm_L_18 : Cond.methodLink RL 18 yX9_lay ∈ qws := qws_in (i := 388) (by decide +kernel) (by decide +kernel)
theorem im_yX9_lay : Cond.instanceMethod yX9_lay ∈ qws := qws_in (i := 389) (by decide +kernel) (by decide +kernel)
theorem se_yX9_lay : Cond.selects RX9 yX9_lay yX9_lay ∈ qws := qws_in (i := 390) (by decide +kernel) (by decide +kernel)
theorem cd_yX9_lay : Cond.code yX9_lay cX9_lay 5 (some .int) ∈ qws := qws_in (i := 391) (by decide +kernel) (by decide +kernel)
theorem lm_X9_112 : Cond.methodLink RX9 112 yX9_placeRefusal ∈ qws := qws_in (i := 392) (by decide +kernel) (by decide +kernel)
theorem im_yX9_placeRefusal : Cond.instanceMethod yX9_placeRefusal ∈ qws := qws_in (i := 394) (by decide +kernel) (by decide +kernel)
theorem cd_yX9_placeRefusal : Cond.code yX9_placeRefusal cX9_placeRefusal 3 (some .int) ∈ qws := qws_in (i := 395) (by decide +kernel) (by decide +kernel)
theorem lm_X9_119 : Cond.methodLink RX9 119 yX5_isThere ∈ qws := qws_in (i := 396) (by decide +kernel) (by decide +kernel)
theorem im_yX5_isThere : Cond.instanceMethod yX5_isThere ∈ qws := qws_in (i := 397) (by decide +kernel) (by decide +kernel)
theorem se_yX5_isThere : Cond.selects RX5 yX5_isThere yX5_isThere ∈ qws := qws_in (i := 398) (by decide +kernel) (by decide +kernel)
theorem cd_yX5_isThere : Cond.code yX5_isThere cX5_isThere 1 (some .boolean) ∈ qws := qws_in (i := 399) (by decide +kernel) (by decide +kernel)
theorem lm_L_23 : Cond.methodLink RL 23 yX9_at ∈ qws := qws_in (i := 400) (by decide +kernel) (by decide +kernel)
theorem im_yX9_at : Cond.instanceMethod yX9_at ∈ qws := qws_in (i := 401) (by decide +kernel) (by decide +kernel)
theorem se_yX9_at : Cond.selects RX9 yX9_at yX9_at ∈ qws := qws_in (i := 402) (by decide +kernel) (by decide +kernel)
theorem cd_yX9_at : Cond.code yX9_at cX9_at 4 (some .int) ∈ qws := qws_in (i := 403) (by decide +kernel) (by decide +kernel)
theorem lm_L_27 : Cond.methodLink RL 27 yX9_tear ∈ qws := qws_in (i := 404) (by decide +kernel) (by decide +kernel)
theorem im_yX9_tear : Cond.instanceMethod yX9_tear ∈ qws := qws_in (i := 405) (by decide +kernel) (by decide +kernel)
theorem se_yX9_tear : Cond.selects RX9 yX9_tear yX9_tear ∈ qws := qws_in (i := 406) (by decide +kernel) (by decide +kernel)
theorem cd_yX9_tear : Cond.code yX9_tear cX9_tear 2 (some .int) ∈ qws := qws_in (i := 407) (by decide +kernel) (by decide +kernel)
theorem lm_L_32 : Cond.methodLink RL 32 yX9_copy ∈ qws := qws_in (i := 408) (by decide +kernel) (by decide +kernel)
theorem im_yX9_copy : Cond.instanceMethod yX9_copy ∈ qws := qws_in (i := 409) (by decide +kernel) (by decide +kernel)
theorem se_yX9_copy : Cond.selects RX9 yX9_copy yX9_copy ∈ qws := qws_in (i := 410) (by decide +kernel) (by decide +kernel)
theorem cd_yX9_copy : Cond.code yX9_copy cX9_copy 6 (some .int) ∈ qws := qws_in (i := 411) (by decide +kernel) (by decide +kernel)
theorem lm_X9_124 : Cond.methodLink RX9 124 yX5_hasMany ∈ qws := qws_in (i := 412) (by decide +kernel) (by decide +kernel)
theorem im_yX5_hasMany : Cond.instanceMethod yX5_hasMany ∈ qws := qws_in (i := 413) (by decide +kernel) (by decide +kernel)
theorem se_yX5_hasMany : Cond.selects RX5 yX5_hasMany yX5_hasMany ∈ qws := qws_in (i := 414) (by decide +kernel) (by decide +kernel)
theorem cd_yX5_hasMany : Cond.code yX5_hasMany cX5_hasMany 3 (some .boolean) ∈ qws := qws_in (i := 415) (by decide +kernel) (by decide +kernel)
theorem lm_X9_128 : Cond.methodLink RX9 128 arraycopyName ∈ qws := qws_in (i := 416) (by decide +kernel) (by decide +kernel)
theorem sm_arraycopyName : Cond.static arraycopyName ∈ qws := qws_in (i := 417) (by decide +kernel) (by decide +kernel)
theorem nm_arraycopyName : Cond.native arraycopyName ∈ qws := qws_in (i := 418) (by decide +kernel) (by decide +kernel)
theorem lm_L_37 : Cond.methodLink RL 37 yX9_mean ∈ qws := qws_in (i := 419) (by decide +kernel) (by decide +kernel)
theorem im_yX9_mean : Cond.instanceMethod yX9_mean ∈ qws := qws_in (i := 420) (by decide +kernel) (by decide +kernel)
theorem se_yX9_mean : Cond.selects RX9 yX9_mean yX9_mean ∈ qws := qws_in (i := 421) (by decide +kernel) (by decide +kernel)
theorem cd_yX9_mean : Cond.code yX9_mean cX9_mean 3 (some .int) ∈ qws := qws_in (i := 422) (by decide +kernel) (by decide +kernel)
theorem lm_X9_134 : Cond.methodLink RX9 134 yX5_sum ∈ qws := qws_in (i := 423) (by decide +kernel) (by decide +kernel)
theorem im_yX5_sum : Cond.instanceMethod yX5_sum ∈ qws := qws_in (i := 424) (by decide +kernel) (by decide +kernel)
theorem se_yX5_sum : Cond.selects RX5 yX5_sum yX5_sum ∈ qws := qws_in (i := 425) (by decide +kernel) (by decide +kernel)
theorem cd_yX5_sum : Cond.code yX5_sum cX5_sum 4 (some .long) ∈ qws := qws_in (i := 426) (by decide +kernel) (by decide +kernel)
theorem lm_L_41 : Cond.methodLink RL 41 yX9_text ∈ qws := qws_in (i := 427) (by decide +kernel) (by decide +kernel)
theorem im_yX9_text : Cond.instanceMethod yX9_text ∈ qws := qws_in (i := 428) (by decide +kernel) (by decide +kernel)
theorem se_yX9_text : Cond.selects RX9 yX9_text yX9_text ∈ qws := qws_in (i := 429) (by decide +kernel) (by decide +kernel)
theorem cd_yX9_text : Cond.code yX9_text cX9_text 3 (some .int) ∈ qws := qws_in (i := 430) (by decide +kernel) (by decide +kernel)
theorem lm_X9_138 : Cond.methodLink RX9 138 yX9_isText ∈ qws := qws_in (i := 431) (by decide +kernel) (by decide +kernel)
theorem sm_yX9_isText : Cond.static yX9_isText ∈ qws := qws_in (i := 432) (by decide +kernel) (by decide +kernel)
theorem cd_yX9_isText : Cond.code yX9_isText cX9_isText 1 (some .boolean) ∈ qws := qws_in (i := 433) (by decide +kernel) (by decide +kernel)
theorem lm_X9_141 : Cond.methodLink RX9 141 yX7_begin ∈ qws := qws_in (i := 434) (by decide +kernel) (by decide +kernel)
theorem im_yX7_begin : Cond.instanceMethod yX7_begin ∈ qws := qws_in (i := 435) (by decide +kernel) (by decide +kernel)
theorem se_yX7_begin : Cond.selects RX7 yX7_begin yX7_begin ∈ qws := qws_in (i := 436) (by decide +kernel) (by decide +kernel)
theorem cd_yX7_begin : Cond.code yX7_begin cX7_begin 2 none ∈ qws := qws_in (i := 437) (by decide +kernel) (by decide +kernel)
theorem lm_X7_19 : Cond.methodLink RX7 19 yJ7_fill_031fb ∈ qws := qws_in (i := 438) (by decide +kernel) (by decide +kernel)
theorem sm_yJ7_fill_031fb : Cond.static yJ7_fill_031fb ∈ qws := qws_in (i := 439) (by decide +kernel) (by decide +kernel)
theorem cd_yJ7_fill_031fb : Cond.code yJ7_fill_031fb cJ7_fill_031fb 4 none ∈ qws := qws_in (i := 440) (by decide +kernel) (by decide +kernel)
theorem lm_L_45 : Cond.methodLink RL 45 yX9_put ∈ qws := qws_in (i := 441) (by decide +kernel) (by decide +kernel)
theorem im_yX9_put : Cond.instanceMethod yX9_put ∈ qws := qws_in (i := 442) (by decide +kernel) (by decide +kernel)
theorem se_yX9_put : Cond.selects RX9 yX9_put yX9_put ∈ qws := qws_in (i := 443) (by decide +kernel) (by decide +kernel)
theorem cd_yX9_put : Cond.code yX9_put cX9_put 5 (some .int) ∈ qws := qws_in (i := 444) (by decide +kernel) (by decide +kernel)
theorem lm_X9_142 : Cond.methodLink RX9 142 yX7_isThere ∈ qws := qws_in (i := 445) (by decide +kernel) (by decide +kernel)
theorem im_yX7_isThere : Cond.instanceMethod yX7_isThere ∈ qws := qws_in (i := 446) (by decide +kernel) (by decide +kernel)
theorem se_yX7_isThere : Cond.selects RX7 yX7_isThere yX7_isThere ∈ qws := qws_in (i := 447) (by decide +kernel) (by decide +kernel)
theorem cd_yX7_isThere : Cond.code yX7_isThere cX7_isThere 1 (some .boolean) ∈ qws := qws_in (i := 448) (by decide +kernel) (by decide +kernel)
theorem lm_L_49 : Cond.methodLink RL 49 yX9_fault ∈ qws := qws_in (i := 449) (by decide +kernel) (by decide +kernel)
theorem im_yX9_fault : Cond.instanceMethod yX9_fault ∈ qws := qws_in (i := 450) (by decide +kernel) (by decide +kernel)
theorem se_yX9_fault : Cond.selects RX9 yX9_fault yX9_fault ∈ qws := qws_in (i := 451) (by decide +kernel) (by decide +kernel)
theorem cd_yX9_fault : Cond.code yX9_fault cX9_fault 2 (some .int) ∈ qws := qws_in (i := 452) (by decide +kernel) (by decide +kernel)
theorem lm_X9_148 : Cond.methodLink RX9 148 yX4_faultIn ∈ qws := qws_in (i := 453) (by decide +kernel) (by decide +kernel)
theorem im_yX4_faultIn : Cond.instanceMethod yX4_faultIn ∈ qws := qws_in (i := 454) (by decide +kernel) (by decide +kernel)
theorem se_yX4_faultIn : Cond.selects RX4 yX4_faultIn yX4_faultIn ∈ qws := qws_in (i := 455) (by decide +kernel) (by decide +kernel)
theorem cd_yX4_faultIn : Cond.code yX4_faultIn cX4_faultIn 6 (some .int) ∈ qws := qws_in (i := 456) (by decide +kernel) (by decide +kernel)
theorem lm_X4_34 : Cond.methodLink RX4 34 yX4_kindOf ∈ qws := qws_in (i := 457) (by decide +kernel) (by decide +kernel)
theorem sm_yX4_kindOf : Cond.static yX4_kindOf ∈ qws := qws_in (i := 458) (by decide +kernel) (by decide +kernel)
theorem cd_yX4_kindOf : Cond.code yX4_kindOf cX4_kindOf 2 (some .int) ∈ qws := qws_in (i := 459) (by decide +kernel) (by decide +kernel)
theorem lm_X4_38 : Cond.methodLink RX4 38 yX4_faultInCape ∈ qws := qws_in (i := 462) (by decide +kernel) (by decide +kernel)
theorem im_yX4_faultInCape : Cond.instanceMethod yX4_faultInCape ∈ qws := qws_in (i := 464) (by decide +kernel) (by decide +kernel)
theorem cd_yX4_faultInCape : Cond.code yX4_faultInCape cX4_faultInCape 6 (some .int) ∈ qws := qws_in (i := 465) (by decide +kernel) (by decide +kernel)
theorem lm_X4_45 : Cond.methodLink RX4 45 yX4_figureAt ∈ qws := qws_in (i := 466) (by decide +kernel) (by decide +kernel)
theorem sm_yX4_figureAt : Cond.static yX4_figureAt ∈ qws := qws_in (i := 467) (by decide +kernel) (by decide +kernel)
theorem cd_yX4_figureAt : Cond.code yX4_figureAt cX4_figureAt 3 (some .int) ∈ qws := qws_in (i := 468) (by decide +kernel) (by decide +kernel)
theorem lm_X4_42 : Cond.methodLink RX4 42 yX4_faultInValley ∈ qws := qws_in (i := 469) (by decide +kernel) (by decide +kernel)
theorem im_yX4_faultInValley : Cond.instanceMethod yX4_faultInValley ∈ qws := qws_in (i := 471) (by decide +kernel) (by decide +kernel)
theorem cd_yX4_faultInValley : Cond.code yX4_faultInValley cX4_faultInValley 7 (some .int) ∈ qws := qws_in (i := 472) (by decide +kernel) (by decide +kernel)
theorem lm_X4_48 : Cond.methodLink RX4 48 yX4_leastFigure ∈ qws := qws_in (i := 473) (by decide +kernel) (by decide +kernel)
theorem im_yX4_leastFigure : Cond.instanceMethod yX4_leastFigure ∈ qws := qws_in (i := 475) (by decide +kernel) (by decide +kernel)
theorem cd_yX4_leastFigure : Cond.code yX4_leastFigure cX4_leastFigure 3 (some .int) ∈ qws := qws_in (i := 476) (by decide +kernel) (by decide +kernel)
theorem lm_L_53 : Cond.methodLink RL 53 yX9_year ∈ qws := qws_in (i := 477) (by decide +kernel) (by decide +kernel)
theorem im_yX9_year : Cond.instanceMethod yX9_year ∈ qws := qws_in (i := 478) (by decide +kernel) (by decide +kernel)
theorem se_yX9_year : Cond.selects RX9 yX9_year yX9_year ∈ qws := qws_in (i := 479) (by decide +kernel) (by decide +kernel)
theorem cd_yX9_year : Cond.code yX9_year cX9_year 3 (some .int) ∈ qws := qws_in (i := 480) (by decide +kernel) (by decide +kernel)
theorem lm_X9_152 : Cond.methodLink RX9 152 yX8_begin ∈ qws := qws_in (i := 481) (by decide +kernel) (by decide +kernel)
theorem im_yX8_begin : Cond.instanceMethod yX8_begin ∈ qws := qws_in (i := 482) (by decide +kernel) (by decide +kernel)
theorem se_yX8_begin : Cond.selects RX8 yX8_begin yX8_begin ∈ qws := qws_in (i := 483) (by decide +kernel) (by decide +kernel)
theorem cd_yX8_begin : Cond.code yX8_begin cX8_begin 4 none ∈ qws := qws_in (i := 484) (by decide +kernel) (by decide +kernel)
theorem lm_X8_41 : Cond.methodLink RX8 41 yJ7_fill_53178 ∈ qws := qws_in (i := 485) (by decide +kernel) (by decide +kernel)
theorem lm_X9_155 : Cond.methodLink RX9 155 yX1_begin ∈ qws := qws_in (i := 488) (by decide +kernel) (by decide +kernel)
theorem im_yX1_begin : Cond.instanceMethod yX1_begin ∈ qws := qws_in (i := 489) (by decide +kernel) (by decide +kernel)
theorem se_yX1_begin : Cond.selects RX1 yX1_begin yX1_begin ∈ qws := qws_in (i := 490) (by decide +kernel) (by decide +kernel)
theorem cd_yX1_begin : Cond.code yX1_begin cX1_begin 3 none ∈ qws := qws_in (i := 491) (by decide +kernel) (by decide +kernel)
theorem lm_X1_28 : Cond.methodLink RX1 28 yJ7_fill_53178 ∈ qws := qws_in (i := 492) (by decide +kernel) (by decide +kernel)
theorem lm_L_57 : Cond.methodLink RL 57 yX9_cape ∈ qws := qws_in (i := 493) (by decide +kernel) (by decide +kernel)
theorem im_yX9_cape : Cond.instanceMethod yX9_cape ∈ qws := qws_in (i := 494) (by decide +kernel) (by decide +kernel)
theorem se_yX9_cape : Cond.selects RX9 yX9_cape yX9_cape ∈ qws := qws_in (i := 495) (by decide +kernel) (by decide +kernel)
theorem cd_yX9_cape : Cond.code yX9_cape cX9_cape 3 (some .int) ∈ qws := qws_in (i := 496) (by decide +kernel) (by decide +kernel)
theorem lm_X9_159 : Cond.methodLink RX9 159 yX8_hasCape ∈ qws := qws_in (i := 497) (by decide +kernel) (by decide +kernel)
theorem im_yX8_hasCape : Cond.instanceMethod yX8_hasCape ∈ qws := qws_in (i := 498) (by decide +kernel) (by decide +kernel)
theorem se_yX8_hasCape : Cond.selects RX8 yX8_hasCape yX8_hasCape ∈ qws := qws_in (i := 499) (by decide +kernel) (by decide +kernel)
theorem cd_yX8_hasCape : Cond.code yX8_hasCape cX8_hasCape 2 (some .boolean) ∈ qws := qws_in (i := 500) (by decide +kernel) (by decide +kernel)
theorem lm_X9_162 : Cond.methodLink RX9 162 yX9_factOfCape ∈ qws := qws_in (i := 501) (by decide +kernel) (by decide +kernel)
theorem im_yX9_factOfCape : Cond.instanceMethod yX9_factOfCape ∈ qws := qws_in (i := 503) (by decide +kernel) (by decide +kernel)
theorem cd_yX9_factOfCape : Cond.code yX9_factOfCape cX9_factOfCape 3 (some .int) ∈ qws := qws_in (i := 504) (by decide +kernel) (by decide +kernel)
theorem lm_X9_336 : Cond.methodLink RX9 336 yX1_look ∈ qws := qws_in (i := 505) (by decide +kernel) (by decide +kernel)
theorem im_yX1_look : Cond.instanceMethod yX1_look ∈ qws := qws_in (i := 506) (by decide +kernel) (by decide +kernel)
theorem se_yX1_look : Cond.selects RX1 yX1_look yX1_look ∈ qws := qws_in (i := 507) (by decide +kernel) (by decide +kernel)
theorem cd_yX1_look : Cond.code yX1_look cX1_look 4 none ∈ qws := qws_in (i := 508) (by decide +kernel) (by decide +kernel)
theorem lm_X1_48 : Cond.methodLink RX1 48 yX1_isDown ∈ qws := qws_in (i := 509) (by decide +kernel) (by decide +kernel)
theorem im_yX1_isDown : Cond.instanceMethod yX1_isDown ∈ qws := qws_in (i := 510) (by decide +kernel) (by decide +kernel)
theorem se_yX1_isDown : Cond.selects RX1 yX1_isDown yX1_isDown ∈ qws := qws_in (i := 511) (by decide +kernel) (by decide +kernel)
theorem cd_yX1_isDown : Cond.code yX1_isDown cX1_isDown 1 (some .boolean) ∈ qws := qws_in (i := 512) (by decide +kernel) (by decide +kernel)
theorem lm_X1_58 : Cond.methodLink RX1 58 yX1_isAtEvenPlace ∈ qws := qws_in (i := 513) (by decide +kernel) (by decide +kernel)
theorem im_yX1_isAtEvenPlace : Cond.instanceMethod yX1_isAtEvenPlace ∈ qws := qws_in (i := 514) (by decide +kernel) (by decide +kernel)
theorem se_yX1_isAtEvenPlace : Cond.selects RX1 yX1_isAtEvenPlace yX1_isAtEvenPlace ∈ qws := qws_in (i := 515) (by decide +kernel) (by decide +kernel)
theorem cd_yX1_isAtEvenPlace : Cond.code yX1_isAtEvenPlace cX1_isAtEvenPlace 1 (some .boolean) ∈ qws := qws_in (i := 516) (by decide +kernel) (by decide +kernel)
theorem lm_X9_262 : Cond.methodLink RX9 262 yX8_pullOf ∈ qws := qws_in (i := 517) (by decide +kernel) (by decide +kernel)
theorem im_yX8_pullOf : Cond.instanceMethod yX8_pullOf ∈ qws := qws_in (i := 518) (by decide +kernel) (by decide +kernel)
theorem se_yX8_pullOf : Cond.selects RX8 yX8_pullOf yX8_pullOf ∈ qws := qws_in (i := 519) (by decide +kernel) (by decide +kernel)
theorem cd_yX8_pullOf : Cond.code yX8_pullOf cX8_pullOf 2 (some .int) ∈ qws := qws_in (i := 520) (by decide +kernel) (by decide +kernel)
theorem lm_X8_60 : Cond.methodLink RX8 60 yJ6_bitCount_0f7a4 ∈ qws := qws_in (i := 521) (by decide +kernel) (by decide +kernel)
theorem sm_yJ6_bitCount_0f7a4 : Cond.static yJ6_bitCount_0f7a4 ∈ qws := qws_in (i := 522) (by decide +kernel) (by decide +kernel)
theorem cd_yJ6_bitCount_0f7a4 : Cond.code yJ6_bitCount_0f7a4 cJ6_bitCount_0f7a4 1 (some .int) ∈ qws := qws_in (i := 523) (by decide +kernel) (by decide +kernel)
theorem lk_J6_265 : Cond.constant RJ6 265 (1431655765 : Int32) ∈ qws := qws_in (i := 524) (by decide +kernel) (by decide +kernel)
theorem lk_J6_266 : Cond.constant RJ6 266 (858993459 : Int32) ∈ qws := qws_in (i := 525) (by decide +kernel) (by decide +kernel)
theorem lk_J6_267 : Cond.constant RJ6 267 (252645135 : Int32) ∈ qws := qws_in (i := 526) (by decide +kernel) (by decide +kernel)
theorem lm_L_61 : Cond.methodLink RL 61 yX9_valley ∈ qws := qws_in (i := 527) (by decide +kernel) (by decide +kernel)
theorem im_yX9_valley : Cond.instanceMethod yX9_valley ∈ qws := qws_in (i := 528) (by decide +kernel) (by decide +kernel)
theorem se_yX9_valley : Cond.selects RX9 yX9_valley yX9_valley ∈ qws := qws_in (i := 529) (by decide +kernel) (by decide +kernel)
theorem cd_yX9_valley : Cond.code yX9_valley cX9_valley 3 (some .int) ∈ qws := qws_in (i := 530) (by decide +kernel) (by decide +kernel)
theorem lm_X9_165 : Cond.methodLink RX9 165 yX8_hasValley ∈ qws := qws_in (i := 531) (by decide +kernel) (by decide +kernel)
theorem im_yX8_hasValley : Cond.instanceMethod yX8_hasValley ∈ qws := qws_in (i := 532) (by decide +kernel) (by decide +kernel)
theorem se_yX8_hasValley : Cond.selects RX8 yX8_hasValley yX8_hasValley ∈ qws := qws_in (i := 533) (by decide +kernel) (by decide +kernel)
theorem cd_yX8_hasValley : Cond.code yX8_hasValley cX8_hasValley 2 (some .boolean) ∈ qws := qws_in (i := 534) (by decide +kernel) (by decide +kernel)
theorem lm_X9_168 : Cond.methodLink RX9 168 yX9_factOfValley ∈ qws := qws_in (i := 535) (by decide +kernel) (by decide +kernel)
theorem im_yX9_factOfValley : Cond.instanceMethod yX9_factOfValley ∈ qws := qws_in (i := 537) (by decide +kernel) (by decide +kernel)
theorem cd_yX9_factOfValley : Cond.code yX9_factOfValley cX9_factOfValley 3 (some .int) ∈ qws := qws_in (i := 538) (by decide +kernel) (by decide +kernel)
theorem lm_L_65 : Cond.methodLink RL 65 yX9_mark ∈ qws := qws_in (i := 539) (by decide +kernel) (by decide +kernel)
theorem im_yX9_mark : Cond.instanceMethod yX9_mark ∈ qws := qws_in (i := 540) (by decide +kernel) (by decide +kernel)
theorem se_yX9_mark : Cond.selects RX9 yX9_mark yX9_mark ∈ qws := qws_in (i := 541) (by decide +kernel) (by decide +kernel)
theorem cd_yX9_mark : Cond.code yX9_mark cX9_mark 3 (some .int) ∈ qws := qws_in (i := 542) (by decide +kernel) (by decide +kernel)
theorem lm_X9_174 : Cond.methodLink RX9 174 yX9_markOf ∈ qws := qws_in (i := 543) (by decide +kernel) (by decide +kernel)
theorem im_yX9_markOf : Cond.instanceMethod yX9_markOf ∈ qws := qws_in (i := 545) (by decide +kernel) (by decide +kernel)
theorem cd_yX9_markOf : Cond.code yX9_markOf cX9_markOf 3 (some .int) ∈ qws := qws_in (i := 546) (by decide +kernel) (by decide +kernel)
theorem lm_X9_196 : Cond.methodLink RX9 196 yX1_isDown ∈ qws := qws_in (i := 547) (by decide +kernel) (by decide +kernel)
theorem lm_X9_351 : Cond.methodLink RX9 351 yX1_isAtEvenPlace ∈ qws := qws_in (i := 548) (by decide +kernel) (by decide +kernel)
theorem lm_X9_273 : Cond.methodLink RX9 273 yJ6_bitCount_0f7a4 ∈ qws := qws_in (i := 549) (by decide +kernel) (by decide +kernel)
theorem lm_X9_354 : Cond.methodLink RX9 354 yJ9_max_7cf53 ∈ qws := qws_in (i := 550) (by decide +kernel) (by decide +kernel)
theorem sm_yJ9_max_7cf53 : Cond.static yJ9_max_7cf53 ∈ qws := qws_in (i := 551) (by decide +kernel) (by decide +kernel)
theorem cd_yJ9_max_7cf53 : Cond.code yJ9_max_7cf53 cJ9_max_7cf53 2 (some .int) ∈ qws := qws_in (i := 552) (by decide +kernel) (by decide +kernel)
theorem lm_L_69 : Cond.methodLink RL 69 yX9_price ∈ qws := qws_in (i := 553) (by decide +kernel) (by decide +kernel)
theorem im_yX9_price : Cond.instanceMethod yX9_price ∈ qws := qws_in (i := 554) (by decide +kernel) (by decide +kernel)
theorem se_yX9_price : Cond.selects RX9 yX9_price yX9_price ∈ qws := qws_in (i := 555) (by decide +kernel) (by decide +kernel)
theorem cd_yX9_price : Cond.code yX9_price cX9_price 4 (some .int) ∈ qws := qws_in (i := 556) (by decide +kernel) (by decide +kernel)
theorem lm_L_73 : Cond.methodLink RL 73 yX9_hold ∈ qws := qws_in (i := 557) (by decide +kernel) (by decide +kernel)
theorem im_yX9_hold : Cond.instanceMethod yX9_hold ∈ qws := qws_in (i := 558) (by decide +kernel) (by decide +kernel)
theorem se_yX9_hold : Cond.selects RX9 yX9_hold yX9_hold ∈ qws := qws_in (i := 559) (by decide +kernel) (by decide +kernel)
theorem cd_yX9_hold : Cond.code yX9_hold cX9_hold 3 (some .int) ∈ qws := qws_in (i := 560) (by decide +kernel) (by decide +kernel)
theorem lm_X9_180 : Cond.methodLink RX9 180 yX8_hasSet ∈ qws := qws_in (i := 561) (by decide +kernel) (by decide +kernel)
theorem im_yX8_hasSet : Cond.instanceMethod yX8_hasSet ∈ qws := qws_in (i := 562) (by decide +kernel) (by decide +kernel)
theorem se_yX8_hasSet : Cond.selects RX8 yX8_hasSet yX8_hasSet ∈ qws := qws_in (i := 563) (by decide +kernel) (by decide +kernel)
theorem cd_yX8_hasSet : Cond.code yX8_hasSet cX8_hasSet 2 (some .boolean) ∈ qws := qws_in (i := 564) (by decide +kernel) (by decide +kernel)
theorem lm_X8_56 : Cond.methodLink RX8 56 yX8_allCapes ∈ qws := qws_in (i := 565) (by decide +kernel) (by decide +kernel)
theorem im_yX8_allCapes : Cond.instanceMethod yX8_allCapes ∈ qws := qws_in (i := 566) (by decide +kernel) (by decide +kernel)
theorem se_yX8_allCapes : Cond.selects RX8 yX8_allCapes yX8_allCapes ∈ qws := qws_in (i := 567) (by decide +kernel) (by decide +kernel)
theorem cd_yX8_allCapes : Cond.code yX8_allCapes cX8_allCapes 1 (some .int) ∈ qws := qws_in (i := 568) (by decide +kernel) (by decide +kernel)
theorem lm_X9_183 : Cond.methodLink RX9 183 yX9_trueHour ∈ qws := qws_in (i := 569) (by decide +kernel) (by decide +kernel)
theorem im_yX9_trueHour : Cond.instanceMethod yX9_trueHour ∈ qws := qws_in (i := 571) (by decide +kernel) (by decide +kernel)
theorem cd_yX9_trueHour : Cond.code yX9_trueHour cX9_trueHour 2 (some .int) ∈ qws := qws_in (i := 572) (by decide +kernel) (by decide +kernel)
theorem lm_X9_189 : Cond.methodLink RX9 189 yX2_write ∈ qws := qws_in (i := 573) (by decide +kernel) (by decide +kernel)
theorem im_yX2_write : Cond.instanceMethod yX2_write ∈ qws := qws_in (i := 574) (by decide +kernel) (by decide +kernel)
theorem se_yX2_write : Cond.selects RX2 yX2_write yX2_write ∈ qws := qws_in (i := 575) (by decide +kernel) (by decide +kernel)
theorem cd_yX2_write : Cond.code yX2_write cX2_write 2 none ∈ qws := qws_in (i := 576) (by decide +kernel) (by decide +kernel)
theorem lm_X2_33 : Cond.methodLink RX2 33 yX2_writeLast ∈ qws := qws_in (i := 577) (by decide +kernel) (by decide +kernel)
theorem im_yX2_writeLast : Cond.instanceMethod yX2_writeLast ∈ qws := qws_in (i := 578) (by decide +kernel) (by decide +kernel)
theorem se_yX2_writeLast : Cond.selects RX2 yX2_writeLast yX2_writeLast ∈ qws := qws_in (i := 579) (by decide +kernel) (by decide +kernel)
theorem cd_yX2_writeLast : Cond.code yX2_writeLast cX2_writeLast 2 none ∈ qws := qws_in (i := 580) (by decide +kernel) (by decide +kernel)
theorem lm_X2_27 : Cond.methodLink RX2 27 arraycopyName ∈ qws := qws_in (i := 581) (by decide +kernel) (by decide +kernel)
theorem lm_X9_325 : Cond.methodLink RX9 325 yX1_collect ∈ qws := qws_in (i := 582) (by decide +kernel) (by decide +kernel)
theorem im_yX1_collect : Cond.instanceMethod yX1_collect ∈ qws := qws_in (i := 583) (by decide +kernel) (by decide +kernel)
theorem se_yX1_collect : Cond.selects RX1 yX1_collect yX1_collect ∈ qws := qws_in (i := 584) (by decide +kernel) (by decide +kernel)
theorem cd_yX1_collect : Cond.code yX1_collect cX1_collect 3 none ∈ qws := qws_in (i := 585) (by decide +kernel) (by decide +kernel)
theorem lm_X1_79 : Cond.methodLink RX1 79 yX8_gainOf ∈ qws := qws_in (i := 586) (by decide +kernel) (by decide +kernel)
theorem im_yX8_gainOf : Cond.instanceMethod yX8_gainOf ∈ qws := qws_in (i := 587) (by decide +kernel) (by decide +kernel)
theorem se_yX8_gainOf : Cond.selects RX8 yX8_gainOf yX8_gainOf ∈ qws := qws_in (i := 588) (by decide +kernel) (by decide +kernel)
theorem cd_yX8_gainOf : Cond.code yX8_gainOf cX8_gainOf 5 (some .int) ∈ qws := qws_in (i := 589) (by decide +kernel) (by decide +kernel)
theorem lm_X9_329 : Cond.methodLink RX9 329 yX1_goOn ∈ qws := qws_in (i := 590) (by decide +kernel) (by decide +kernel)
theorem im_yX1_goOn : Cond.instanceMethod yX1_goOn ∈ qws := qws_in (i := 591) (by decide +kernel) (by decide +kernel)
theorem se_yX1_goOn : Cond.selects RX1 yX1_goOn yX1_goOn ∈ qws := qws_in (i := 592) (by decide +kernel) (by decide +kernel)
theorem cd_yX1_goOn : Cond.code yX1_goOn cX1_goOn 4 (some .int) ∈ qws := qws_in (i := 593) (by decide +kernel) (by decide +kernel)
theorem lm_X1_82 : Cond.methodLink RX1 82 yX1_look ∈ qws := qws_in (i := 594) (by decide +kernel) (by decide +kernel)
theorem lm_X1_86 : Cond.methodLink RX1 86 yX1_minuteBehind ∈ qws := qws_in (i := 595) (by decide +kernel) (by decide +kernel)
theorem im_yX1_minuteBehind : Cond.instanceMethod yX1_minuteBehind ∈ qws := qws_in (i := 596) (by decide +kernel) (by decide +kernel)
theorem se_yX1_minuteBehind : Cond.selects RX1 yX1_minuteBehind yX1_minuteBehind ∈ qws := qws_in (i := 597) (by decide +kernel) (by decide +kernel)
theorem cd_yX1_minuteBehind : Cond.code yX1_minuteBehind cX1_minuteBehind 5 (some .int) ∈ qws := qws_in (i := 598) (by decide +kernel) (by decide +kernel)
theorem lm_X1_61 : Cond.methodLink RX1 61 yJ6_bitCount_0f7a4 ∈ qws := qws_in (i := 599) (by decide +kernel) (by decide +kernel)
theorem lm_X1_67 : Cond.methodLink RX1 67 yX8_pullOf ∈ qws := qws_in (i := 600) (by decide +kernel) (by decide +kernel)
theorem lm_X1_70 : Cond.methodLink RX1 70 yJ9_max_7cf53 ∈ qws := qws_in (i := 601) (by decide +kernel) (by decide +kernel)
theorem lm_X1_90 : Cond.methodLink RX1 90 yJ9_min_7cf53 ∈ qws := qws_in (i := 602) (by decide +kernel) (by decide +kernel)
theorem sm_yJ9_min_7cf53 : Cond.static yJ9_min_7cf53 ∈ qws := qws_in (i := 603) (by decide +kernel) (by decide +kernel)
theorem cd_yJ9_min_7cf53 : Cond.code yJ9_min_7cf53 cJ9_min_7cf53 2 (some .int) ∈ qws := qws_in (i := 604) (by decide +kernel) (by decide +kernel)
theorem lm_X1_93 : Cond.methodLink RX1 93 yX1_wearAndRest ∈ qws := qws_in (i := 605) (by decide +kernel) (by decide +kernel)
theorem im_yX1_wearAndRest : Cond.instanceMethod yX1_wearAndRest ∈ qws := qws_in (i := 607) (by decide +kernel) (by decide +kernel)
theorem cd_yX1_wearAndRest : Cond.code yX1_wearAndRest cX1_wearAndRest 6 none ∈ qws := qws_in (i := 608) (by decide +kernel) (by decide +kernel)
theorem lm_L_77 : Cond.methodLink RL 77 yX9_rope ∈ qws := qws_in (i := 609) (by decide +kernel) (by decide +kernel)
theorem im_yX9_rope : Cond.instanceMethod yX9_rope ∈ qws := qws_in (i := 610) (by decide +kernel) (by decide +kernel)
theorem se_yX9_rope : Cond.selects RX9 yX9_rope yX9_rope ∈ qws := qws_in (i := 611) (by decide +kernel) (by decide +kernel)
theorem cd_yX9_rope : Cond.code yX9_rope cX9_rope 4 (some .int) ∈ qws := qws_in (i := 612) (by decide +kernel) (by decide +kernel)
theorem lm_L_81 : Cond.methodLink RL 81 yX9_rise ∈ qws := qws_in (i := 613) (by decide +kernel) (by decide +kernel)
theorem im_yX9_rise : Cond.instanceMethod yX9_rise ∈ qws := qws_in (i := 614) (by decide +kernel) (by decide +kernel)
theorem se_yX9_rise : Cond.selects RX9 yX9_rise yX9_rise ∈ qws := qws_in (i := 615) (by decide +kernel) (by decide +kernel)
theorem cd_yX9_rise : Cond.code yX9_rise cX9_rise 2 (some .int) ∈ qws := qws_in (i := 616) (by decide +kernel) (by decide +kernel)
theorem lm_X9_199 : Cond.methodLink RX9 199 yJ9_min_7cf53 ∈ qws := qws_in (i := 617) (by decide +kernel) (by decide +kernel)
theorem lm_L_86 : Cond.methodLink RL 86 yX9_undo ∈ qws := qws_in (i := 618) (by decide +kernel) (by decide +kernel)
theorem im_yX9_undo : Cond.instanceMethod yX9_undo ∈ qws := qws_in (i := 619) (by decide +kernel) (by decide +kernel)
theorem se_yX9_undo : Cond.selects RX9 yX9_undo yX9_undo ∈ qws := qws_in (i := 620) (by decide +kernel) (by decide +kernel)
theorem cd_yX9_undo : Cond.code yX9_undo cX9_undo 3 (some .int) ∈ qws := qws_in (i := 621) (by decide +kernel) (by decide +kernel)
theorem lm_X9_204 : Cond.methodLink RX9 204 yX2_goBack ∈ qws := qws_in (i := 622) (by decide +kernel) (by decide +kernel)
theorem im_yX2_goBack : Cond.instanceMethod yX2_goBack ∈ qws := qws_in (i := 623) (by decide +kernel) (by decide +kernel)
theorem se_yX2_goBack : Cond.selects RX2 yX2_goBack yX2_goBack ∈ qws := qws_in (i := 624) (by decide +kernel) (by decide +kernel)
theorem cd_yX2_goBack : Cond.code yX2_goBack cX2_goBack 3 none ∈ qws := qws_in (i := 625) (by decide +kernel) (by decide +kernel)
theorem lm_L_90 : Cond.methodLink RL 90 yX9_sun ∈ qws := qws_in (i := 626) (by decide +kernel) (by decide +kernel)
theorem im_yX9_sun : Cond.instanceMethod yX9_sun ∈ qws := qws_in (i := 627) (by decide +kernel) (by decide +kernel)
theorem se_yX9_sun : Cond.selects RX9 yX9_sun yX9_sun ∈ qws := qws_in (i := 628) (by decide +kernel) (by decide +kernel)
theorem cd_yX9_sun : Cond.code yX9_sun cX9_sun 1 (some .int) ∈ qws := qws_in (i := 629) (by decide +kernel) (by decide +kernel)
theorem lm_L_94 : Cond.methodLink RL 94 yX9_gained ∈ qws := qws_in (i := 630) (by decide +kernel) (by decide +kernel)
theorem im_yX9_gained : Cond.instanceMethod yX9_gained ∈ qws := qws_in (i := 631) (by decide +kernel) (by decide +kernel)
theorem se_yX9_gained : Cond.selects RX9 yX9_gained yX9_gained ∈ qws := qws_in (i := 632) (by decide +kernel) (by decide +kernel)
theorem cd_yX9_gained : Cond.code yX9_gained cX9_gained 6 (some .int) ∈ qws := qws_in (i := 633) (by decide +kernel) (by decide +kernel)
theorem lm_L_98 : Cond.methodLink RL 98 yX9_keep ∈ qws := qws_in (i := 634) (by decide +kernel) (by decide +kernel)
theorem im_yX9_keep : Cond.instanceMethod yX9_keep ∈ qws := qws_in (i := 635) (by decide +kernel) (by decide +kernel)
theorem se_yX9_keep : Cond.selects RX9 yX9_keep yX9_keep ∈ qws := qws_in (i := 636) (by decide +kernel) (by decide +kernel)
theorem cd_yX9_keep : Cond.code yX9_keep cX9_keep 2 (some .int) ∈ qws := qws_in (i := 637) (by decide +kernel) (by decide +kernel)
theorem lm_X9_211 : Cond.methodLink RX9 211 yX9_isKeptPlace ∈ qws := qws_in (i := 638) (by decide +kernel) (by decide +kernel)
theorem sm_yX9_isKeptPlace : Cond.static yX9_isKeptPlace ∈ qws := qws_in (i := 639) (by decide +kernel) (by decide +kernel)
theorem cd_yX9_isKeptPlace : Cond.code yX9_isKeptPlace cX9_isKeptPlace 1 (some .boolean) ∈ qws := qws_in (i := 640) (by decide +kernel) (by decide +kernel)
theorem lm_X9_214 : Cond.methodLink RX9 214 yX2_writeLast ∈ qws := qws_in (i := 641) (by decide +kernel) (by decide +kernel)
theorem lm_X9_217 : Cond.methodLink RX9 217 yX2_take ∈ qws := qws_in (i := 642) (by decide +kernel) (by decide +kernel)
theorem im_yX2_take : Cond.instanceMethod yX2_take ∈ qws := qws_in (i := 643) (by decide +kernel) (by decide +kernel)
theorem se_yX2_take : Cond.selects RX2 yX2_take yX2_take ∈ qws := qws_in (i := 644) (by decide +kernel) (by decide +kernel)
theorem cd_yX2_take : Cond.code yX2_take cX2_take 2 none ∈ qws := qws_in (i := 645) (by decide +kernel) (by decide +kernel)
theorem lm_L_102 : Cond.methodLink RL 102 yX9_on ∈ qws := qws_in (i := 646) (by decide +kernel) (by decide +kernel)
theorem im_yX9_on : Cond.instanceMethod yX9_on ∈ qws := qws_in (i := 647) (by decide +kernel) (by decide +kernel)
theorem se_yX9_on : Cond.selects RX9 yX9_on yX9_on ∈ qws := qws_in (i := 648) (by decide +kernel) (by decide +kernel)
theorem cd_yX9_on : Cond.code yX9_on cX9_on 2 (some .int) ∈ qws := qws_in (i := 649) (by decide +kernel) (by decide +kernel)
theorem lm_L_106 : Cond.methodLink RL 106 yX9_run ∈ qws := qws_in (i := 650) (by decide +kernel) (by decide +kernel)
theorem im_yX9_run : Cond.instanceMethod yX9_run ∈ qws := qws_in (i := 651) (by decide +kernel) (by decide +kernel)
theorem se_yX9_run : Cond.selects RX9 yX9_run yX9_run ∈ qws := qws_in (i := 652) (by decide +kernel) (by decide +kernel)
theorem cd_yX9_run : Cond.code yX9_run cX9_run 4 (some .int) ∈ qws := qws_in (i := 653) (by decide +kernel) (by decide +kernel)
theorem lm_X9_222 : Cond.methodLink RX9 222 yX9_planRefusal ∈ qws := qws_in (i := 654) (by decide +kernel) (by decide +kernel)
theorem im_yX9_planRefusal : Cond.instanceMethod yX9_planRefusal ∈ qws := qws_in (i := 656) (by decide +kernel) (by decide +kernel)
theorem cd_yX9_planRefusal : Cond.code yX9_planRefusal cX9_planRefusal 5 (some .int) ∈ qws := qws_in (i := 657) (by decide +kernel) (by decide +kernel)
theorem lm_X9_282 : Cond.methodLink RX9 282 yX9_rowRefusal ∈ qws := qws_in (i := 658) (by decide +kernel) (by decide +kernel)
theorem im_yX9_rowRefusal : Cond.instanceMethod yX9_rowRefusal ∈ qws := qws_in (i := 660) (by decide +kernel) (by decide +kernel)
theorem cd_yX9_rowRefusal : Cond.code yX9_rowRefusal cX9_rowRefusal 2 (some .int) ∈ qws := qws_in (i := 661) (by decide +kernel) (by decide +kernel)
theorem lm_X9_225 : Cond.methodLink RX9 225 yX3_gainOf ∈ qws := qws_in (i := 662) (by decide +kernel) (by decide +kernel)
theorem im_yX3_gainOf : Cond.instanceMethod yX3_gainOf ∈ qws := qws_in (i := 663) (by decide +kernel) (by decide +kernel)
theorem se_yX3_gainOf : Cond.selects RX3 yX3_gainOf yX3_gainOf ∈ qws := qws_in (i := 664) (by decide +kernel) (by decide +kernel)
theorem cd_yX3_gainOf : Cond.code yX3_gainOf cX3_gainOf 6 (some .int) ∈ qws := qws_in (i := 665) (by decide +kernel) (by decide +kernel)
theorem lm_X3_22 : Cond.methodLink RX3 22 yX1_take ∈ qws := qws_in (i := 666) (by decide +kernel) (by decide +kernel)
theorem im_yX1_take : Cond.instanceMethod yX1_take ∈ qws := qws_in (i := 667) (by decide +kernel) (by decide +kernel)
theorem se_yX1_take : Cond.selects RX1 yX1_take yX1_take ∈ qws := qws_in (i := 668) (by decide +kernel) (by decide +kernel)
theorem cd_yX1_take : Cond.code yX1_take cX1_take 2 none ∈ qws := qws_in (i := 669) (by decide +kernel) (by decide +kernel)
theorem lm_X1_42 : Cond.methodLink RX1 42 arraycopyName ∈ qws := qws_in (i := 670) (by decide +kernel) (by decide +kernel)
theorem lm_X3_35 : Cond.methodLink RX3 35 yX8_gainOfAll ∈ qws := qws_in (i := 671) (by decide +kernel) (by decide +kernel)
theorem im_yX8_gainOfAll : Cond.instanceMethod yX8_gainOfAll ∈ qws := qws_in (i := 672) (by decide +kernel) (by decide +kernel)
theorem se_yX8_gainOfAll : Cond.selects RX8 yX8_gainOfAll yX8_gainOfAll ∈ qws := qws_in (i := 673) (by decide +kernel) (by decide +kernel)
theorem cd_yX8_gainOfAll : Cond.code yX8_gainOfAll cX8_gainOfAll 4 (some .int) ∈ qws := qws_in (i := 674) (by decide +kernel) (by decide +kernel)
theorem lm_X8_66 : Cond.methodLink RX8 66 yX8_gainOf ∈ qws := qws_in (i := 675) (by decide +kernel) (by decide +kernel)
theorem lm_X3_44 : Cond.methodLink RX3 44 yX1_goOn ∈ qws := qws_in (i := 676) (by decide +kernel) (by decide +kernel)
theorem lm_L_110 : Cond.methodLink RL 110 yX9_burns ∈ qws := qws_in (i := 677) (by decide +kernel) (by decide +kernel)
theorem im_yX9_burns : Cond.instanceMethod yX9_burns ∈ qws := qws_in (i := 678) (by decide +kernel) (by decide +kernel)
theorem se_yX9_burns : Cond.selects RX9 yX9_burns yX9_burns ∈ qws := qws_in (i := 679) (by decide +kernel) (by decide +kernel)
theorem cd_yX9_burns : Cond.code yX9_burns cX9_burns 4 (some .int) ∈ qws := qws_in (i := 680) (by decide +kernel) (by decide +kernel)
theorem lm_X9_232 : Cond.methodLink RX9 232 yX3_firstLurch ∈ qws := qws_in (i := 681) (by decide +kernel) (by decide +kernel)
theorem im_yX3_firstLurch : Cond.instanceMethod yX3_firstLurch ∈ qws := qws_in (i := 682) (by decide +kernel) (by decide +kernel)
theorem se_yX3_firstLurch : Cond.selects RX3 yX3_firstLurch yX3_firstLurch ∈ qws := qws_in (i := 683) (by decide +kernel) (by decide +kernel)
theorem cd_yX3_firstLurch : Cond.code yX3_firstLurch cX3_firstLurch 6 (some .int) ∈ qws := qws_in (i := 684) (by decide +kernel) (by decide +kernel)
theorem lm_L_114 : Cond.methodLink RL 114 yX9_best ∈ qws := qws_in (i := 685) (by decide +kernel) (by decide +kernel)
theorem im_yX9_best : Cond.instanceMethod yX9_best ∈ qws := qws_in (i := 686) (by decide +kernel) (by decide +kernel)
theorem se_yX9_best : Cond.selects RX9 yX9_best yX9_best ∈ qws := qws_in (i := 687) (by decide +kernel) (by decide +kernel)
theorem cd_yX9_best : Cond.code yX9_best cX9_best 4 (some .int) ∈ qws := qws_in (i := 688) (by decide +kernel) (by decide +kernel)
theorem lm_X9_236 : Cond.methodLink RX9 236 yX6_mostGain ∈ qws := qws_in (i := 689) (by decide +kernel) (by decide +kernel)
theorem im_yX6_mostGain : Cond.instanceMethod yX6_mostGain ∈ qws := qws_in (i := 690) (by decide +kernel) (by decide +kernel)
theorem se_yX6_mostGain : Cond.selects RX6 yX6_mostGain yX6_mostGain ∈ qws := qws_in (i := 691) (by decide +kernel) (by decide +kernel)
theorem cd_yX6_mostGain : Cond.code yX6_mostGain cX6_mostGain 4 (some .int) ∈ qws := qws_in (i := 692) (by decide +kernel) (by decide +kernel)
theorem lm_X6_41 : Cond.methodLink RX6 41 yX6_begin ∈ qws := qws_in (i := 693) (by decide +kernel) (by decide +kernel)
theorem im_yX6_begin : Cond.instanceMethod yX6_begin ∈ qws := qws_in (i := 695) (by decide +kernel) (by decide +kernel)
theorem cd_yX6_begin : Cond.code yX6_begin cX6_begin 3 none ∈ qws := qws_in (i := 696) (by decide +kernel) (by decide +kernel)
theorem lm_X6_101 : Cond.methodLink RX6 101 yX1_take ∈ qws := qws_in (i := 697) (by decide +kernel) (by decide +kernel)
theorem lm_X6_45 : Cond.methodLink RX6 45 yX6_seekMost ∈ qws := qws_in (i := 698) (by decide +kernel) (by decide +kernel)
theorem im_yX6_seekMost : Cond.instanceMethod yX6_seekMost ∈ qws := qws_in (i := 700) (by decide +kernel) (by decide +kernel)
theorem cd_yX6_seekMost : Cond.code yX6_seekMost cX6_seekMost 8 none ∈ qws := qws_in (i := 701) (by decide +kernel) (by decide +kernel)
theorem lm_X6_49 : Cond.methodLink RX6 49 yX6_setFirst ∈ qws := qws_in (i := 702) (by decide +kernel) (by decide +kernel)
theorem im_yX6_setFirst : Cond.instanceMethod yX6_setFirst ∈ qws := qws_in (i := 704) (by decide +kernel) (by decide +kernel)
theorem cd_yX6_setFirst : Cond.code yX6_setFirst cX6_setFirst 2 none ∈ qws := qws_in (i := 705) (by decide +kernel) (by decide +kernel)
theorem lm_X6_108 : Cond.methodLink RX6 108 arraycopyName ∈ qws := qws_in (i := 706) (by decide +kernel) (by decide +kernel)
theorem lm_X6_53 : Cond.methodLink RX6 53 yX1_look ∈ qws := qws_in (i := 707) (by decide +kernel) (by decide +kernel)
theorem lm_X6_63 : Cond.methodLink RX6 63 yX8_gainOfAll ∈ qws := qws_in (i := 708) (by decide +kernel) (by decide +kernel)
theorem lm_X6_69 : Cond.methodLink RX6 69 yX6_step ∈ qws := qws_in (i := 709) (by decide +kernel) (by decide +kernel)
theorem im_yX6_step : Cond.instanceMethod yX6_step ∈ qws := qws_in (i := 711) (by decide +kernel) (by decide +kernel)
theorem cd_yX6_step : Cond.code yX6_step cX6_step 4 none ∈ qws := qws_in (i := 712) (by decide +kernel) (by decide +kernel)
theorem lm_X6_105 : Cond.methodLink RX6 105 yX1_goOn ∈ qws := qws_in (i := 713) (by decide +kernel) (by decide +kernel)
theorem lm_X9_243 : Cond.methodLink RX9 243 yX5_take ∈ qws := qws_in (i := 714) (by decide +kernel) (by decide +kernel)
theorem im_yX5_take : Cond.instanceMethod yX5_take ∈ qws := qws_in (i := 715) (by decide +kernel) (by decide +kernel)
theorem se_yX5_take : Cond.selects RX5 yX5_take yX5_take ∈ qws := qws_in (i := 716) (by decide +kernel) (by decide +kernel)
theorem cd_yX5_take : Cond.code yX5_take cX5_take 3 none ∈ qws := qws_in (i := 717) (by decide +kernel) (by decide +kernel)
theorem lm_X5_25 : Cond.methodLink RX5 25 arraycopyName ∈ qws := qws_in (i := 718) (by decide +kernel) (by decide +kernel)
theorem lm_L_118 : Cond.methodLink RL 118 yX9_slowest ∈ qws := qws_in (i := 719) (by decide +kernel) (by decide +kernel)
theorem im_yX9_slowest : Cond.instanceMethod yX9_slowest ∈ qws := qws_in (i := 720) (by decide +kernel) (by decide +kernel)
theorem se_yX9_slowest : Cond.selects RX9 yX9_slowest yX9_slowest ∈ qws := qws_in (i := 721) (by decide +kernel) (by decide +kernel)
theorem cd_yX9_slowest : Cond.code yX9_slowest cX9_slowest 4 (some .int) ∈ qws := qws_in (i := 722) (by decide +kernel) (by decide +kernel)
theorem lm_X9_246 : Cond.methodLink RX9 246 yX6_leastMinute ∈ qws := qws_in (i := 723) (by decide +kernel) (by decide +kernel)
theorem im_yX6_leastMinute : Cond.instanceMethod yX6_leastMinute ∈ qws := qws_in (i := 724) (by decide +kernel) (by decide +kernel)
theorem se_yX6_leastMinute : Cond.selects RX6 yX6_leastMinute yX6_leastMinute ∈ qws := qws_in (i := 725) (by decide +kernel) (by decide +kernel)
theorem cd_yX6_leastMinute : Cond.code yX6_leastMinute cX6_leastMinute 4 (some .int) ∈ qws := qws_in (i := 726) (by decide +kernel) (by decide +kernel)
theorem lk_X6_74 : Cond.constant RX6 74 (2147483647 : Int32) ∈ qws := qws_in (i := 727) (by decide +kernel) (by decide +kernel)
theorem lm_X6_75 : Cond.methodLink RX6 75 yX6_seekSlowest ∈ qws := qws_in (i := 728) (by decide +kernel) (by decide +kernel)
theorem im_yX6_seekSlowest : Cond.instanceMethod yX6_seekSlowest ∈ qws := qws_in (i := 730) (by decide +kernel) (by decide +kernel)
theorem cd_yX6_seekSlowest : Cond.code yX6_seekSlowest cX6_seekSlowest 7 none ∈ qws := qws_in (i := 731) (by decide +kernel) (by decide +kernel)
theorem lm_X6_81 : Cond.methodLink RX6 81 yX1_minuteBehind ∈ qws := qws_in (i := 732) (by decide +kernel) (by decide +kernel)
theorem lm_L_122 : Cond.methodLink RL 122 yX9_down ∈ qws := qws_in (i := 733) (by decide +kernel) (by decide +kernel)
theorem im_yX9_down : Cond.instanceMethod yX9_down ∈ qws := qws_in (i := 734) (by decide +kernel) (by decide +kernel)
theorem se_yX9_down : Cond.selects RX9 yX9_down yX9_down ∈ qws := qws_in (i := 735) (by decide +kernel) (by decide +kernel)
theorem cd_yX9_down : Cond.code yX9_down cX9_down 2 (some .int) ∈ qws := qws_in (i := 736) (by decide +kernel) (by decide +kernel)
theorem lm_X9_249 : Cond.methodLink RX9 249 yX3_hoursTillDown ∈ qws := qws_in (i := 737) (by decide +kernel) (by decide +kernel)
theorem im_yX3_hoursTillDown : Cond.instanceMethod yX3_hoursTillDown ∈ qws := qws_in (i := 738) (by decide +kernel) (by decide +kernel)
theorem se_yX3_hoursTillDown : Cond.selects RX3 yX3_hoursTillDown yX3_hoursTillDown ∈ qws := qws_in (i := 739) (by decide +kernel) (by decide +kernel)
theorem cd_yX3_hoursTillDown : Cond.code yX3_hoursTillDown cX3_hoursTillDown 5 (some .int) ∈ qws := qws_in (i := 740) (by decide +kernel) (by decide +kernel)
theorem lm_X3_67 : Cond.methodLink RX3 67 yX1_isDown ∈ qws := qws_in (i := 741) (by decide +kernel) (by decide +kernel)
theorem lm_L_126 : Cond.methodLink RL 126 yX9_longest ∈ qws := qws_in (i := 742) (by decide +kernel) (by decide +kernel)
theorem im_yX9_longest : Cond.instanceMethod yX9_longest ∈ qws := qws_in (i := 743) (by decide +kernel) (by decide +kernel)
theorem se_yX9_longest : Cond.selects RX9 yX9_longest yX9_longest ∈ qws := qws_in (i := 744) (by decide +kernel) (by decide +kernel)
theorem cd_yX9_longest : Cond.code yX9_longest cX9_longest 5 (some .int) ∈ qws := qws_in (i := 745) (by decide +kernel) (by decide +kernel)
theorem lm_X9_252 : Cond.methodLink RX9 252 yX8_allCapes ∈ qws := qws_in (i := 746) (by decide +kernel) (by decide +kernel)
theorem lm_L_130 : Cond.methodLink RL 130 yX9_ropes ∈ qws := qws_in (i := 747) (by decide +kernel) (by decide +kernel)
theorem im_yX9_ropes : Cond.instanceMethod yX9_ropes ∈ qws := qws_in (i := 748) (by decide +kernel) (by decide +kernel)
theorem se_yX9_ropes : Cond.selects RX9 yX9_ropes yX9_ropes ∈ qws := qws_in (i := 749) (by decide +kernel) (by decide +kernel)
theorem cd_yX9_ropes : Cond.code yX9_ropes cX9_ropes 4 (some .int) ∈ qws := qws_in (i := 750) (by decide +kernel) (by decide +kernel)
theorem lm_X9_256 : Cond.methodLink RX9 256 yX3_fewestRopes ∈ qws := qws_in (i := 751) (by decide +kernel) (by decide +kernel)
theorem im_yX3_fewestRopes : Cond.instanceMethod yX3_fewestRopes ∈ qws := qws_in (i := 752) (by decide +kernel) (by decide +kernel)
theorem se_yX3_fewestRopes : Cond.selects RX3 yX3_fewestRopes yX3_fewestRopes ∈ qws := qws_in (i := 753) (by decide +kernel) (by decide +kernel)
theorem cd_yX3_fewestRopes : Cond.code yX3_fewestRopes cX3_fewestRopes 8 (some .int) ∈ qws := qws_in (i := 754) (by decide +kernel) (by decide +kernel)
theorem lm_X3_54 : Cond.methodLink RX3 54 yX8_allCapes ∈ qws := qws_in (i := 755) (by decide +kernel) (by decide +kernel)
theorem lm_X3_58 : Cond.methodLink RX3 58 yJ6_bitCount_0f7a4 ∈ qws := qws_in (i := 756) (by decide +kernel) (by decide +kernel)
theorem lm_X3_63 : Cond.methodLink RX3 63 yX3_firstLurch ∈ qws := qws_in (i := 757) (by decide +kernel) (by decide +kernel)
theorem lm_L_134 : Cond.methodLink RL 134 yX9_loose ∈ qws := qws_in (i := 758) (by decide +kernel) (by decide +kernel)
theorem im_yX9_loose : Cond.instanceMethod yX9_loose ∈ qws := qws_in (i := 759) (by decide +kernel) (by decide +kernel)
theorem se_yX9_loose : Cond.selects RX9 yX9_loose yX9_loose ∈ qws := qws_in (i := 760) (by decide +kernel) (by decide +kernel)
theorem cd_yX9_loose : Cond.code yX9_loose cX9_loose 7 (some .int) ∈ qws := qws_in (i := 761) (by decide +kernel) (by decide +kernel)
theorem lm_X9_259 : Cond.methodLink RX9 259 yX9_orderFrom ∈ qws := qws_in (i := 762) (by decide +kernel) (by decide +kernel)
theorem im_yX9_orderFrom : Cond.instanceMethod yX9_orderFrom ∈ qws := qws_in (i := 764) (by decide +kernel) (by decide +kernel)
theorem cd_yX9_orderFrom : Cond.code yX9_orderFrom cX9_orderFrom 5 (some .int) ∈ qws := qws_in (i := 765) (by decide +kernel) (by decide +kernel)
theorem lm_L_138 : Cond.methodLink RL 138 yX9_votes ∈ qws := qws_in (i := 766) (by decide +kernel) (by decide +kernel)
theorem im_yX9_votes : Cond.instanceMethod yX9_votes ∈ qws := qws_in (i := 767) (by decide +kernel) (by decide +kernel)
theorem se_yX9_votes : Cond.selects RX9 yX9_votes yX9_votes ∈ qws := qws_in (i := 768) (by decide +kernel) (by decide +kernel)
theorem cd_yX9_votes : Cond.code yX9_votes cX9_votes 3 (some .int) ∈ qws := qws_in (i := 769) (by decide +kernel) (by decide +kernel)
theorem lm_X9_265 : Cond.methodLink RX9 265 yX0_weigh ∈ qws := qws_in (i := 770) (by decide +kernel) (by decide +kernel)
theorem im_yX0_weigh : Cond.instanceMethod yX0_weigh ∈ qws := qws_in (i := 771) (by decide +kernel) (by decide +kernel)
theorem se_yX0_weigh : Cond.selects RX0 yX0_weigh yX0_weigh ∈ qws := qws_in (i := 772) (by decide +kernel) (by decide +kernel)
theorem cd_yX0_weigh : Cond.code yX0_weigh cX0_weigh 7 none ∈ qws := qws_in (i := 773) (by decide +kernel) (by decide +kernel)
theorem lm_X0_22 : Cond.methodLink RX0 22 yX1_take ∈ qws := qws_in (i := 774) (by decide +kernel) (by decide +kernel)
theorem lm_X0_26 : Cond.methodLink RX0 26 yX1_look ∈ qws := qws_in (i := 775) (by decide +kernel) (by decide +kernel)
theorem lm_X0_33 : Cond.methodLink RX0 33 yX8_allCapes ∈ qws := qws_in (i := 776) (by decide +kernel) (by decide +kernel)
theorem lm_X0_39 : Cond.methodLink RX0 39 yX1_minuteBehind ∈ qws := qws_in (i := 777) (by decide +kernel) (by decide +kernel)
theorem lm_X0_47 : Cond.methodLink RX0 47 yX8_gainOf ∈ qws := qws_in (i := 778) (by decide +kernel) (by decide +kernel)
theorem lm_X9_269 : Cond.methodLink RX9 269 yX0_votersFor ∈ qws := qws_in (i := 779) (by decide +kernel) (by decide +kernel)
theorem im_yX0_votersFor : Cond.instanceMethod yX0_votersFor ∈ qws := qws_in (i := 780) (by decide +kernel) (by decide +kernel)
theorem se_yX0_votersFor : Cond.selects RX0 yX0_votersFor yX0_votersFor ∈ qws := qws_in (i := 781) (by decide +kernel) (by decide +kernel)
theorem cd_yX0_votersFor : Cond.code yX0_votersFor cX0_votersFor 6 (some .int) ∈ qws := qws_in (i := 782) (by decide +kernel) (by decide +kernel)
theorem lm_L_142 : Cond.methodLink RL 142 yX9_choice ∈ qws := qws_in (i := 783) (by decide +kernel) (by decide +kernel)
theorem im_yX9_choice : Cond.instanceMethod yX9_choice ∈ qws := qws_in (i := 784) (by decide +kernel) (by decide +kernel)
theorem se_yX9_choice : Cond.selects RX9 yX9_choice yX9_choice ∈ qws := qws_in (i := 785) (by decide +kernel) (by decide +kernel)
theorem cd_yX9_choice : Cond.code yX9_choice cX9_choice 1 (some .int) ∈ qws := qws_in (i := 786) (by decide +kernel) (by decide +kernel)
theorem lm_X9_278 : Cond.methodLink RX9 278 yX0_firstUnbeaten ∈ qws := qws_in (i := 787) (by decide +kernel) (by decide +kernel)
theorem im_yX0_firstUnbeaten : Cond.instanceMethod yX0_firstUnbeaten ∈ qws := qws_in (i := 788) (by decide +kernel) (by decide +kernel)
theorem se_yX0_firstUnbeaten : Cond.selects RX0 yX0_firstUnbeaten yX0_firstUnbeaten ∈ qws := qws_in (i := 789) (by decide +kernel) (by decide +kernel)
theorem cd_yX0_firstUnbeaten : Cond.code yX0_firstUnbeaten cX0_firstUnbeaten 3 (some .int) ∈ qws := qws_in (i := 790) (by decide +kernel) (by decide +kernel)
theorem lm_X0_51 : Cond.methodLink RX0 51 yX0_isBeaten ∈ qws := qws_in (i := 791) (by decide +kernel) (by decide +kernel)
theorem im_yX0_isBeaten : Cond.instanceMethod yX0_isBeaten ∈ qws := qws_in (i := 793) (by decide +kernel) (by decide +kernel)
theorem cd_yX0_isBeaten : Cond.code yX0_isBeaten cX0_isBeaten 5 (some .boolean) ∈ qws := qws_in (i := 794) (by decide +kernel) (by decide +kernel)
theorem lm_X0_55 : Cond.methodLink RX0 55 yX0_votersFor ∈ qws := qws_in (i := 795) (by decide +kernel) (by decide +kernel)
theorem lm_X0_59 : Cond.methodLink RX0 59 yJ6_bitCount_0f7a4 ∈ qws := qws_in (i := 796) (by decide +kernel) (by decide +kernel)
theorem lm_L_146 : Cond.methodLink RL 146 yX9_parts ∈ qws := qws_in (i := 797) (by decide +kernel) (by decide +kernel)
theorem im_yX9_parts : Cond.instanceMethod yX9_parts ∈ qws := qws_in (i := 798) (by decide +kernel) (by decide +kernel)
theorem se_yX9_parts : Cond.selects RX9 yX9_parts yX9_parts ∈ qws := qws_in (i := 799) (by decide +kernel) (by decide +kernel)
theorem cd_yX9_parts : Cond.code yX9_parts cX9_parts 3 (some .int) ∈ qws := qws_in (i := 800) (by decide +kernel) (by decide +kernel)
theorem lm_X9_285 : Cond.methodLink RX9 285 yX0_firstLeaving ∈ qws := qws_in (i := 801) (by decide +kernel) (by decide +kernel)
theorem im_yX0_firstLeaving : Cond.instanceMethod yX0_firstLeaving ∈ qws := qws_in (i := 802) (by decide +kernel) (by decide +kernel)
theorem se_yX0_firstLeaving : Cond.selects RX0 yX0_firstLeaving yX0_firstLeaving ∈ qws := qws_in (i := 803) (by decide +kernel) (by decide +kernel)
theorem cd_yX0_firstLeaving : Cond.code yX0_firstLeaving cX0_firstLeaving 7 (some .int) ∈ qws := qws_in (i := 804) (by decide +kernel) (by decide +kernel)
theorem lm_X0_70 : Cond.methodLink RX0 70 yX0_mostOf ∈ qws := qws_in (i := 805) (by decide +kernel) (by decide +kernel)
theorem im_yX0_mostOf : Cond.instanceMethod yX0_mostOf ∈ qws := qws_in (i := 807) (by decide +kernel) (by decide +kernel)
theorem cd_yX0_mostOf : Cond.code yX0_mostOf cX0_mostOf 7 (some .int) ∈ qws := qws_in (i := 808) (by decide +kernel) (by decide +kernel)
theorem lm_X0_73 : Cond.methodLink RX0 73 yJ9_max_7cf53 ∈ qws := qws_in (i := 809) (by decide +kernel) (by decide +kernel)
theorem lm_L_150 : Cond.methodLink RL 150 yX9_fits ∈ qws := qws_in (i := 810) (by decide +kernel) (by decide +kernel)
theorem im_yX9_fits : Cond.instanceMethod yX9_fits ∈ qws := qws_in (i := 811) (by decide +kernel) (by decide +kernel)
theorem se_yX9_fits : Cond.selects RX9 yX9_fits yX9_fits ∈ qws := qws_in (i := 812) (by decide +kernel) (by decide +kernel)
theorem cd_yX9_fits : Cond.code yX9_fits cX9_fits 7 (some .int) ∈ qws := qws_in (i := 813) (by decide +kernel) (by decide +kernel)
theorem lm_X9_289 : Cond.methodLink RX9 289 yX9_minutesRefusal ∈ qws := qws_in (i := 814) (by decide +kernel) (by decide +kernel)
theorem im_yX9_minutesRefusal : Cond.instanceMethod yX9_minutesRefusal ∈ qws := qws_in (i := 816) (by decide +kernel) (by decide +kernel)
theorem cd_yX9_minutesRefusal : Cond.code yX9_minutesRefusal cX9_minutesRefusal 3 (some .int) ∈ qws := qws_in (i := 817) (by decide +kernel) (by decide +kernel)
theorem lm_X9_292 : Cond.methodLink RX9 292 yX6_waysThatFit ∈ qws := qws_in (i := 818) (by decide +kernel) (by decide +kernel)
theorem im_yX6_waysThatFit : Cond.instanceMethod yX6_waysThatFit ∈ qws := qws_in (i := 819) (by decide +kernel) (by decide +kernel)
theorem se_yX6_waysThatFit : Cond.selects RX6 yX6_waysThatFit yX6_waysThatFit ∈ qws := qws_in (i := 820) (by decide +kernel) (by decide +kernel)
theorem cd_yX6_waysThatFit : Cond.code yX6_waysThatFit cX6_waysThatFit 5 (some .int) ∈ qws := qws_in (i := 821) (by decide +kernel) (by decide +kernel)
theorem lm_X6_90 : Cond.methodLink RX6 90 yX6_seekFitting ∈ qws := qws_in (i := 822) (by decide +kernel) (by decide +kernel)
theorem im_yX6_seekFitting : Cond.instanceMethod yX6_seekFitting ∈ qws := qws_in (i := 824) (by decide +kernel) (by decide +kernel)
theorem cd_yX6_seekFitting : Cond.code yX6_seekFitting cX6_seekFitting 8 none ∈ qws := qws_in (i := 825) (by decide +kernel) (by decide +kernel)
theorem lm_L_154 : Cond.methodLink RL 154 yX9_slipped ∈ qws := qws_in (i := 826) (by decide +kernel) (by decide +kernel)
theorem im_yX9_slipped : Cond.instanceMethod yX9_slipped ∈ qws := qws_in (i := 827) (by decide +kernel) (by decide +kernel)
theorem se_yX9_slipped : Cond.selects RX9 yX9_slipped yX9_slipped ∈ qws := qws_in (i := 828) (by decide +kernel) (by decide +kernel)
theorem cd_yX9_slipped : Cond.code yX9_slipped cX9_slipped 4 (some .int) ∈ qws := qws_in (i := 829) (by decide +kernel) (by decide +kernel)
theorem lm_L_158 : Cond.methodLink RL 158 yX9_odds ∈ qws := qws_in (i := 830) (by decide +kernel) (by decide +kernel)
theorem im_yX9_odds : Cond.instanceMethod yX9_odds ∈ qws := qws_in (i := 831) (by decide +kernel) (by decide +kernel)
theorem se_yX9_odds : Cond.selects RX9 yX9_odds yX9_odds ∈ qws := qws_in (i := 832) (by decide +kernel) (by decide +kernel)
theorem cd_yX9_odds : Cond.code yX9_odds cX9_odds 4 (some .int) ∈ qws := qws_in (i := 833) (by decide +kernel) (by decide +kernel)
theorem lm_X9_299 : Cond.methodLink RX9 299 yX6_waysTo ∈ qws := qws_in (i := 834) (by decide +kernel) (by decide +kernel)
theorem im_yX6_waysTo : Cond.instanceMethod yX6_waysTo ∈ qws := qws_in (i := 835) (by decide +kernel) (by decide +kernel)
theorem se_yX6_waysTo : Cond.selects RX6 yX6_waysTo yX6_waysTo ∈ qws := qws_in (i := 836) (by decide +kernel) (by decide +kernel)
theorem cd_yX6_waysTo : Cond.code yX6_waysTo cX6_waysTo 6 (some .int) ∈ qws := qws_in (i := 837) (by decide +kernel) (by decide +kernel)
theorem lm_X6_97 : Cond.methodLink RX6 97 yX6_waysFrom ∈ qws := qws_in (i := 838) (by decide +kernel) (by decide +kernel)
theorem im_yX6_waysFrom : Cond.instanceMethod yX6_waysFrom ∈ qws := qws_in (i := 840) (by decide +kernel) (by decide +kernel)
theorem cd_yX6_waysFrom : Cond.code yX6_waysFrom cX6_waysFrom 8 (some .int) ∈ qws := qws_in (i := 841) (by decide +kernel) (by decide +kernel)
theorem lm_X9_303 : Cond.methodLink RX9 303 yX9_tellChance ∈ qws := qws_in (i := 842) (by decide +kernel) (by decide +kernel)
theorem im_yX9_tellChance : Cond.instanceMethod yX9_tellChance ∈ qws := qws_in (i := 844) (by decide +kernel) (by decide +kernel)
theorem cd_yX9_tellChance : Cond.code yX9_tellChance cX9_tellChance 4 none ∈ qws := qws_in (i := 845) (by decide +kernel) (by decide +kernel)
theorem lk_X9_366 : Cond.constantLong RX9 366 (2 : Int64) ∈ qws := qws_in (i := 846) (by decide +kernel) (by decide +kernel)
theorem lm_L_162 : Cond.methodLink RL 162 yX9_lots ∈ qws := qws_in (i := 847) (by decide +kernel) (by decide +kernel)
theorem im_yX9_lots : Cond.instanceMethod yX9_lots ∈ qws := qws_in (i := 848) (by decide +kernel) (by decide +kernel)
theorem se_yX9_lots : Cond.selects RX9 yX9_lots yX9_lots ∈ qws := qws_in (i := 849) (by decide +kernel) (by decide +kernel)
theorem cd_yX9_lots : Cond.code yX9_lots cX9_lots 7 (some .int) ∈ qws := qws_in (i := 850) (by decide +kernel) (by decide +kernel)
theorem lk_X9_307 : Cond.constantLong RX9 307 (2147483647 : Int64) ∈ qws := qws_in (i := 851) (by decide +kernel) (by decide +kernel)
theorem lk_X9_309 : Cond.constantLong RX9 309 (48271 : Int64) ∈ qws := qws_in (i := 852) (by decide +kernel) (by decide +kernel)
theorem lk_X9_311 : Cond.constantLong RX9 311 (32 : Int64) ∈ qws := qws_in (i := 853) (by decide +kernel) (by decide +kernel)
theorem lm_L_166 : Cond.methodLink RL 166 yX9_asked ∈ qws := qws_in (i := 854) (by decide +kernel) (by decide +kernel)
theorem im_yX9_asked : Cond.instanceMethod yX9_asked ∈ qws := qws_in (i := 855) (by decide +kernel) (by decide +kernel)
theorem se_yX9_asked : Cond.selects RX9 yX9_asked yX9_asked ∈ qws := qws_in (i := 856) (by decide +kernel) (by decide +kernel)
theorem cd_yX9_asked : Cond.code yX9_asked cX9_asked 1 (some .int) ∈ qws := qws_in (i := 857) (by decide +kernel) (by decide +kernel)
theorem lm_L_170 : Cond.methodLink RL 170 yX9_upper ∈ qws := qws_in (i := 858) (by decide +kernel) (by decide +kernel)
theorem im_yX9_upper : Cond.instanceMethod yX9_upper ∈ qws := qws_in (i := 859) (by decide +kernel) (by decide +kernel)
theorem se_yX9_upper : Cond.selects RX9 yX9_upper yX9_upper ∈ qws := qws_in (i := 860) (by decide +kernel) (by decide +kernel)
theorem cd_yX9_upper : Cond.code yX9_upper cX9_upper 1 (some .long) ∈ qws := qws_in (i := 861) (by decide +kernel) (by decide +kernel)
theorem lm_L_175 : Cond.methodLink RL 175 yX9_lower ∈ qws := qws_in (i := 862) (by decide +kernel) (by decide +kernel)
theorem im_yX9_lower : Cond.instanceMethod yX9_lower ∈ qws := qws_in (i := 863) (by decide +kernel) (by decide +kernel)
theorem se_yX9_lower : Cond.selects RX9 yX9_lower yX9_lower ∈ qws := qws_in (i := 864) (by decide +kernel) (by decide +kernel)
theorem cd_yX9_lower : Cond.code yX9_lower cX9_lower 1 (some .long) ∈ qws := qws_in (i := 865) (by decide +kernel) (by decide +kernel)
theorem lm_L_179 : Cond.methodLink RL 179 yX9_count ∈ qws := qws_in (i := 866) (by decide +kernel) (by decide +kernel)
theorem im_yX9_count : Cond.instanceMethod yX9_count ∈ qws := qws_in (i := 867) (by decide +kernel) (by decide +kernel)
theorem se_yX9_count : Cond.selects RX9 yX9_count yX9_count ∈ qws := qws_in (i := 868) (by decide +kernel) (by decide +kernel)
theorem cd_yX9_count : Cond.code yX9_count cX9_count 2 (some .int) ∈ qws := qws_in (i := 869) (by decide +kernel) (by decide +kernel)
theorem lm_X9_313 : Cond.methodLink RX9 313 yX9_countOf ∈ qws := qws_in (i := 870) (by decide +kernel) (by decide +kernel)
theorem im_yX9_countOf : Cond.instanceMethod yX9_countOf ∈ qws := qws_in (i := 872) (by decide +kernel) (by decide +kernel)
theorem cd_yX9_countOf : Cond.code yX9_countOf cX9_countOf 2 (some .int) ∈ qws := qws_in (i := 873) (by decide +kernel) (by decide +kernel)
theorem lm_X9_357 : Cond.methodLink RX9 357 yX9_rowsThere ∈ qws := qws_in (i := 874) (by decide +kernel) (by decide +kernel)
theorem im_yX9_rowsThere : Cond.instanceMethod yX9_rowsThere ∈ qws := qws_in (i := 876) (by decide +kernel) (by decide +kernel)
theorem cd_yX9_rowsThere : Cond.code yX9_rowsThere cX9_rowsThere 3 (some .int) ∈ qws := qws_in (i := 877) (by decide +kernel) (by decide +kernel)
theorem lm_X9_360 : Cond.methodLink RX9 360 yX9_textsThere ∈ qws := qws_in (i := 878) (by decide +kernel) (by decide +kernel)
theorem im_yX9_textsThere : Cond.instanceMethod yX9_textsThere ∈ qws := qws_in (i := 880) (by decide +kernel) (by decide +kernel)
theorem cd_yX9_textsThere : Cond.code yX9_textsThere cX9_textsThere 3 (some .int) ∈ qws := qws_in (i := 881) (by decide +kernel) (by decide +kernel)
theorem lm_X9_363 : Cond.methodLink RX9 363 yX9_yearsKept ∈ qws := qws_in (i := 882) (by decide +kernel) (by decide +kernel)
theorem im_yX9_yearsKept : Cond.instanceMethod yX9_yearsKept ∈ qws := qws_in (i := 884) (by decide +kernel) (by decide +kernel)
theorem cd_yX9_yearsKept : Cond.code yX9_yearsKept cX9_yearsKept 3 (some .int) ∈ qws := qws_in (i := 885) (by decide +kernel) (by decide +kernel)
theorem lm_L_183 : Cond.methodLink RL 183 yX9_finding ∈ qws := qws_in (i := 886) (by decide +kernel) (by decide +kernel)
theorem im_yX9_finding : Cond.instanceMethod yX9_finding ∈ qws := qws_in (i := 887) (by decide +kernel) (by decide +kernel)
theorem se_yX9_finding : Cond.selects RX9 yX9_finding yX9_finding ∈ qws := qws_in (i := 888) (by decide +kernel) (by decide +kernel)
theorem cd_yX9_finding : Cond.code yX9_finding cX9_finding 1 (some .int) ∈ qws := qws_in (i := 889) (by decide +kernel) (by decide +kernel)
theorem lm_L_187 : Cond.methodLink RL 187 yX9_findings ∈ qws := qws_in (i := 890) (by decide +kernel) (by decide +kernel)
theorem im_yX9_findings : Cond.instanceMethod yX9_findings ∈ qws := qws_in (i := 891) (by decide +kernel) (by decide +kernel)
theorem se_yX9_findings : Cond.selects RX9 yX9_findings yX9_findings ∈ qws := qws_in (i := 892) (by decide +kernel) (by decide +kernel)
theorem cd_yX9_findings : Cond.code yX9_findings cX9_findings 2 (some .int) ∈ qws := qws_in (i := 893) (by decide +kernel) (by decide +kernel)
theorem lm_L_191 : Cond.methodLink RL 191 yX9_digest ∈ qws := qws_in (i := 894) (by decide +kernel) (by decide +kernel)
theorem im_yX9_digest : Cond.instanceMethod yX9_digest ∈ qws := qws_in (i := 895) (by decide +kernel) (by decide +kernel)
theorem se_yX9_digest : Cond.selects RX9 yX9_digest yX9_digest ∈ qws := qws_in (i := 896) (by decide +kernel) (by decide +kernel)
theorem cd_yX9_digest : Cond.code yX9_digest cX9_digest 5 (some .long) ∈ qws := qws_in (i := 897) (by decide +kernel) (by decide +kernel)
theorem lk_X9_316 : Cond.constantLong RX9 316 (17 : Int64) ∈ qws := qws_in (i := 898) (by decide +kernel) (by decide +kernel)
theorem lk_X9_318 : Cond.constantLong RX9 318 (31 : Int64) ∈ qws := qws_in (i := 899) (by decide +kernel) (by decide +kernel)
theorem lm_X9_320 : Cond.methodLink RX9 320 yX5_digestFrom ∈ qws := qws_in (i := 900) (by decide +kernel) (by decide +kernel)
theorem im_yX5_digestFrom : Cond.instanceMethod yX5_digestFrom ∈ qws := qws_in (i := 901) (by decide +kernel) (by decide +kernel)
theorem se_yX5_digestFrom : Cond.selects RX5 yX5_digestFrom yX5_digestFrom ∈ qws := qws_in (i := 902) (by decide +kernel) (by decide +kernel)
theorem cd_yX5_digestFrom : Cond.code yX5_digestFrom cX5_digestFrom 6 (some .long) ∈ qws := qws_in (i := 903) (by decide +kernel) (by decide +kernel)
theorem lk_X5_31 : Cond.constantLong RX5 31 (31 : Int64) ∈ qws := qws_in (i := 904) (by decide +kernel) (by decide +kernel)
theorem lm_X9_324 : Cond.methodLink RX9 324 yX7_digestFrom ∈ qws := qws_in (i := 905) (by decide +kernel) (by decide +kernel)
theorem im_yX7_digestFrom : Cond.instanceMethod yX7_digestFrom ∈ qws := qws_in (i := 906) (by decide +kernel) (by decide +kernel)
theorem se_yX7_digestFrom : Cond.selects RX7 yX7_digestFrom yX7_digestFrom ∈ qws := qws_in (i := 907) (by decide +kernel) (by decide +kernel)
theorem cd_yX7_digestFrom : Cond.code yX7_digestFrom cX7_digestFrom 6 (some .long) ∈ qws := qws_in (i := 908) (by decide +kernel) (by decide +kernel)
theorem lk_X7_25 : Cond.constantLong RX7 25 (31 : Int64) ∈ qws := qws_in (i := 909) (by decide +kernel) (by decide +kernel)
theorem lc_L_10 : Cond.classLink RL 10 RX10 ∈ qws := qws_in (i := 910) (by decide +kernel) (by decide +kernel)
theorem ik_X10 : Cond.instantiable RX10 39 ∈ qws := qws_in (i := 911) (by decide +kernel) (by decide +kernel)
theorem lm_L_12 : Cond.methodLink RL 12 yX10_init ∈ qws := qws_in (i := 912) (by decide +kernel) (by decide +kernel)
theorem im_yX10_init : Cond.instanceMethod yX10_init ∈ qws := qws_in (i := 913) (by decide +kernel) (by decide +kernel)
theorem cd_yX10_init : Cond.code yX10_init cX10_init 2 none ∈ qws := qws_in (i := 914) (by decide +kernel) (by decide +kernel)
theorem lm_X10_1 : Cond.methodLink RX10 1 objectInit ∈ qws := qws_in (i := 915) (by decide +kernel) (by decide +kernel)
theorem lf_X10_104 : Cond.fieldLink RX10 104 "SunRopesModel" "capes" "I" ∈ qws := qws_in (i := 916) (by decide +kernel) (by decide +kernel)
theorem lf_X10_107 : Cond.fieldLink RX10 107 "SunRopesModel" "valleys" "I" ∈ qws := qws_in (i := 917) (by decide +kernel) (by decide +kernel)
theorem lf_X10_7 : Cond.fieldLink RX10 7 "SunRopesModel" "kind" "[I" ∈ qws := qws_in (i := 918) (by decide +kernel) (by decide +kernel)
theorem lf_X10_13 : Cond.fieldLink RX10 13 "SunRopesModel" "isLight" "[I" ∈ qws := qws_in (i := 919) (by decide +kernel) (by decide +kernel)
theorem lf_X10_16 : Cond.fieldLink RX10 16 "SunRopesModel" "from" "[I" ∈ qws := qws_in (i := 920) (by decide +kernel) (by decide +kernel)
theorem lf_X10_19 : Cond.fieldLink RX10 19 "SunRopesModel" "to" "[I" ∈ qws := qws_in (i := 921) (by decide +kernel) (by decide +kernel)
theorem lf_X10_22 : Cond.fieldLink RX10 22 "SunRopesModel" "worth" "[I" ∈ qws := qws_in (i := 922) (by decide +kernel) (by decide +kernel)
theorem lf_X10_25 : Cond.fieldLink RX10 25 "SunRopesModel" "now" "[I" ∈ qws := qws_in (i := 923) (by decide +kernel) (by decide +kernel)
theorem lf_X10_156 : Cond.fieldLink RX10 156 "SunRopesModel" "deeds" "I" ∈ qws := qws_in (i := 924) (by decide +kernel) (by decide +kernel)
theorem lf_X10_28 : Cond.fieldLink RX10 28 "SunRopesModel" "past" "[I" ∈ qws := qws_in (i := 925) (by decide +kernel) (by decide +kernel)
theorem lf_X10_118 : Cond.fieldLink RX10 118 "SunRopesModel" "asked" "I" ∈ qws := qws_in (i := 926) (by decide +kernel) (by decide +kernel)
theorem lf_X10_284 : Cond.fieldLink RX10 284 "SunRopesModel" "upper" "J" ∈ qws := qws_in (i := 927) (by decide +kernel) (by decide +kernel)
theorem lf_X10_31 : Cond.fieldLink RX10 31 "SunRopesModel" "lower" "J" ∈ qws := qws_in (i := 928) (by decide +kernel) (by decide +kernel)
theorem lf_X10_92 : Cond.fieldLink RX10 92 "SunRopesModel" "finding" "I" ∈ qws := qws_in (i := 929) (by decide +kernel) (by decide +kernel)
theorem lf_X10_35 : Cond.fieldLink RX10 35 "SunRopesModel" "findings" "[I" ∈ qws := qws_in (i := 930) (by decide +kernel) (by decide +kernel)
theorem lf_X10_38 : Cond.fieldLink RX10 38 "SunRopesModel" "rowSize" "[I" ∈ qws := qws_in (i := 931) (by decide +kernel) (by decide +kernel)
theorem lf_X10_41 : Cond.fieldLink RX10 41 "SunRopesModel" "rows" "[I" ∈ qws := qws_in (i := 932) (by decide +kernel) (by decide +kernel)
theorem lf_X10_44 : Cond.fieldLink RX10 44 "SunRopesModel" "textSize" "[I" ∈ qws := qws_in (i := 933) (by decide +kernel) (by decide +kernel)
theorem lf_X10_47 : Cond.fieldLink RX10 47 "SunRopesModel" "texts" "[I" ∈ qws := qws_in (i := 934) (by decide +kernel) (by decide +kernel)
theorem lf_X10_50 : Cond.fieldLink RX10 50 "SunRopesModel" "keptDeeds" "[I" ∈ qws := qws_in (i := 935) (by decide +kernel) (by decide +kernel)
theorem lf_X10_53 : Cond.fieldLink RX10 53 "SunRopesModel" "keptNow" "[I" ∈ qws := qws_in (i := 936) (by decide +kernel) (by decide +kernel)
theorem lf_X10_56 : Cond.fieldLink RX10 56 "SunRopesModel" "keptPast" "[I" ∈ qws := qws_in (i := 937) (by decide +kernel) (by decide +kernel)
theorem lf_X10_59 : Cond.fieldLink RX10 59 "SunRopesModel" "keptWorth" "[I" ∈ qws := qws_in (i := 938) (by decide +kernel) (by decide +kernel)
theorem lf_X10_62 : Cond.fieldLink RX10 62 "SunRopesModel" "copied" "[I" ∈ qws := qws_in (i := 939) (by decide +kernel) (by decide +kernel)
theorem lf_X10_124 : Cond.fieldLink RX10 124 "SunRopesModel" "textAt" "I" ∈ qws := qws_in (i := 940) (by decide +kernel) (by decide +kernel)
theorem lf_X10_130 : Cond.fieldLink RX10 130 "SunRopesModel" "faultAt" "I" ∈ qws := qws_in (i := 941) (by decide +kernel) (by decide +kernel)
theorem lf_X10_139 : Cond.fieldLink RX10 139 "SunRopesModel" "readCapes" "I" ∈ qws := qws_in (i := 942) (by decide +kernel) (by decide +kernel)
theorem lf_X10_136 : Cond.fieldLink RX10 136 "SunRopesModel" "readValleys" "I" ∈ qws := qws_in (i := 943) (by decide +kernel) (by decide +kernel)
theorem lf_X10_65 : Cond.fieldLink RX10 65 "SunRopesModel" "readKind" "[I" ∈ qws := qws_in (i := 944) (by decide +kernel) (by decide +kernel)
theorem lf_X10_68 : Cond.fieldLink RX10 68 "SunRopesModel" "readRope" "[I" ∈ qws := qws_in (i := 945) (by decide +kernel) (by decide +kernel)
theorem lf_X10_71 : Cond.fieldLink RX10 71 "SunRopesModel" "readCrew" "[I" ∈ qws := qws_in (i := 946) (by decide +kernel) (by decide +kernel)
theorem lf_X10_74 : Cond.fieldLink RX10 74 "SunRopesModel" "readLight" "[I" ∈ qws := qws_in (i := 947) (by decide +kernel) (by decide +kernel)
theorem lf_X10_77 : Cond.fieldLink RX10 77 "SunRopesModel" "readFrom" "[I" ∈ qws := qws_in (i := 948) (by decide +kernel) (by decide +kernel)
theorem lf_X10_80 : Cond.fieldLink RX10 80 "SunRopesModel" "readTo" "[I" ∈ qws := qws_in (i := 949) (by decide +kernel) (by decide +kernel)
theorem lf_X10_83 : Cond.fieldLink RX10 83 "SunRopesModel" "readWorth" "[I" ∈ qws := qws_in (i := 950) (by decide +kernel) (by decide +kernel)
theorem lf_X10_173 : Cond.fieldLink RX10 173 "SunRopesModel" "pulledNow" "I" ∈ qws := qws_in (i := 951) (by decide +kernel) (by decide +kernel)
theorem lf_X10_170 : Cond.fieldLink RX10 170 "SunRopesModel" "lurched" "I" ∈ qws := qws_in (i := 952) (by decide +kernel) (by decide +kernel)
theorem lf_X10_86 : Cond.fieldLink RX10 86 "SunRopesModel" "was" "[I" ∈ qws := qws_in (i := 953) (by decide +kernel) (by decide +kernel)
theorem lf_X10_89 : Cond.fieldLink RX10 89 "SunRopesModel" "gains" "[I" ∈ qws := qws_in (i := 954) (by decide +kernel) (by decide +kernel)
theorem lm_L_17 : Cond.methodLink RL 17 yX10_row ∈ qws := qws_in (i := 1034) (by decide +kernel) (by decide +kernel)
theorem im_yX10_row : Cond.instanceMethod yX10_row ∈ qws := qws_in (i := 1035) (by decide +kernel) (by decide +kernel)
theorem se_yX10_row : Cond.selects RX10 yX10_row yX10_row ∈ qws := qws_in (i := 1036) (by decide +kernel) (by decide +kernel)
theorem cd_yX10_row : Cond.code yX10_row cX10_row 4 (some .int) ∈ qws := qws_in (i := 1037) (by decide +kernel) (by decide +kernel)
theorem lm_X10_110 : Cond.methodLink RX10 110 yX10_isRow ∈ qws := qws_in (i := 1038) (by decide +kernel) (by decide +kernel)
theorem sm_yX10_isRow : Cond.static yX10_isRow ∈ qws := qws_in (i := 1039) (by decide +kernel) (by decide +kernel)
theorem cd_yX10_isRow : Cond.code yX10_isRow cX10_isRow 1 (some .boolean) ∈ qws := qws_in (i := 1040) (by decide +kernel) (by decide +kernel)
theorem lk_X10_96 : Cond.constantLong RX10 96 (5 : Int64) ∈ qws := qws_in (i := 1041) (by decide +kernel) (by decide +kernel)
theorem lm_X10_98 : Cond.methodLink RX10 98 yX10_in ∈ qws := qws_in (i := 1042) (by decide +kernel) (by decide +kernel)
theorem sm_yX10_in : Cond.static yX10_in ∈ qws := qws_in (i := 1043) (by decide +kernel) (by decide +kernel)
theorem cd_yX10_in : Cond.code yX10_in cX10_in 6 (some .boolean) ∈ qws := qws_in (i := 1044) (by decide +kernel) (by decide +kernel)
theorem lm_X10_114 : Cond.methodLink RX10 114 yX10_finds ∈ qws := qws_in (i := 1045) (by decide +kernel) (by decide +kernel)
theorem im_yX10_finds : Cond.instanceMethod yX10_finds ∈ qws := qws_in (i := 1047) (by decide +kernel) (by decide +kernel)
theorem cd_yX10_finds : Cond.code yX10_finds cX10_finds 2 (some .int) ∈ qws := qws_in (i := 1048) (by decide +kernel) (by decide +kernel)
theorem lm_L_22 : Cond.methodLink RL 22 yX10_lay ∈ qws := qws_in (i := 1049) (by decide +kernel) (by decide +kernel)
theorem im_yX10_lay : Cond.instanceMethod yX10_lay ∈ qws := qws_in (i := 1050) (by decide +kernel) (by decide +kernel)
theorem se_yX10_lay : Cond.selects RX10 yX10_lay yX10_lay ∈ qws := qws_in (i := 1051) (by decide +kernel) (by decide +kernel)
theorem cd_yX10_lay : Cond.code yX10_lay cX10_lay 4 (some .int) ∈ qws := qws_in (i := 1052) (by decide +kernel) (by decide +kernel)
theorem lm_L_26 : Cond.methodLink RL 26 yX10_at ∈ qws := qws_in (i := 1053) (by decide +kernel) (by decide +kernel)
theorem im_yX10_at : Cond.instanceMethod yX10_at ∈ qws := qws_in (i := 1054) (by decide +kernel) (by decide +kernel)
theorem se_yX10_at : Cond.selects RX10 yX10_at yX10_at ∈ qws := qws_in (i := 1055) (by decide +kernel) (by decide +kernel)
theorem cd_yX10_at : Cond.code yX10_at cX10_at 3 (some .int) ∈ qws := qws_in (i := 1056) (by decide +kernel) (by decide +kernel)
theorem lm_L_31 : Cond.methodLink RL 31 yX10_tear ∈ qws := qws_in (i := 1057) (by decide +kernel) (by decide +kernel)
theorem im_yX10_tear : Cond.instanceMethod yX10_tear ∈ qws := qws_in (i := 1058) (by decide +kernel) (by decide +kernel)
theorem se_yX10_tear : Cond.selects RX10 yX10_tear yX10_tear ∈ qws := qws_in (i := 1059) (by decide +kernel) (by decide +kernel)
theorem cd_yX10_tear : Cond.code yX10_tear cX10_tear 2 (some .int) ∈ qws := qws_in (i := 1060) (by decide +kernel) (by decide +kernel)
theorem lm_L_36 : Cond.methodLink RL 36 yX10_copy ∈ qws := qws_in (i := 1061) (by decide +kernel) (by decide +kernel)
theorem im_yX10_copy : Cond.instanceMethod yX10_copy ∈ qws := qws_in (i := 1062) (by decide +kernel) (by decide +kernel)
theorem se_yX10_copy : Cond.selects RX10 yX10_copy yX10_copy ∈ qws := qws_in (i := 1063) (by decide +kernel) (by decide +kernel)
theorem cd_yX10_copy : Cond.code yX10_copy cX10_copy 7 (some .int) ∈ qws := qws_in (i := 1064) (by decide +kernel) (by decide +kernel)
theorem lm_L_40 : Cond.methodLink RL 40 yX10_mean ∈ qws := qws_in (i := 1065) (by decide +kernel) (by decide +kernel)
theorem im_yX10_mean : Cond.instanceMethod yX10_mean ∈ qws := qws_in (i := 1066) (by decide +kernel) (by decide +kernel)
theorem se_yX10_mean : Cond.selects RX10 yX10_mean yX10_mean ∈ qws := qws_in (i := 1067) (by decide +kernel) (by decide +kernel)
theorem cd_yX10_mean : Cond.code yX10_mean cX10_mean 5 (some .int) ∈ qws := qws_in (i := 1068) (by decide +kernel) (by decide +kernel)
theorem lm_L_44 : Cond.methodLink RL 44 yX10_text ∈ qws := qws_in (i := 1069) (by decide +kernel) (by decide +kernel)
theorem im_yX10_text : Cond.instanceMethod yX10_text ∈ qws := qws_in (i := 1070) (by decide +kernel) (by decide +kernel)
theorem se_yX10_text : Cond.selects RX10 yX10_text yX10_text ∈ qws := qws_in (i := 1071) (by decide +kernel) (by decide +kernel)
theorem cd_yX10_text : Cond.code yX10_text cX10_text 4 (some .int) ∈ qws := qws_in (i := 1072) (by decide +kernel) (by decide +kernel)
theorem lm_X10_121 : Cond.methodLink RX10 121 yX10_isText ∈ qws := qws_in (i := 1073) (by decide +kernel) (by decide +kernel)
theorem sm_yX10_isText : Cond.static yX10_isText ∈ qws := qws_in (i := 1074) (by decide +kernel) (by decide +kernel)
theorem cd_yX10_isText : Cond.code yX10_isText cX10_isText 1 (some .boolean) ∈ qws := qws_in (i := 1075) (by decide +kernel) (by decide +kernel)
theorem lk_X10_102 : Cond.constantLong RX10 102 (3 : Int64) ∈ qws := qws_in (i := 1076) (by decide +kernel) (by decide +kernel)
theorem lm_L_48 : Cond.methodLink RL 48 yX10_put ∈ qws := qws_in (i := 1077) (by decide +kernel) (by decide +kernel)
theorem im_yX10_put : Cond.instanceMethod yX10_put ∈ qws := qws_in (i := 1078) (by decide +kernel) (by decide +kernel)
theorem se_yX10_put : Cond.selects RX10 yX10_put yX10_put ∈ qws := qws_in (i := 1079) (by decide +kernel) (by decide +kernel)
theorem cd_yX10_put : Cond.code yX10_put cX10_put 5 (some .int) ∈ qws := qws_in (i := 1080) (by decide +kernel) (by decide +kernel)
theorem lm_L_52 : Cond.methodLink RL 52 yX10_fault ∈ qws := qws_in (i := 1081) (by decide +kernel) (by decide +kernel)
theorem im_yX10_fault : Cond.instanceMethod yX10_fault ∈ qws := qws_in (i := 1082) (by decide +kernel) (by decide +kernel)
theorem se_yX10_fault : Cond.selects RX10 yX10_fault yX10_fault ∈ qws := qws_in (i := 1083) (by decide +kernel) (by decide +kernel)
theorem cd_yX10_fault : Cond.code yX10_fault cX10_fault 2 (some .int) ∈ qws := qws_in (i := 1084) (by decide +kernel) (by decide +kernel)
theorem lm_X10_153 : Cond.methodLink RX10 153 yX10_readYear ∈ qws := qws_in (i := 1085) (by decide +kernel) (by decide +kernel)
theorem im_yX10_readYear : Cond.instanceMethod yX10_readYear ∈ qws := qws_in (i := 1087) (by decide +kernel) (by decide +kernel)
theorem cd_yX10_readYear : Cond.code yX10_readYear cX10_readYear 2 none ∈ qws := qws_in (i := 1088) (by decide +kernel) (by decide +kernel)
theorem lm_X10_146 : Cond.methodLink RX10 146 yX10_skip ∈ qws := qws_in (i := 1089) (by decide +kernel) (by decide +kernel)
theorem im_yX10_skip : Cond.instanceMethod yX10_skip ∈ qws := qws_in (i := 1091) (by decide +kernel) (by decide +kernel)
theorem cd_yX10_skip : Cond.code yX10_skip cX10_skip 2 none ∈ qws := qws_in (i := 1092) (by decide +kernel) (by decide +kernel)
theorem lm_X10_127 : Cond.methodLink RX10 127 yX10_byteOf ∈ qws := qws_in (i := 1093) (by decide +kernel) (by decide +kernel)
theorem im_yX10_byteOf : Cond.instanceMethod yX10_byteOf ∈ qws := qws_in (i := 1095) (by decide +kernel) (by decide +kernel)
theorem cd_yX10_byteOf : Cond.code yX10_byteOf cX10_byteOf 2 (some .int) ∈ qws := qws_in (i := 1096) (by decide +kernel) (by decide +kernel)
theorem lm_X10_150 : Cond.methodLink RX10 150 yX10_readOne ∈ qws := qws_in (i := 1097) (by decide +kernel) (by decide +kernel)
theorem im_yX10_readOne : Cond.instanceMethod yX10_readOne ∈ qws := qws_in (i := 1099) (by decide +kernel) (by decide +kernel)
theorem cd_yX10_readOne : Cond.code yX10_readOne cX10_readOne 7 none ∈ qws := qws_in (i := 1100) (by decide +kernel) (by decide +kernel)
theorem lm_X10_133 : Cond.methodLink RX10 133 yX10_kindOf ∈ qws := qws_in (i := 1101) (by decide +kernel) (by decide +kernel)
theorem sm_yX10_kindOf : Cond.static yX10_kindOf ∈ qws := qws_in (i := 1102) (by decide +kernel) (by decide +kernel)
theorem cd_yX10_kindOf : Cond.code yX10_kindOf cX10_kindOf 1 (some .int) ∈ qws := qws_in (i := 1103) (by decide +kernel) (by decide +kernel)
theorem lm_X10_142 : Cond.methodLink RX10 142 yX10_figure ∈ qws := qws_in (i := 1104) (by decide +kernel) (by decide +kernel)
theorem im_yX10_figure : Cond.instanceMethod yX10_figure ∈ qws := qws_in (i := 1106) (by decide +kernel) (by decide +kernel)
theorem cd_yX10_figure : Cond.code yX10_figure cX10_figure 5 (some .int) ∈ qws := qws_in (i := 1107) (by decide +kernel) (by decide +kernel)
theorem lm_L_56 : Cond.methodLink RL 56 yX10_year ∈ qws := qws_in (i := 1108) (by decide +kernel) (by decide +kernel)
theorem im_yX10_year : Cond.instanceMethod yX10_year ∈ qws := qws_in (i := 1109) (by decide +kernel) (by decide +kernel)
theorem se_yX10_year : Cond.selects RX10 yX10_year yX10_year ∈ qws := qws_in (i := 1110) (by decide +kernel) (by decide +kernel)
theorem cd_yX10_year : Cond.code yX10_year cX10_year 3 (some .int) ∈ qws := qws_in (i := 1111) (by decide +kernel) (by decide +kernel)
theorem lm_L_60 : Cond.methodLink RL 60 yX10_cape ∈ qws := qws_in (i := 1112) (by decide +kernel) (by decide +kernel)
theorem im_yX10_cape : Cond.instanceMethod yX10_cape ∈ qws := qws_in (i := 1113) (by decide +kernel) (by decide +kernel)
theorem se_yX10_cape : Cond.selects RX10 yX10_cape yX10_cape ∈ qws := qws_in (i := 1114) (by decide +kernel) (by decide +kernel)
theorem cd_yX10_cape : Cond.code yX10_cape cX10_cape 3 (some .int) ∈ qws := qws_in (i := 1115) (by decide +kernel) (by decide +kernel)
theorem lm_X10_198 : Cond.methodLink RX10 198 yX10_isCape ∈ qws := qws_in (i := 1116) (by decide +kernel) (by decide +kernel)
theorem im_yX10_isCape : Cond.instanceMethod yX10_isCape ∈ qws := qws_in (i := 1118) (by decide +kernel) (by decide +kernel)
theorem cd_yX10_isCape : Cond.code yX10_isCape cX10_isCape 2 (some .boolean) ∈ qws := qws_in (i := 1119) (by decide +kernel) (by decide +kernel)
theorem lm_X10_201 : Cond.methodLink RX10 201 yX10_capeOf ∈ qws := qws_in (i := 1120) (by decide +kernel) (by decide +kernel)
theorem im_yX10_capeOf : Cond.instanceMethod yX10_capeOf ∈ qws := qws_in (i := 1122) (by decide +kernel) (by decide +kernel)
theorem cd_yX10_capeOf : Cond.code yX10_capeOf cX10_capeOf 3 (some .int) ∈ qws := qws_in (i := 1123) (by decide +kernel) (by decide +kernel)
theorem lm_X10_182 : Cond.methodLink RX10 182 yX10_canPull ∈ qws := qws_in (i := 1124) (by decide +kernel) (by decide +kernel)
theorem im_yX10_canPull : Cond.instanceMethod yX10_canPull ∈ qws := qws_in (i := 1126) (by decide +kernel) (by decide +kernel)
theorem cd_yX10_canPull : Cond.code yX10_canPull cX10_canPull 2 (some .boolean) ∈ qws := qws_in (i := 1127) (by decide +kernel) (by decide +kernel)
theorem lm_X10_163 : Cond.methodLink RX10 163 yX10_isDown ∈ qws := qws_in (i := 1128) (by decide +kernel) (by decide +kernel)
theorem im_yX10_isDown : Cond.instanceMethod yX10_isDown ∈ qws := qws_in (i := 1130) (by decide +kernel) (by decide +kernel)
theorem cd_yX10_isDown : Cond.code yX10_isDown cX10_isDown 1 (some .boolean) ∈ qws := qws_in (i := 1131) (by decide +kernel) (by decide +kernel)
theorem lm_X10_159 : Cond.methodLink RX10 159 yX10_isOf ∈ qws := qws_in (i := 1132) (by decide +kernel) (by decide +kernel)
theorem im_yX10_isOf : Cond.instanceMethod yX10_isOf ∈ qws := qws_in (i := 1134) (by decide +kernel) (by decide +kernel)
theorem cd_yX10_isOf : Cond.code yX10_isOf cX10_isOf 3 (some .boolean) ∈ qws := qws_in (i := 1135) (by decide +kernel) (by decide +kernel)
theorem lm_X10_185 : Cond.methodLink RX10 185 yX10_pullBy ∈ qws := qws_in (i := 1136) (by decide +kernel) (by decide +kernel)
theorem im_yX10_pullBy : Cond.instanceMethod yX10_pullBy ∈ qws := qws_in (i := 1138) (by decide +kernel) (by decide +kernel)
theorem cd_yX10_pullBy : Cond.code yX10_pullBy cX10_pullBy 2 (some .int) ∈ qws := qws_in (i := 1139) (by decide +kernel) (by decide +kernel)
theorem lm_L_64 : Cond.methodLink RL 64 yX10_valley ∈ qws := qws_in (i := 1140) (by decide +kernel) (by decide +kernel)
theorem im_yX10_valley : Cond.instanceMethod yX10_valley ∈ qws := qws_in (i := 1141) (by decide +kernel) (by decide +kernel)
theorem se_yX10_valley : Cond.selects RX10 yX10_valley yX10_valley ∈ qws := qws_in (i := 1142) (by decide +kernel) (by decide +kernel)
theorem cd_yX10_valley : Cond.code yX10_valley cX10_valley 3 (some .int) ∈ qws := qws_in (i := 1143) (by decide +kernel) (by decide +kernel)
theorem lm_X10_205 : Cond.methodLink RX10 205 yX10_isValley ∈ qws := qws_in (i := 1144) (by decide +kernel) (by decide +kernel)
theorem im_yX10_isValley : Cond.instanceMethod yX10_isValley ∈ qws := qws_in (i := 1146) (by decide +kernel) (by decide +kernel)
theorem cd_yX10_isValley : Cond.code yX10_isValley cX10_isValley 2 (some .boolean) ∈ qws := qws_in (i := 1147) (by decide +kernel) (by decide +kernel)
theorem lk_X10_208 : Cond.constantLong RX10 208 (4 : Int64) ∈ qws := qws_in (i := 1148) (by decide +kernel) (by decide +kernel)
theorem lm_X10_210 : Cond.methodLink RX10 210 yX10_valleyOf ∈ qws := qws_in (i := 1149) (by decide +kernel) (by decide +kernel)
theorem im_yX10_valleyOf : Cond.instanceMethod yX10_valleyOf ∈ qws := qws_in (i := 1151) (by decide +kernel) (by decide +kernel)
theorem cd_yX10_valleyOf : Cond.code yX10_valleyOf cX10_valleyOf 3 (some .int) ∈ qws := qws_in (i := 1152) (by decide +kernel) (by decide +kernel)
theorem lm_L_68 : Cond.methodLink RL 68 yX10_mark ∈ qws := qws_in (i := 1153) (by decide +kernel) (by decide +kernel)
theorem im_yX10_mark : Cond.instanceMethod yX10_mark ∈ qws := qws_in (i := 1154) (by decide +kernel) (by decide +kernel)
theorem se_yX10_mark : Cond.selects RX10 yX10_mark yX10_mark ∈ qws := qws_in (i := 1155) (by decide +kernel) (by decide +kernel)
theorem cd_yX10_mark : Cond.code yX10_mark cX10_mark 3 (some .int) ∈ qws := qws_in (i := 1156) (by decide +kernel) (by decide +kernel)
theorem lm_X10_213 : Cond.methodLink RX10 213 yX10_weaker ∈ qws := qws_in (i := 1157) (by decide +kernel) (by decide +kernel)
theorem im_yX10_weaker : Cond.instanceMethod yX10_weaker ∈ qws := qws_in (i := 1159) (by decide +kernel) (by decide +kernel)
theorem cd_yX10_weaker : Cond.code yX10_weaker cX10_weaker 4 (some .int) ∈ qws := qws_in (i := 1160) (by decide +kernel) (by decide +kernel)
theorem lm_L_72 : Cond.methodLink RL 72 yX10_price ∈ qws := qws_in (i := 1161) (by decide +kernel) (by decide +kernel)
theorem im_yX10_price : Cond.instanceMethod yX10_price ∈ qws := qws_in (i := 1162) (by decide +kernel) (by decide +kernel)
theorem se_yX10_price : Cond.selects RX10 yX10_price yX10_price ∈ qws := qws_in (i := 1163) (by decide +kernel) (by decide +kernel)
theorem cd_yX10_price : Cond.code yX10_price cX10_price 4 (some .int) ∈ qws := qws_in (i := 1164) (by decide +kernel) (by decide +kernel)
theorem lk_X10_216 : Cond.constantLong RX10 216 (9 : Int64) ∈ qws := qws_in (i := 1165) (by decide +kernel) (by decide +kernel)
theorem lm_L_76 : Cond.methodLink RL 76 yX10_hold ∈ qws := qws_in (i := 1166) (by decide +kernel) (by decide +kernel)
theorem im_yX10_hold : Cond.instanceMethod yX10_hold ∈ qws := qws_in (i := 1167) (by decide +kernel) (by decide +kernel)
theorem se_yX10_hold : Cond.selects RX10 yX10_hold yX10_hold ∈ qws := qws_in (i := 1168) (by decide +kernel) (by decide +kernel)
theorem cd_yX10_hold : Cond.code yX10_hold cX10_hold 3 (some .int) ∈ qws := qws_in (i := 1169) (by decide +kernel) (by decide +kernel)
theorem lm_X10_218 : Cond.methodLink RX10 218 yX10_isSet ∈ qws := qws_in (i := 1170) (by decide +kernel) (by decide +kernel)
theorem im_yX10_isSet : Cond.instanceMethod yX10_isSet ∈ qws := qws_in (i := 1172) (by decide +kernel) (by decide +kernel)
theorem cd_yX10_isSet : Cond.code yX10_isSet cX10_isSet 2 (some .boolean) ∈ qws := qws_in (i := 1173) (by decide +kernel) (by decide +kernel)
theorem lm_X10_221 : Cond.methodLink RX10 221 yX10_remember ∈ qws := qws_in (i := 1174) (by decide +kernel) (by decide +kernel)
theorem im_yX10_remember : Cond.instanceMethod yX10_remember ∈ qws := qws_in (i := 1176) (by decide +kernel) (by decide +kernel)
theorem cd_yX10_remember : Cond.code yX10_remember cX10_remember 2 none ∈ qws := qws_in (i := 1177) (by decide +kernel) (by decide +kernel)
theorem lm_X10_224 : Cond.methodLink RX10 224 yX10_goHour ∈ qws := qws_in (i := 1178) (by decide +kernel) (by decide +kernel)
theorem im_yX10_goHour : Cond.instanceMethod yX10_goHour ∈ qws := qws_in (i := 1180) (by decide +kernel) (by decide +kernel)
theorem cd_yX10_goHour : Cond.code yX10_goHour cX10_goHour 7 (some .int) ∈ qws := qws_in (i := 1181) (by decide +kernel) (by decide +kernel)
theorem lm_X10_176 : Cond.methodLink RX10 176 yX10_gainAll ∈ qws := qws_in (i := 1182) (by decide +kernel) (by decide +kernel)
theorem im_yX10_gainAll : Cond.instanceMethod yX10_gainAll ∈ qws := qws_in (i := 1184) (by decide +kernel) (by decide +kernel)
theorem cd_yX10_gainAll : Cond.code yX10_gainAll cX10_gainAll 2 none ∈ qws := qws_in (i := 1185) (by decide +kernel) (by decide +kernel)
theorem lm_X10_167 : Cond.methodLink RX10 167 yX10_gainOf ∈ qws := qws_in (i := 1186) (by decide +kernel) (by decide +kernel)
theorem im_yX10_gainOf : Cond.instanceMethod yX10_gainOf ∈ qws := qws_in (i := 1188) (by decide +kernel) (by decide +kernel)
theorem cd_yX10_gainOf : Cond.code yX10_gainOf cX10_gainOf 3 (some .int) ∈ qws := qws_in (i := 1189) (by decide +kernel) (by decide +kernel)
theorem lm_X10_179 : Cond.methodLink RX10 179 yX10_has ∈ qws := qws_in (i := 1190) (by decide +kernel) (by decide +kernel)
theorem sm_yX10_has : Cond.static yX10_has ∈ qws := qws_in (i := 1191) (by decide +kernel) (by decide +kernel)
theorem cd_yX10_has : Cond.code yX10_has cX10_has 2 (some .boolean) ∈ qws := qws_in (i := 1192) (by decide +kernel) (by decide +kernel)
theorem lm_X10_188 : Cond.methodLink RX10 188 yX10_tire ∈ qws := qws_in (i := 1193) (by decide +kernel) (by decide +kernel)
theorem im_yX10_tire : Cond.instanceMethod yX10_tire ∈ qws := qws_in (i := 1195) (by decide +kernel) (by decide +kernel)
theorem cd_yX10_tire : Cond.code yX10_tire cX10_tire 3 none ∈ qws := qws_in (i := 1196) (by decide +kernel) (by decide +kernel)
theorem lm_X10_192 : Cond.methodLink RX10 192 yX10_rest ∈ qws := qws_in (i := 1197) (by decide +kernel) (by decide +kernel)
theorem im_yX10_rest : Cond.instanceMethod yX10_rest ∈ qws := qws_in (i := 1199) (by decide +kernel) (by decide +kernel)
theorem cd_yX10_rest : Cond.code yX10_rest cX10_rest 3 none ∈ qws := qws_in (i := 1200) (by decide +kernel) (by decide +kernel)
theorem lm_X10_195 : Cond.methodLink RX10 195 yX10_bits ∈ qws := qws_in (i := 1201) (by decide +kernel) (by decide +kernel)
theorem sm_yX10_bits : Cond.static yX10_bits ∈ qws := qws_in (i := 1202) (by decide +kernel) (by decide +kernel)
theorem cd_yX10_bits : Cond.code yX10_bits cX10_bits 3 (some .int) ∈ qws := qws_in (i := 1203) (by decide +kernel) (by decide +kernel)
theorem lm_L_80 : Cond.methodLink RL 80 yX10_rope ∈ qws := qws_in (i := 1204) (by decide +kernel) (by decide +kernel)
theorem im_yX10_rope : Cond.instanceMethod yX10_rope ∈ qws := qws_in (i := 1205) (by decide +kernel) (by decide +kernel)
theorem se_yX10_rope : Cond.selects RX10 yX10_rope yX10_rope ∈ qws := qws_in (i := 1206) (by decide +kernel) (by decide +kernel)
theorem cd_yX10_rope : Cond.code yX10_rope cX10_rope 4 (some .int) ∈ qws := qws_in (i := 1207) (by decide +kernel) (by decide +kernel)
theorem lm_L_85 : Cond.methodLink RL 85 yX10_rise ∈ qws := qws_in (i := 1208) (by decide +kernel) (by decide +kernel)
theorem im_yX10_rise : Cond.instanceMethod yX10_rise ∈ qws := qws_in (i := 1209) (by decide +kernel) (by decide +kernel)
theorem se_yX10_rise : Cond.selects RX10 yX10_rise yX10_rise ∈ qws := qws_in (i := 1210) (by decide +kernel) (by decide +kernel)
theorem cd_yX10_rise : Cond.code yX10_rise cX10_rise 2 (some .int) ∈ qws := qws_in (i := 1211) (by decide +kernel) (by decide +kernel)
theorem lm_L_89 : Cond.methodLink RL 89 yX10_undo ∈ qws := qws_in (i := 1212) (by decide +kernel) (by decide +kernel)
theorem im_yX10_undo : Cond.instanceMethod yX10_undo ∈ qws := qws_in (i := 1213) (by decide +kernel) (by decide +kernel)
theorem se_yX10_undo : Cond.selects RX10 yX10_undo yX10_undo ∈ qws := qws_in (i := 1214) (by decide +kernel) (by decide +kernel)
theorem cd_yX10_undo : Cond.code yX10_undo cX10_undo 4 (some .int) ∈ qws := qws_in (i := 1215) (by decide +kernel) (by decide +kernel)
theorem lm_L_93 : Cond.methodLink RL 93 yX10_sun ∈ qws := qws_in (i := 1216) (by decide +kernel) (by decide +kernel)
theorem im_yX10_sun : Cond.instanceMethod yX10_sun ∈ qws := qws_in (i := 1217) (by decide +kernel) (by decide +kernel)
theorem se_yX10_sun : Cond.selects RX10 yX10_sun yX10_sun ∈ qws := qws_in (i := 1218) (by decide +kernel) (by decide +kernel)
theorem cd_yX10_sun : Cond.code yX10_sun cX10_sun 1 (some .int) ∈ qws := qws_in (i := 1219) (by decide +kernel) (by decide +kernel)
theorem lm_L_97 : Cond.methodLink RL 97 yX10_gained ∈ qws := qws_in (i := 1220) (by decide +kernel) (by decide +kernel)
theorem im_yX10_gained : Cond.instanceMethod yX10_gained ∈ qws := qws_in (i := 1221) (by decide +kernel) (by decide +kernel)
theorem se_yX10_gained : Cond.selects RX10 yX10_gained yX10_gained ∈ qws := qws_in (i := 1222) (by decide +kernel) (by decide +kernel)
theorem cd_yX10_gained : Cond.code yX10_gained cX10_gained 4 (some .int) ∈ qws := qws_in (i := 1223) (by decide +kernel) (by decide +kernel)
theorem lm_L_101 : Cond.methodLink RL 101 yX10_keep ∈ qws := qws_in (i := 1224) (by decide +kernel) (by decide +kernel)
theorem im_yX10_keep : Cond.instanceMethod yX10_keep ∈ qws := qws_in (i := 1225) (by decide +kernel) (by decide +kernel)
theorem se_yX10_keep : Cond.selects RX10 yX10_keep yX10_keep ∈ qws := qws_in (i := 1226) (by decide +kernel) (by decide +kernel)
theorem cd_yX10_keep : Cond.code yX10_keep cX10_keep 3 (some .int) ∈ qws := qws_in (i := 1227) (by decide +kernel) (by decide +kernel)
theorem lk_X10_227 : Cond.constantLong RX10 227 (2 : Int64) ∈ qws := qws_in (i := 1228) (by decide +kernel) (by decide +kernel)
theorem lm_L_105 : Cond.methodLink RL 105 yX10_on ∈ qws := qws_in (i := 1229) (by decide +kernel) (by decide +kernel)
theorem im_yX10_on : Cond.instanceMethod yX10_on ∈ qws := qws_in (i := 1230) (by decide +kernel) (by decide +kernel)
theorem se_yX10_on : Cond.selects RX10 yX10_on yX10_on ∈ qws := qws_in (i := 1231) (by decide +kernel) (by decide +kernel)
theorem cd_yX10_on : Cond.code yX10_on cX10_on 3 (some .int) ∈ qws := qws_in (i := 1232) (by decide +kernel) (by decide +kernel)
theorem lm_L_109 : Cond.methodLink RL 109 yX10_run ∈ qws := qws_in (i := 1233) (by decide +kernel) (by decide +kernel)
theorem im_yX10_run : Cond.instanceMethod yX10_run ∈ qws := qws_in (i := 1234) (by decide +kernel) (by decide +kernel)
theorem se_yX10_run : Cond.selects RX10 yX10_run yX10_run ∈ qws := qws_in (i := 1235) (by decide +kernel) (by decide +kernel)
theorem cd_yX10_run : Cond.code yX10_run cX10_run 6 (some .int) ∈ qws := qws_in (i := 1236) (by decide +kernel) (by decide +kernel)
theorem lm_X10_229 : Cond.methodLink RX10 229 yX10_planRefused ∈ qws := qws_in (i := 1237) (by decide +kernel) (by decide +kernel)
theorem im_yX10_planRefused : Cond.instanceMethod yX10_planRefused ∈ qws := qws_in (i := 1239) (by decide +kernel) (by decide +kernel)
theorem cd_yX10_planRefused : Cond.code yX10_planRefused cX10_planRefused 4 (some .int) ∈ qws := qws_in (i := 1240) (by decide +kernel) (by decide +kernel)
theorem lm_X10_232 : Cond.methodLink RX10 232 yX10_save ∈ qws := qws_in (i := 1241) (by decide +kernel) (by decide +kernel)
theorem im_yX10_save : Cond.instanceMethod yX10_save ∈ qws := qws_in (i := 1243) (by decide +kernel) (by decide +kernel)
theorem cd_yX10_save : Cond.code yX10_save cX10_save 2 none ∈ qws := qws_in (i := 1244) (by decide +kernel) (by decide +kernel)
theorem lm_X10_235 : Cond.methodLink RX10 235 yX10_gainsNow ∈ qws := qws_in (i := 1245) (by decide +kernel) (by decide +kernel)
theorem im_yX10_gainsNow : Cond.instanceMethod yX10_gainsNow ∈ qws := qws_in (i := 1247) (by decide +kernel) (by decide +kernel)
theorem cd_yX10_gainsNow : Cond.code yX10_gainsNow cX10_gainsNow 3 (some .int) ∈ qws := qws_in (i := 1248) (by decide +kernel) (by decide +kernel)
theorem lm_X10_239 : Cond.methodLink RX10 239 yX10_putBack ∈ qws := qws_in (i := 1249) (by decide +kernel) (by decide +kernel)
theorem im_yX10_putBack : Cond.instanceMethod yX10_putBack ∈ qws := qws_in (i := 1251) (by decide +kernel) (by decide +kernel)
theorem cd_yX10_putBack : Cond.code yX10_putBack cX10_putBack 2 none ∈ qws := qws_in (i := 1252) (by decide +kernel) (by decide +kernel)
theorem lm_L_113 : Cond.methodLink RL 113 yX10_burns ∈ qws := qws_in (i := 1253) (by decide +kernel) (by decide +kernel)
theorem im_yX10_burns : Cond.instanceMethod yX10_burns ∈ qws := qws_in (i := 1254) (by decide +kernel) (by decide +kernel)
theorem se_yX10_burns : Cond.selects RX10 yX10_burns yX10_burns ∈ qws := qws_in (i := 1255) (by decide +kernel) (by decide +kernel)
theorem cd_yX10_burns : Cond.code yX10_burns cX10_burns 4 (some .int) ∈ qws := qws_in (i := 1256) (by decide +kernel) (by decide +kernel)
theorem lm_X10_242 : Cond.methodLink RX10 242 yX10_firstLurch ∈ qws := qws_in (i := 1257) (by decide +kernel) (by decide +kernel)
theorem im_yX10_firstLurch : Cond.instanceMethod yX10_firstLurch ∈ qws := qws_in (i := 1259) (by decide +kernel) (by decide +kernel)
theorem cd_yX10_firstLurch : Cond.code yX10_firstLurch cX10_firstLurch 5 (some .int) ∈ qws := qws_in (i := 1260) (by decide +kernel) (by decide +kernel)
theorem lm_L_117 : Cond.methodLink RL 117 yX10_best ∈ qws := qws_in (i := 1261) (by decide +kernel) (by decide +kernel)
theorem im_yX10_best : Cond.instanceMethod yX10_best ∈ qws := qws_in (i := 1262) (by decide +kernel) (by decide +kernel)
theorem se_yX10_best : Cond.selects RX10 yX10_best yX10_best ∈ qws := qws_in (i := 1263) (by decide +kernel) (by decide +kernel)
theorem cd_yX10_best : Cond.code yX10_best cX10_best 9 (some .int) ∈ qws := qws_in (i := 1264) (by decide +kernel) (by decide +kernel)
theorem lm_X10_251 : Cond.methodLink RX10 251 yX10_codes ∈ qws := qws_in (i := 1265) (by decide +kernel) (by decide +kernel)
theorem im_yX10_codes : Cond.instanceMethod yX10_codes ∈ qws := qws_in (i := 1267) (by decide +kernel) (by decide +kernel)
theorem cd_yX10_codes : Cond.code yX10_codes cX10_codes 2 (some .int) ∈ qws := qws_in (i := 1268) (by decide +kernel) (by decide +kernel)
theorem lm_X10_254 : Cond.methodLink RX10 254 yX10_goPlan ∈ qws := qws_in (i := 1269) (by decide +kernel) (by decide +kernel)
theorem im_yX10_goPlan : Cond.instanceMethod yX10_goPlan ∈ qws := qws_in (i := 1271) (by decide +kernel) (by decide +kernel)
theorem cd_yX10_goPlan : Cond.code yX10_goPlan cX10_goPlan 6 (some .boolean) ∈ qws := qws_in (i := 1272) (by decide +kernel) (by decide +kernel)
theorem lm_X10_248 : Cond.methodLink RX10 248 yX10_setOf ∈ qws := qws_in (i := 1273) (by decide +kernel) (by decide +kernel)
theorem im_yX10_setOf : Cond.instanceMethod yX10_setOf ∈ qws := qws_in (i := 1275) (by decide +kernel) (by decide +kernel)
theorem cd_yX10_setOf : Cond.code yX10_setOf cX10_setOf 4 (some .int) ∈ qws := qws_in (i := 1276) (by decide +kernel) (by decide +kernel)
theorem lm_X10_257 : Cond.methodLink RX10 257 yX10_layPlan ∈ qws := qws_in (i := 1277) (by decide +kernel) (by decide +kernel)
theorem im_yX10_layPlan : Cond.instanceMethod yX10_layPlan ∈ qws := qws_in (i := 1279) (by decide +kernel) (by decide +kernel)
theorem cd_yX10_layPlan : Cond.code yX10_layPlan cX10_layPlan 6 none ∈ qws := qws_in (i := 1280) (by decide +kernel) (by decide +kernel)
theorem lm_X10_245 : Cond.methodLink RX10 245 yX10_row ∈ qws := qws_in (i := 1281) (by decide +kernel) (by decide +kernel)
theorem lm_L_121 : Cond.methodLink RL 121 yX10_slowest ∈ qws := qws_in (i := 1282) (by decide +kernel) (by decide +kernel)
theorem im_yX10_slowest : Cond.instanceMethod yX10_slowest ∈ qws := qws_in (i := 1283) (by decide +kernel) (by decide +kernel)
theorem se_yX10_slowest : Cond.selects RX10 yX10_slowest yX10_slowest ∈ qws := qws_in (i := 1284) (by decide +kernel) (by decide +kernel)
theorem cd_yX10_slowest : Cond.code yX10_slowest cX10_slowest 8 (some .int) ∈ qws := qws_in (i := 1285) (by decide +kernel) (by decide +kernel)
theorem lk_X10_261 : Cond.constant RX10 261 (1000000 : Int32) ∈ qws := qws_in (i := 1286) (by decide +kernel) (by decide +kernel)
theorem lm_L_125 : Cond.methodLink RL 125 yX10_down ∈ qws := qws_in (i := 1287) (by decide +kernel) (by decide +kernel)
theorem im_yX10_down : Cond.instanceMethod yX10_down ∈ qws := qws_in (i := 1288) (by decide +kernel) (by decide +kernel)
theorem se_yX10_down : Cond.selects RX10 yX10_down yX10_down ∈ qws := qws_in (i := 1289) (by decide +kernel) (by decide +kernel)
theorem cd_yX10_down : Cond.code yX10_down cX10_down 2 (some .int) ∈ qws := qws_in (i := 1290) (by decide +kernel) (by decide +kernel)
theorem lm_X10_262 : Cond.methodLink RX10 262 yX10_hoursTillDown ∈ qws := qws_in (i := 1291) (by decide +kernel) (by decide +kernel)
theorem im_yX10_hoursTillDown : Cond.instanceMethod yX10_hoursTillDown ∈ qws := qws_in (i := 1293) (by decide +kernel) (by decide +kernel)
theorem cd_yX10_hoursTillDown : Cond.code yX10_hoursTillDown cX10_hoursTillDown 4 (some .int) ∈ qws := qws_in (i := 1294) (by decide +kernel) (by decide +kernel)
theorem lm_L_129 : Cond.methodLink RL 129 yX10_longest ∈ qws := qws_in (i := 1295) (by decide +kernel) (by decide +kernel)
theorem im_yX10_longest : Cond.instanceMethod yX10_longest ∈ qws := qws_in (i := 1296) (by decide +kernel) (by decide +kernel)
theorem se_yX10_longest : Cond.selects RX10 yX10_longest yX10_longest ∈ qws := qws_in (i := 1297) (by decide +kernel) (by decide +kernel)
theorem cd_yX10_longest : Cond.code yX10_longest cX10_longest 5 (some .int) ∈ qws := qws_in (i := 1298) (by decide +kernel) (by decide +kernel)
theorem lm_L_133 : Cond.methodLink RL 133 yX10_ropes ∈ qws := qws_in (i := 1299) (by decide +kernel) (by decide +kernel)
theorem im_yX10_ropes : Cond.instanceMethod yX10_ropes ∈ qws := qws_in (i := 1300) (by decide +kernel) (by decide +kernel)
theorem se_yX10_ropes : Cond.selects RX10 yX10_ropes yX10_ropes ∈ qws := qws_in (i := 1301) (by decide +kernel) (by decide +kernel)
theorem cd_yX10_ropes : Cond.code yX10_ropes cX10_ropes 6 (some .int) ∈ qws := qws_in (i := 1302) (by decide +kernel) (by decide +kernel)
theorem lm_L_137 : Cond.methodLink RL 137 yX10_loose ∈ qws := qws_in (i := 1303) (by decide +kernel) (by decide +kernel)
theorem im_yX10_loose : Cond.instanceMethod yX10_loose ∈ qws := qws_in (i := 1304) (by decide +kernel) (by decide +kernel)
theorem se_yX10_loose : Cond.selects RX10 yX10_loose yX10_loose ∈ qws := qws_in (i := 1305) (by decide +kernel) (by decide +kernel)
theorem cd_yX10_loose : Cond.code yX10_loose cX10_loose 10 (some .int) ∈ qws := qws_in (i := 1306) (by decide +kernel) (by decide +kernel)
theorem lm_X10_265 : Cond.methodLink RX10 265 yX10_jumpsBy ∈ qws := qws_in (i := 1307) (by decide +kernel) (by decide +kernel)
theorem im_yX10_jumpsBy : Cond.instanceMethod yX10_jumpsBy ∈ qws := qws_in (i := 1309) (by decide +kernel) (by decide +kernel)
theorem cd_yX10_jumpsBy : Cond.code yX10_jumpsBy cX10_jumpsBy 10 (some .int) ∈ qws := qws_in (i := 1310) (by decide +kernel) (by decide +kernel)
theorem lm_L_141 : Cond.methodLink RL 141 yX10_votes ∈ qws := qws_in (i := 1311) (by decide +kernel) (by decide +kernel)
theorem im_yX10_votes : Cond.instanceMethod yX10_votes ∈ qws := qws_in (i := 1312) (by decide +kernel) (by decide +kernel)
theorem se_yX10_votes : Cond.selects RX10 yX10_votes yX10_votes ∈ qws := qws_in (i := 1313) (by decide +kernel) (by decide +kernel)
theorem cd_yX10_votes : Cond.code yX10_votes cX10_votes 3 (some .int) ∈ qws := qws_in (i := 1314) (by decide +kernel) (by decide +kernel)
theorem lm_X10_268 : Cond.methodLink RX10 268 yX10_findGains ∈ qws := qws_in (i := 1315) (by decide +kernel) (by decide +kernel)
theorem im_yX10_findGains : Cond.instanceMethod yX10_findGains ∈ qws := qws_in (i := 1317) (by decide +kernel) (by decide +kernel)
theorem cd_yX10_findGains : Cond.code yX10_findGains cX10_findGains 4 none ∈ qws := qws_in (i := 1318) (by decide +kernel) (by decide +kernel)
theorem lm_X10_271 : Cond.methodLink RX10 271 yX10_votersFor ∈ qws := qws_in (i := 1319) (by decide +kernel) (by decide +kernel)
theorem im_yX10_votersFor : Cond.instanceMethod yX10_votersFor ∈ qws := qws_in (i := 1321) (by decide +kernel) (by decide +kernel)
theorem cd_yX10_votersFor : Cond.code yX10_votersFor cX10_votersFor 5 (some .int) ∈ qws := qws_in (i := 1322) (by decide +kernel) (by decide +kernel)
theorem lm_L_145 : Cond.methodLink RL 145 yX10_choice ∈ qws := qws_in (i := 1323) (by decide +kernel) (by decide +kernel)
theorem im_yX10_choice : Cond.instanceMethod yX10_choice ∈ qws := qws_in (i := 1324) (by decide +kernel) (by decide +kernel)
theorem se_yX10_choice : Cond.selects RX10 yX10_choice yX10_choice ∈ qws := qws_in (i := 1325) (by decide +kernel) (by decide +kernel)
theorem cd_yX10_choice : Cond.code yX10_choice cX10_choice 4 (some .int) ∈ qws := qws_in (i := 1326) (by decide +kernel) (by decide +kernel)
theorem lm_L_149 : Cond.methodLink RL 149 yX10_parts ∈ qws := qws_in (i := 1327) (by decide +kernel) (by decide +kernel)
theorem im_yX10_parts : Cond.instanceMethod yX10_parts ∈ qws := qws_in (i := 1328) (by decide +kernel) (by decide +kernel)
theorem se_yX10_parts : Cond.selects RX10 yX10_parts yX10_parts ∈ qws := qws_in (i := 1329) (by decide +kernel) (by decide +kernel)
theorem cd_yX10_parts : Cond.code yX10_parts cX10_parts 6 (some .int) ∈ qws := qws_in (i := 1330) (by decide +kernel) (by decide +kernel)
theorem lm_X10_274 : Cond.methodLink RX10 274 yX10_mostOf ∈ qws := qws_in (i := 1331) (by decide +kernel) (by decide +kernel)
theorem im_yX10_mostOf : Cond.instanceMethod yX10_mostOf ∈ qws := qws_in (i := 1333) (by decide +kernel) (by decide +kernel)
theorem cd_yX10_mostOf : Cond.code yX10_mostOf cX10_mostOf 6 (some .int) ∈ qws := qws_in (i := 1334) (by decide +kernel) (by decide +kernel)
theorem lm_L_153 : Cond.methodLink RL 153 yX10_fits ∈ qws := qws_in (i := 1335) (by decide +kernel) (by decide +kernel)
theorem im_yX10_fits : Cond.instanceMethod yX10_fits ∈ qws := qws_in (i := 1336) (by decide +kernel) (by decide +kernel)
theorem se_yX10_fits : Cond.selects RX10 yX10_fits yX10_fits ∈ qws := qws_in (i := 1337) (by decide +kernel) (by decide +kernel)
theorem cd_yX10_fits : Cond.code yX10_fits cX10_fits 10 (some .int) ∈ qws := qws_in (i := 1338) (by decide +kernel) (by decide +kernel)
theorem lm_X10_277 : Cond.methodLink RX10 277 yX10_seenRefused ∈ qws := qws_in (i := 1339) (by decide +kernel) (by decide +kernel)
theorem im_yX10_seenRefused : Cond.instanceMethod yX10_seenRefused ∈ qws := qws_in (i := 1341) (by decide +kernel) (by decide +kernel)
theorem cd_yX10_seenRefused : Cond.code yX10_seenRefused cX10_seenRefused 2 (some .int) ∈ qws := qws_in (i := 1342) (by decide +kernel) (by decide +kernel)
theorem lm_X10_280 : Cond.methodLink RX10 280 yX10_isSo ∈ qws := qws_in (i := 1343) (by decide +kernel) (by decide +kernel)
theorem im_yX10_isSo : Cond.instanceMethod yX10_isSo ∈ qws := qws_in (i := 1345) (by decide +kernel) (by decide +kernel)
theorem cd_yX10_isSo : Cond.code yX10_isSo cX10_isSo 9 (some .boolean) ∈ qws := qws_in (i := 1346) (by decide +kernel) (by decide +kernel)
theorem lm_L_157 : Cond.methodLink RL 157 yX10_slipped ∈ qws := qws_in (i := 1347) (by decide +kernel) (by decide +kernel)
theorem im_yX10_slipped : Cond.instanceMethod yX10_slipped ∈ qws := qws_in (i := 1348) (by decide +kernel) (by decide +kernel)
theorem se_yX10_slipped : Cond.selects RX10 yX10_slipped yX10_slipped ∈ qws := qws_in (i := 1349) (by decide +kernel) (by decide +kernel)
theorem cd_yX10_slipped : Cond.code yX10_slipped cX10_slipped 10 (some .int) ∈ qws := qws_in (i := 1350) (by decide +kernel) (by decide +kernel)
theorem lm_L_161 : Cond.methodLink RL 161 yX10_odds ∈ qws := qws_in (i := 1351) (by decide +kernel) (by decide +kernel)
theorem im_yX10_odds : Cond.instanceMethod yX10_odds ∈ qws := qws_in (i := 1352) (by decide +kernel) (by decide +kernel)
theorem se_yX10_odds : Cond.selects RX10 yX10_odds yX10_odds ∈ qws := qws_in (i := 1353) (by decide +kernel) (by decide +kernel)
theorem cd_yX10_odds : Cond.code yX10_odds cX10_odds 9 (some .int) ∈ qws := qws_in (i := 1354) (by decide +kernel) (by decide +kernel)
theorem lk_X10_287 : Cond.constantLong RX10 287 (99 : Int64) ∈ qws := qws_in (i := 1355) (by decide +kernel) (by decide +kernel)
theorem lm_X10_289 : Cond.methodLink RX10 289 yX10_tellOdds ∈ qws := qws_in (i := 1356) (by decide +kernel) (by decide +kernel)
theorem im_yX10_tellOdds : Cond.instanceMethod yX10_tellOdds ∈ qws := qws_in (i := 1358) (by decide +kernel) (by decide +kernel)
theorem cd_yX10_tellOdds : Cond.code yX10_tellOdds cX10_tellOdds 11 none ∈ qws := qws_in (i := 1359) (by decide +kernel) (by decide +kernel)
theorem lm_L_165 : Cond.methodLink RL 165 yX10_lots ∈ qws := qws_in (i := 1360) (by decide +kernel) (by decide +kernel)
theorem im_yX10_lots : Cond.instanceMethod yX10_lots ∈ qws := qws_in (i := 1361) (by decide +kernel) (by decide +kernel)
theorem se_yX10_lots : Cond.selects RX10 yX10_lots yX10_lots ∈ qws := qws_in (i := 1362) (by decide +kernel) (by decide +kernel)
theorem cd_yX10_lots : Cond.code yX10_lots cX10_lots 8 (some .int) ∈ qws := qws_in (i := 1363) (by decide +kernel) (by decide +kernel)
theorem lk_X10_293 : Cond.constantLong RX10 293 (20 : Int64) ∈ qws := qws_in (i := 1364) (by decide +kernel) (by decide +kernel)
theorem lk_X10_295 : Cond.constantLong RX10 295 (2147483646 : Int64) ∈ qws := qws_in (i := 1365) (by decide +kernel) (by decide +kernel)
theorem lk_X10_297 : Cond.constantLong RX10 297 (48271 : Int64) ∈ qws := qws_in (i := 1366) (by decide +kernel) (by decide +kernel)
theorem lk_X10_299 : Cond.constantLong RX10 299 (2147483647 : Int64) ∈ qws := qws_in (i := 1367) (by decide +kernel) (by decide +kernel)
theorem lk_X10_301 : Cond.constantLong RX10 301 (32 : Int64) ∈ qws := qws_in (i := 1368) (by decide +kernel) (by decide +kernel)
theorem lm_L_169 : Cond.methodLink RL 169 yX10_asked ∈ qws := qws_in (i := 1369) (by decide +kernel) (by decide +kernel)
theorem im_yX10_asked : Cond.instanceMethod yX10_asked ∈ qws := qws_in (i := 1370) (by decide +kernel) (by decide +kernel)
theorem se_yX10_asked : Cond.selects RX10 yX10_asked yX10_asked ∈ qws := qws_in (i := 1371) (by decide +kernel) (by decide +kernel)
theorem cd_yX10_asked : Cond.code yX10_asked cX10_asked 1 (some .int) ∈ qws := qws_in (i := 1372) (by decide +kernel) (by decide +kernel)
theorem lm_L_174 : Cond.methodLink RL 174 yX10_upper ∈ qws := qws_in (i := 1373) (by decide +kernel) (by decide +kernel)
theorem im_yX10_upper : Cond.instanceMethod yX10_upper ∈ qws := qws_in (i := 1374) (by decide +kernel) (by decide +kernel)
theorem se_yX10_upper : Cond.selects RX10 yX10_upper yX10_upper ∈ qws := qws_in (i := 1375) (by decide +kernel) (by decide +kernel)
theorem cd_yX10_upper : Cond.code yX10_upper cX10_upper 1 (some .long) ∈ qws := qws_in (i := 1376) (by decide +kernel) (by decide +kernel)
theorem lm_L_178 : Cond.methodLink RL 178 yX10_lower ∈ qws := qws_in (i := 1377) (by decide +kernel) (by decide +kernel)
theorem im_yX10_lower : Cond.instanceMethod yX10_lower ∈ qws := qws_in (i := 1378) (by decide +kernel) (by decide +kernel)
theorem se_yX10_lower : Cond.selects RX10 yX10_lower yX10_lower ∈ qws := qws_in (i := 1379) (by decide +kernel) (by decide +kernel)
theorem cd_yX10_lower : Cond.code yX10_lower cX10_lower 1 (some .long) ∈ qws := qws_in (i := 1380) (by decide +kernel) (by decide +kernel)
theorem lm_L_182 : Cond.methodLink RL 182 yX10_count ∈ qws := qws_in (i := 1381) (by decide +kernel) (by decide +kernel)
theorem im_yX10_count : Cond.instanceMethod yX10_count ∈ qws := qws_in (i := 1382) (by decide +kernel) (by decide +kernel)
theorem se_yX10_count : Cond.selects RX10 yX10_count yX10_count ∈ qws := qws_in (i := 1383) (by decide +kernel) (by decide +kernel)
theorem cd_yX10_count : Cond.code yX10_count cX10_count 2 (some .int) ∈ qws := qws_in (i := 1384) (by decide +kernel) (by decide +kernel)
theorem lm_X10_303 : Cond.methodLink RX10 303 yX10_pullers ∈ qws := qws_in (i := 1385) (by decide +kernel) (by decide +kernel)
theorem im_yX10_pullers : Cond.instanceMethod yX10_pullers ∈ qws := qws_in (i := 1387) (by decide +kernel) (by decide +kernel)
theorem cd_yX10_pullers : Cond.code yX10_pullers cX10_pullers 3 (some .int) ∈ qws := qws_in (i := 1388) (by decide +kernel) (by decide +kernel)
theorem lm_X10_306 : Cond.methodLink RX10 306 yX10_strongOnes ∈ qws := qws_in (i := 1389) (by decide +kernel) (by decide +kernel)
theorem im_yX10_strongOnes : Cond.instanceMethod yX10_strongOnes ∈ qws := qws_in (i := 1391) (by decide +kernel) (by decide +kernel)
theorem cd_yX10_strongOnes : Cond.code yX10_strongOnes cX10_strongOnes 3 (some .int) ∈ qws := qws_in (i := 1392) (by decide +kernel) (by decide +kernel)
theorem lm_X10_309 : Cond.methodLink RX10 309 yX10_there ∈ qws := qws_in (i := 1393) (by decide +kernel) (by decide +kernel)
theorem sm_yX10_there : Cond.static yX10_there ∈ qws := qws_in (i := 1394) (by decide +kernel) (by decide +kernel)
theorem cd_yX10_there : Cond.code yX10_there cX10_there 3 (some .int) ∈ qws := qws_in (i := 1395) (by decide +kernel) (by decide +kernel)
theorem lm_L_186 : Cond.methodLink RL 186 yX10_finding ∈ qws := qws_in (i := 1396) (by decide +kernel) (by decide +kernel)
theorem im_yX10_finding : Cond.instanceMethod yX10_finding ∈ qws := qws_in (i := 1397) (by decide +kernel) (by decide +kernel)
theorem se_yX10_finding : Cond.selects RX10 yX10_finding yX10_finding ∈ qws := qws_in (i := 1398) (by decide +kernel) (by decide +kernel)
theorem cd_yX10_finding : Cond.code yX10_finding cX10_finding 1 (some .int) ∈ qws := qws_in (i := 1399) (by decide +kernel) (by decide +kernel)
theorem lm_L_190 : Cond.methodLink RL 190 yX10_findings ∈ qws := qws_in (i := 1400) (by decide +kernel) (by decide +kernel)
theorem im_yX10_findings : Cond.instanceMethod yX10_findings ∈ qws := qws_in (i := 1401) (by decide +kernel) (by decide +kernel)
theorem se_yX10_findings : Cond.selects RX10 yX10_findings yX10_findings ∈ qws := qws_in (i := 1402) (by decide +kernel) (by decide +kernel)
theorem cd_yX10_findings : Cond.code yX10_findings cX10_findings 2 (some .int) ∈ qws := qws_in (i := 1403) (by decide +kernel) (by decide +kernel)
theorem lm_L_194 : Cond.methodLink RL 194 yX10_digest ∈ qws := qws_in (i := 1404) (by decide +kernel) (by decide +kernel)
theorem im_yX10_digest : Cond.instanceMethod yX10_digest ∈ qws := qws_in (i := 1405) (by decide +kernel) (by decide +kernel)
theorem se_yX10_digest : Cond.selects RX10 yX10_digest yX10_digest ∈ qws := qws_in (i := 1406) (by decide +kernel) (by decide +kernel)
theorem cd_yX10_digest : Cond.code yX10_digest cX10_digest 5 (some .long) ∈ qws := qws_in (i := 1407) (by decide +kernel) (by decide +kernel)
theorem lk_X10_313 : Cond.constantLong RX10 313 (17 : Int64) ∈ qws := qws_in (i := 1408) (by decide +kernel) (by decide +kernel)
theorem lk_X10_315 : Cond.constantLong RX10 315 (31 : Int64) ∈ qws := qws_in (i := 1409) (by decide +kernel) (by decide +kernel)
theorem lm_X10_317 : Cond.methodLink RX10 317 yX10_count ∈ qws := qws_in (i := 1410) (by decide +kernel) (by decide +kernel)
set_option maxRecDepth 20000 in
theorem inX0 : ∀ w ∈ wsX00, w ∈ qws := qws_ps [280, 282] (by decide +kernel) (by decide +kernel)
set_option maxRecDepth 20000 in
theorem inX1 : ∀ w ∈ wsX10, w ∈ qws := qws_ps [188, 190, 192, 194, 196] (by decide +kernel) (by decide +kernel)
set_option maxRecDepth 20000 in
theorem inX2 : ∀ w ∈ wsX20, w ∈ qws := qws_ps [210, 212, 214] (by decide +kernel) (by decide +kernel)
set_option maxRecDepth 20000 in
theorem inX3 : ∀ w ∈ wsX30, w ∈ qws := qws_ps [229, 231] (by decide +kernel) (by decide +kernel)
set_option maxRecDepth 20000 in
theorem inX4 : ∀ w ∈ wsX40, w ∈ qws := qws_ps [113, 115, 117, 119] (by decide +kernel) (by decide +kernel)
set_option maxRecDepth 20000 in
theorem inX5 : ∀ w ∈ wsX50, w ∈ qws := qws_ps [299, 301] (by decide +kernel) (by decide +kernel)
set_option maxRecDepth 20000 in
theorem inX6 : ∀ w ∈ wsX60, w ∈ qws := qws_ps [253, 255, 257, 259, 261, 263, 265, 267] (by decide +kernel) (by decide +kernel)
set_option maxRecDepth 20000 in
theorem inX7 : ∀ w ∈ wsX70, w ∈ qws := qws_ps [315, 317] (by decide +kernel) (by decide +kernel)
set_option maxRecDepth 20000 in
theorem inX8 : ∀ w ∈ wsX80, w ∈ qws := qws_ps [150, 152, 154, 156, 158, 160, 162, 164] (by decide +kernel) (by decide +kernel)
set_option maxRecDepth 20000 in
theorem inX9 : ∀ w ∈ wsX90, w ∈ qws := qws_ps [337, 339, 341, 343, 345, 347, 349, 351, 353, 355, 357, 359, 361, 363, 365, 367] (by decide +kernel) (by decide +kernel)
set_option maxRecDepth 20000 in
theorem inX10 : ∀ w ∈ wsX100, w ∈ qws := qws_ps [955, 957, 959, 961, 963, 965, 967, 969, 971, 973, 975, 977, 979, 981, 983, 985, 987, 989, 991, 993, 995, 997, 999, 1001, 1003, 1005, 1007, 1009, 1011, 1013, 1015, 1017, 1019, 1021, 1023, 1025, 1027, 1029, 1031] (by decide +kernel) (by decide +kernel)
end
section
/-! ===== the abstract heap: cells by index; index k lies at address sz + k ===== -/
abbrev qE : Type := (Nat × vp_A) ⊕ (Nat × List Value)
abbrev qH : Type := List qE
abbrev qG : Type := Nat × (Nat → Nat) × (Nat → Nat × (Nat → Int32)) × va_G × (Nat → ClassId)
def cv (G : qG) : Value → Value
  | .ref k => .ref (G.1 + k)
  | .retAddr j => .ref (G.2.1 j)
  | .int x => .int x
  | .long x => .long x
  | .float x => .float x
  | .double x => .double x
  | .null => .null
theorem cv_cat (G : qG) (v : Value) : (cv G v).category = v.category := by cases v <;> rfl
def cC (G : qG) : ((Nat → Int32) ⊕ (Nat → Int64) ⊕ (Nat → UInt32) ⊕ (Nat → UInt64) ⊕ (Nat → Option Nat)) → ((Nat → Int32) ⊕ (Nat → Int64) ⊕ (Nat → UInt32) ⊕ (Nat → UInt64) ⊕ (Nat → Option Nat))
  | .inl f => .inl f
  | .inr (.inl f) => .inr (.inl f)
  | .inr (.inr (.inl f)) => .inr (.inr (.inl f))
  | .inr (.inr (.inr (.inl f))) => .inr (.inr (.inr (.inl f)))
  | .inr (.inr (.inr (.inr f))) => .inr (.inr (.inr (.inr (fun j => (f j).map (fun k => G.1 + k)))))
def cE (G : qG) : qE → va_E
  | .inl (t, n, x) => .inl (G.2.2.2.2 t, n, cC G x)
  | .inr (c, fs) => .inr (c, fs.map (cv G))
def wo (G : qG) (A : qH) : va_W := A.mapIdx (fun k e => (G.1 + k, cE G e))
theorem wo_get {G : qG} {A : qH} {k : Nat} {e : qE} (h : A[k]? = some e) : (wo G A)[k]? = some (G.1 + k, cE G e) := by
  simp [wo, List.getElem?_mapIdx, h]
theorem wo_inv {G : qG} {A : qH} {k : Nat} {x : Nat × va_E} (h : (wo G A)[k]? = some x) : ∃ e, A[k]? = some e ∧ x = (G.1 + k, cE G e) := by
  simp only [wo, List.getElem?_mapIdx] at h
  cases hA : A[k]? with
  | none => rw [hA] at h; cases h
  | some e => rw [hA] at h; cases h; exact ⟨e, rfl, rfl⟩
theorem wo_set {G : qG} {A : qH} {k : Nat} {e : qE} : (wo G A).set k (G.1 + k, cE G e) = wo G (A.set k e) := by
  apply List.ext_getElem?
  intro i
  simp only [wo, List.getElem?_mapIdx, List.getElem?_set, List.length_mapIdx]
  by_cases h : k = i
  · subst h
    by_cases h2 : k < A.length <;> simp [h2]
  · simp [h]
theorem wo_app {G : qG} {A : qH} {e : qE} : wo G (A ++ [e]) = wo G A ++ [(G.1 + A.length, cE G e)] := by
  simp [wo, List.mapIdx_append]
theorem wo_D {G : qG} {A : qH} : va_D (fun q => G.1 ≤ q) (wo G A) := by
  refine ⟨fun i j p q hp hq h => ?_, fun k q hq => ?_⟩
  · obtain ⟨e, -, rfl⟩ := wo_inv hp
    obtain ⟨e', -, rfl⟩ := wo_inv hq
    exact Nat.add_left_cancel h
  · obtain ⟨e, -, rfl⟩ := wo_inv hq
    exact Nat.le_add_right _ _
def cs : qE → Nat
  | .inl (_, n, _) => n
  | .inr (_, fs) => fs.length
def sl (A : qH) : Nat := (A.map cs).sum
theorem sl_app {A : qH} {e : qE} : sl (A ++ [e]) = sl A + cs e := by simp [sl]
theorem sl_set {A : qH} {k : Nat} {e e' : qE} (h : A[k]? = some e) (hc : cs e' = cs e) : sl (A.set k e') = sl A := by
  unfold sl
  congr 1
  apply List.ext_getElem?
  intro i
  rw [List.getElem?_map, List.getElem?_map, List.getElem?_set]
  have hlt : k < A.length := (List.getElem?_eq_some_iff.mp h).1
  by_cases hk : k = i
  · subst hk
    rw [if_pos rfl, if_pos hlt, h]
    simp [hc]
  · simp [hk]
/-! ===== what of the tables is not a good word, but stays ===== -/
def qnw : List Cond := [.methodLinkNest RX9 23 yX4_init "SunRopes", .methodLinkNest RX9 30 yX8_init "SunRopes", .methodLinkNest RX9 37 yX1_init "SunRopes", .methodLinkNest RX9 44 yX2_init "SunRopes", .methodLinkNest RX9 55 yX3_init "SunRopes", .methodLinkNest RX3 11 yX1_init "SunRopes", .methodLinkNest RX6 40 yX1_init "SunRopes", .methodLinkNest RX9 69 yX0_init "SunRopes", .methodLinkNest RX0 11 yX1_init "SunRopes", .methodLinkNest RX9 95 yX5_init "SunRopes", .methodLinkNest RX9 96 yX7_init "SunRopes", .fieldLinkNest RX4 52 "SunRopes" "LETTERS" "[I" "SunRopes", .fieldLinkNest RX8 50 "SunRopes" "KIND_ABOVE" "[I" "SunRopes", .arrayOver (.object "SunRopes$Row"), .arrayOver (.object "SunRopes$Text"), .arrayOver (.object "SunRopes$Diary"), .arrayOver (.object "SunRopes$Day")]
theorem qnw_move {s U : State} (hW : s.WarmedH U.vm) (h : ∀ w ∈ qnw, va_Nw w s) : ∀ w ∈ qnw, va_Nw w U := by
  simp only [qnw, List.forall_mem_cons] at h ⊢
  obtain ⟨h1, h2, h3, h4, h5, h6, h7, h8, h9, h10, h11, h12, h13, h14, h15, h16, h17, -⟩ := h
  exact ⟨va_Nw.warmM hW h1, va_Nw.warmM hW h2, va_Nw.warmM hW h3, va_Nw.warmM hW h4, va_Nw.warmM hW h5, va_Nw.warmM hW h6, va_Nw.warmM hW h7, va_Nw.warmM hW h8, va_Nw.warmM hW h9, va_Nw.warmM hW h10, va_Nw.warmM hW h11, va_Nw.warmF hW h12, va_Nw.warmF hW h13, va_AO.moved hW.alike h14, va_AO.moved hW.alike h15, va_AO.moved hW.alike h16, va_AO.moved hW.alike h17, fun _ h => absurd h List.not_mem_nil⟩
def letZ (i : Nat) : Int := match i with
  | 0 => 99 | 1 => 104 | 2 => 115 | 3 => 110 | 4 => 108 | _ => 103
def abvZ (i : Nat) : Int := match i with
  | 0 => 0 | 1 => 0 | 2 => 0 | 3 => 0 | 4 => 3 | _ => 2
def roC (G : qG) (j : Nat) : Nat × (Nat → Int32) := match j with
  | 0 => G.2.2.1 0
  | 1 => (6, fun i => Int32.ofInt (letZ i))
  | _ => (6, fun i => Int32.ofInt (abvZ i))
/-! ===== what a state must have, what a heap must hold ===== -/
def qty (G : qG) : List (ClassId × FieldType) := [(G.2.2.2.2 0, .int), (G.2.2.2.2 1, .byte), (G.2.2.2.2 2, .object RX5), (G.2.2.2.2 3, .object RX7), (G.2.2.2.2 4, .object RX2), (G.2.2.2.2 5, .object RX1)]
def SR (G : qG) (s : State) : Prop :=
  va_K G.2.2.2.1 qcl (qty G) s ∧ (∀ j, j < 3 → va_X (G.2.1 j) (roC G j).1 (roC G j).2 s s.heap ∧ G.2.1 j < s.heap.size ∧ G.2.1 j < G.1) ∧ va_Z "SunRopes" "LETTERS" "[I" (.ref (G.2.1 1)) (fun q => G.1 ≤ q) s s.heap ∧ va_Z "SunRopes" "KIND_ABOVE" "[I" (.ref (G.2.1 2)) (fun q => G.1 ≤ q) s s.heap ∧ (∀ w ∈ qnw, va_Nw w s) ∧ G.1 ≤ s.heap.size
theorem SR.move {G : qG} {s U : State} (h : SR G s) (hW : s.WarmedH U.vm) (hz : s.heap.size ≤ U.heap.size) (hk : ∀ q, q < s.heap.size → ¬ G.1 ≤ q → U.heap[q]? = s.heap[q]?) : SR G U := by
  obtain ⟨h1, h2, h3, h4, h5, h6⟩ := h
  refine ⟨va_K.moved hW.alike h1, fun j hj => ?_, (h3.moved hW.alike).kept hk, (h4.moved hW.alike).kept hk, qnw_move hW h5, Nat.le_trans h6 hz⟩
  obtain ⟨⟨scr, g1, g2, g3, g4, g5⟩, g6, g7⟩ := h2 j hj
  exact ⟨⟨scr, by rw [hk _ g6 (Nat.not_le.mpr g7)]; exact g1, State.isArrayOf_alike hW.alike g2, g3, g4, g5⟩, Nat.lt_of_lt_of_le g6 hz, g7⟩
/-- the cells of both objects, when they are made -/
def qN : Nat := 94
def HR (G : qG) (A : qH) (H : Heap) : Prop := va_P G.2.2.2.1 qcl (wo G A) H ∧ (H.size = G.1 + A.length ∨ qN ≤ A.length)
def qL (G : qG) (ls : Array Slot) (nL : Nat) (L : List (Option Value)) : Prop := ls.size = nL ∧ lv_wf ls ∧ ∀ (i : Nat) (v : Value), L[i]? = some (some v) → ls[i]? = some (.val (cv G v))
def prs (G : qG) (L : List (Option Value)) : List (Nat × Value) := (List.range L.length).filterMap (fun i => (L[i]?).bind (fun o => o.map (fun v => (i, cv G v))))
theorem prs_in {G : qG} {L : List (Option Value)} {i : Nat} {v : Value} (h : L[i]? = some (some v)) : (i, cv G v) ∈ prs G L :=
  List.mem_filterMap.mpr ⟨i, List.mem_range.mpr (List.getElem?_eq_some_iff.mp h).1, by simp [h]⟩
theorem qL.has {G : qG} {ls : Array Slot} {nL : Nat} {L : List (Option Value)} (h : qL G ls nL L) : lv_has ls nL (prs G L) := by
  refine ⟨h.1, h.2.1, fun q hq => ?_⟩
  obtain ⟨i, -, hi⟩ := List.mem_filterMap.mp hq
  cases hL : L[i]? with
  | none => rw [hL] at hi; cases hi
  | some o =>
    rw [hL] at hi
    cases o with
    | none => cases hi
    | some v => cases hi; exact h.2.2 i v hL
def okS (L : List (Option Value)) (i : Nat) : Bool := match i with
  | 0 => true
  | j + 1 => match L[j]? with
    | some (some v) => v.category == 1
    | _ => true
theorem okS_spec {L : List (Option Value)} {i j : Nat} {v : Value} (h : okS L i = true) (hj : L[j]? = some (some v)) (e : j + 1 = i) : v.category = 1 := by
  subst e
  simp only [okS, hj] at h
  simpa using h
theorem qL.st1 {G : qG} {ls' : Array Slot} {nL i : Nat} {L : List (Option Value)} {a : Value} (ok : okS L i = true) (h : lv_has ls' nL ((i, cv G a) :: (prs G L).filter (fun q => !(q.1 == i) && !(q.1 + 1 == i && q.2.category == 2)))) : qL G ls' nL (L.set i (some a)) := by
  refine ⟨h.1, h.2.1, fun j w hj => ?_⟩
  rw [List.getElem?_set] at hj
  by_cases e : i = j
  · subst e
    rw [if_pos rfl] at hj
    split at hj
    · cases hj
      exact h.2.2 _ List.mem_cons_self
    · cases hj
  · rw [if_neg e] at hj
    refine h.2.2 (j, cv G w) (List.mem_cons_of_mem _ (List.mem_filter.mpr ⟨prs_in hj, ?_⟩))
    have e1 : (j == i) = false := by simp; exact fun q => e q.symm
    simp only [e1, Bool.not_false, Bool.true_and, Bool.not_eq_true', Bool.and_eq_false_iff]
    by_cases e2 : j + 1 = i
    · right
      have h2 := okS_spec ok hj e2
      rw [cv_cat, h2]; rfl
    · left
      simpa using e2
theorem qL.st2 {G : qG} {ls' : Array Slot} {nL i : Nat} {L : List (Option Value)} {a : Value} (ok : okS L i = true) (h : lv_has ls' nL ((i, cv G a) :: (prs G L).filter (fun q => !(q.1 == i) && (!(q.1 == i + 1) && !(q.1 + 1 == i && q.2.category == 2))))) : qL G ls' nL ((L.set i (some a)).set (i + 1) none) := by
  refine ⟨h.1, h.2.1, fun j w hj => ?_⟩
  rw [List.getElem?_set] at hj
  by_cases e0 : i + 1 = j
  · rw [if_pos e0] at hj
    split at hj
    · cases hj
    · cases hj
  rw [if_neg e0, List.getElem?_set] at hj
  by_cases e : i = j
  · subst e
    rw [if_pos rfl] at hj
    split at hj
    · cases hj
      exact h.2.2 _ List.mem_cons_self
    · cases hj
  · rw [if_neg e] at hj
    refine h.2.2 (j, cv G w) (List.mem_cons_of_mem _ (List.mem_filter.mpr ⟨prs_in hj, ?_⟩))
    have e1 : (j == i) = false := by simp; exact fun q => e q.symm
    have e3 : (j == i + 1) = false := by simp; exact fun q => e0 q.symm
    simp only [e1, e3, Bool.not_false, Bool.true_and, Bool.not_eq_true', Bool.and_eq_false_iff]
    by_cases e2 : j + 1 = i
    · right
      have h2 := okS_spec ok hj e2
      rw [cv_cat, h2]; rfl
    · left
      simpa using e2
/-! ===== the judgement ===== -/
def qF (G : qG) (y : MethodName) (cc : ByteArray) (mL d : Nat) (B : qH) (p : Program) (R : Room) (s : State) (m : MethodId) (args : Array Value) (meth : Method) (c : Code) (n0 s0 : Nat) : Prop :=
  p.tables.exec = Jvm.exec ∧ c.code = cc ∧ c.maxLocals = mL ∧ s.vm.findClass y.cls = some m.cls ∧ (∀ w ∈ qws, w.before args s = true) ∧ meth.name = y.name ∧ SR G s ∧ d ≤ R.frames ∧ 64 * d ≤ R.locals ∧ B.length ≤ n0 + R.cells ∧ sl B ≤ s0 + R.slots
def qRet (rt : Option FieldType) (i : Instr) (r : Option Value) : Prop :=
  (i = .ireturn ∧ ∃ (x : Int32) (ty : FieldType), r = some (.int x) ∧ rt = some ty ∧ narrow ty (.int x) = .int x) ∨ (i = .lreturn ∧ rt = some .long ∧ ∃ x, r = some (.long x)) ∨ (i = .return_ ∧ rt = none ∧ r = none)
def qK (l : Launch) (G : qG) (cc : ByteArray) (rt : Option FieldType) (r : Option Value) (B : qH) (p : Program) (e : Env) (R : Room) (s : State) (m : MethodId) (args : Array Value) (below : List Frame) (meth : Method) (c : Code) (Q : State → Prop) (n0 s0 : Nat) : Prop :=
  ∀ (H : Heap) (locs : List Loc) (cells slots pc : Nat) (ls : Array Slot) (i : Instr), decode cc pc = .ok (i, 1) → qRet rt i r → HR G B H → va_S (fun q => G.1 ≤ q) s.heap H locs → cells + n0 = B.length → slots + s0 = sl B → W p l e R s m args below meth c H locs cells slots Q (F0 m pc ls (r.toList.map (cv G)))
def qW (l : Launch) (G : qG) (y : MethodName) (cc : ByteArray) (mL : Nat) (rt : Option FieldType) (d : Nat) (r : Option Value) (B : qH) (pc : Nat) (L : List (Option Value)) (st : List Value) (A : qH) : Prop :=
  ∀ (p : Program) (e : Env) (R : Room) (s : State) (m : MethodId) (args : Array Value) (below : List Frame) (meth : Method) (c : Code) (Q : State → Prop) (n0 s0 : Nat) (H : Heap) (locs : List Loc) (cells slots : Nat) (ls : Array Slot),
    qF G y cc mL d B p R s m args meth c n0 s0 → HR G A H → va_S (fun q => G.1 ≤ q) s.heap H locs → qL G ls mL L → cells + n0 = A.length → slots + s0 = sl A → qK l G cc rt r B p e R s m args below meth c Q n0 s0 →
    W p l e R s m args below meth c H locs cells slots Q (F0 m pc ls (st.map (cv G)))
def qJ (l : Launch) (G : qG) (y : MethodName) (cc : ByteArray) (mL : Nat) (rt : Option FieldType) (d : Nat) (pc : Nat) (L : List (Option Value)) (st : List Value) (A : qH) (F : Option (Option Value × qH)) : Prop :=
  ∀ (r : Option Value) (B : qH), F = some (r, B) → A.length ≤ B.length ∧ sl A ≤ sl B ∧ qW l G y cc mL rt d r B pc L st A
section QJ
variable {l : Launch} {G : qG} {y : MethodName} {cc : ByteArray} {mL d : Nat} {rt : Option FieldType} {pc pc' : Nat} {L L' : List (Option Value)} {st st' : List Value} {A A' : qH} {F : Option (Option Value × qH)}
theorem qJ_none : qJ l G y cc mL rt d pc L st A none := fun _ _ h => by cases h
/-- the heap and the locals stay -/
theorem qJ_st (k : qJ l G y cc mL rt d pc' L st' A F) (h : ∀ (p : Program) (e : Env) (R : Room) (s : State) (m : MethodId) (args : Array Value) (below : List Frame) (meth : Method) (c : Code) (Q : State → Prop) (n0 s0 : Nat) (H : Heap) (locs : List Loc) (cells slots : Nat) (ls : Array Slot) (B : qH),
      qF G y cc mL d B p R s m args meth c n0 s0 → HR G A H → va_S (fun q => G.1 ≤ q) s.heap H locs → qL G ls mL L → cells ≤ R.cells → slots ≤ R.slots → W p l e R s m args below meth c H locs cells slots Q (F0 m pc' ls (st'.map (cv G))) → W p l e R s m args below meth c H locs cells slots Q (F0 m pc ls (st.map (cv G)))) : qJ l G y cc mL rt d pc L st A F := by
  intro r B hF
  obtain ⟨h1, h2, k⟩ := k r B hF
  refine ⟨h1, h2, fun p e R s m args below meth c Q n0 s0 H locs cells slots ls hFr hH hS hl hc hs hK => ?_⟩
  have a1 := hFr.2.2.2.2.2.2.2.2.2.1
  have a2 := hFr.2.2.2.2.2.2.2.2.2.2
  exact h p e R s m args below meth c Q n0 s0 H locs cells slots ls B hFr hH hS hl (by omega) (by omega) (k p e R s m args below meth c Q n0 s0 H locs cells slots ls hFr hH hS hl hc hs hK)
/-- the heap stays, the locals change -/
theorem qJ_sl (k : qJ l G y cc mL rt d pc' L' st' A F) (h : ∀ (p : Program) (e : Env) (R : Room) (s : State) (m : MethodId) (args : Array Value) (below : List Frame) (meth : Method) (c : Code) (Q : State → Prop) (H : Heap) (locs : List Loc) (cells slots : Nat) (ls : Array Slot),
      p.tables.exec = Jvm.exec → c.code = cc → qL G ls mL L → (∀ ls' : Array Slot, qL G ls' mL L' → W p l e R s m args below meth c H locs cells slots Q (F0 m pc' ls' (st'.map (cv G)))) → W p l e R s m args below meth c H locs cells slots Q (F0 m pc ls (st.map (cv G)))) : qJ l G y cc mL rt d pc L st A F := by
  intro r B hF
  obtain ⟨h1, h2, k⟩ := k r B hF
  refine ⟨h1, h2, fun p e R s m args below meth c Q n0 s0 H locs cells slots ls hFr hH hS hl hc hs hK => ?_⟩
  exact h p e R s m args below meth c Q H locs cells slots ls hFr.1 hFr.2.1 hl (fun ls' hl' => k p e R s m args below meth c Q n0 s0 H locs cells slots ls' hFr hH hS hl' hc hs hK)
/-- the locals stay, a cell changes -/
theorem qJ_sh (hn : A'.length = A.length) (hz : sl A' = sl A) (k : qJ l G y cc mL rt d pc' L st' A' F) (h : ∀ (p : Program) (e : Env) (R : Room) (s : State) (m : MethodId) (args : Array Value) (below : List Frame) (meth : Method) (c : Code) (Q : State → Prop) (n0 s0 : Nat) (H : Heap) (locs : List Loc) (cells slots : Nat) (ls : Array Slot) (B : qH),
      qF G y cc mL d B p R s m args meth c n0 s0 → HR G A H → va_S (fun q => G.1 ≤ q) s.heap H locs → qL G ls mL L → (∀ (H1 : Heap) (locs1 : List Loc), va_P G.2.2.2.1 qcl (wo G A') H1 → (H1.size = H.size ∨ qN ≤ A.length) → va_S (fun q => G.1 ≤ q) s.heap H1 locs1 → W p l e R s m args below meth c H1 locs1 cells slots Q (F0 m pc' ls (st'.map (cv G)))) → W p l e R s m args below meth c H locs cells slots Q (F0 m pc ls (st.map (cv G)))) : qJ l G y cc mL rt d pc L st A F := by
  intro r B hF
  obtain ⟨h1, h2, k⟩ := k r B hF
  refine ⟨by rw [← hn]; exact h1, by rw [← hz]; exact h2, fun p e R s m args below meth c Q n0 s0 H locs cells slots ls hFr hH hS hl hc hs hK => ?_⟩
  exact h p e R s m args below meth c Q n0 s0 H locs cells slots ls B hFr hH hS hl (fun H1 locs1 hP hsz hS1 => k p e R s m args below meth c Q n0 s0 H1 locs1 cells slots ls hFr ⟨hP, by rw [hn]; exact hsz.elim (fun z => by rw [z]; exact hH.2) Or.inr⟩ hS1 hl (by rw [hn]; exact hc) (by rw [hz]; exact hs) hK)
/-- a cell comes -/
theorem qJ_sn {x : qE} (hq : A.length < qN) (k : qJ l G y cc mL rt d pc' L st' (A ++ [x]) F) (h : ∀ (p : Program) (e : Env) (R : Room) (s : State) (m : MethodId) (args : Array Value) (below : List Frame) (meth : Method) (c : Code) (Q : State → Prop) (n0 s0 : Nat) (H : Heap) (locs : List Loc) (cells slots : Nat) (ls : Array Slot) (B : qH),
      qF G y cc mL d B p R s m args meth c n0 s0 → HR G A H → va_S (fun q => G.1 ≤ q) s.heap H locs → qL G ls mL L → H.size = G.1 + A.length → cells + 1 ≤ R.cells → slots + cs x ≤ R.slots → (∀ (H1 : Heap), va_at G.2.2.2.1 qcl (G.1 + A.length, cE G x) H1 → H1.size = H.size + 1 → (∀ q, q < H.size → H1[q]? = H[q]?) → W p l e R s m args below meth c H1 locs (cells + 1) (slots + cs x) Q (F0 m pc' ls (st'.map (cv G)))) → W p l e R s m args below meth c H locs cells slots Q (F0 m pc ls (st.map (cv G)))) : qJ l G y cc mL rt d pc L st A F := by
  intro r B hF
  obtain ⟨h1, h2, k⟩ := k r B hF
  rw [List.length_append, List.length_singleton] at h1
  rw [sl_app] at h2
  refine ⟨by omega, by omega, fun p e R s m args below meth c Q n0 s0 H locs cells slots ls hFr hH hS hl hc hs hK => ?_⟩
  have a1 := hFr.2.2.2.2.2.2.2.2.2.1
  have a2 := hFr.2.2.2.2.2.2.2.2.2.2
  have hsz : H.size = G.1 + A.length := by
    rcases hH.2 with g | g
    · exact g
    · exact absurd g (Nat.not_le.mpr hq)
  refine h p e R s m args below meth c Q n0 s0 H locs cells slots ls B hFr hH hS hl hsz (by omega) (by omega) (fun H1 hx hz hk => ?_)
  refine k p e R s m args below meth c Q n0 s0 H1 locs (cells + 1) (slots + cs x) ls hFr ⟨?_, Or.inl (by rw [hz, hsz, List.length_append, List.length_singleton, Nat.add_assoc])⟩ ⟨Nat.le_trans hS.1 (by omega), fun q g1 g2 => (hk q (Nat.lt_of_lt_of_le g1 hS.1)).trans (hS.2.1 q g1 g2), hS.2.2⟩ hl (by rw [List.length_append, List.length_singleton]; omega) (by rw [sl_app]; omega) hK
  rw [wo_app]
  refine (hH.1.kept (fun k q hq => hk q.1 ((hH.1 k q hq).lt))).app (fun k q hq => ?_)
  have hz : k < 1 := (List.getElem?_eq_some_iff.mp hq).1
  rw [show k = 0 by omega] at hq
  cases hq
  exact hx
end QJ
end
section
/-! ===== ints as Ints ===== -/
def iI (z : Int) : Int32 := Int32.ofInt z
def iL (z : Int) : Int64 := Int64.ofInt z
def w32 (z : Int) : Int := (iI z).toInt
def w64 (z : Int) : Int := (iL z).toInt
theorem iI_w (x : Int32) : iI x.toInt = x := Int32.ofInt_toInt x
theorem iL_w (x : Int64) : iL x.toInt = x := Int64.ofInt_toInt x
theorem iI_add (a b : Int) : iI (a + b) = iI a + iI b := Int32.ofInt_add a b
theorem iI_sub (a b : Int) : iI (a - b) = iI a - iI b := Int32.ofInt_sub a b
theorem iI_mul (a b : Int) : iI (a * b) = iI a * iI b := Int32.ofInt_mul a b
theorem iI_neg (a : Int) : iI (-a) = -iI a := Int32.ofInt_neg a
theorem iL_add (a b : Int) : iL (a + b) = iL a + iL b := Int64.ofInt_add a b
theorem iL_mul (a b : Int) : iL (a * b) = iL a * iL b := Int64.ofInt_mul a b
theorem iI_lt {a b : Int} : iI a < iI b ↔ w32 a < w32 b := Int32.lt_iff_toInt_lt
theorem iI_le {a b : Int} : iI a ≤ iI b ↔ w32 a ≤ w32 b := Int32.le_iff_toInt_le
theorem iI_eq {a b : Int} : iI a = iI b ↔ w32 a = w32 b := Int32.toInt_inj.symm
theorem iI_0 : iI 0 = 0 := rfl
theorem w32_0 : w32 0 = 0 := by decide +kernel
theorem iI_eq0 {a : Int} : iI a = 0 ↔ w32 a = 0 := by rw [← iI_0, iI_eq, w32_0]
theorem iI_lt0 {a : Int} : iI a < 0 ↔ w32 a < 0 := by rw [← iI_0, iI_lt, w32_0]
theorem iI_0le {a : Int} : 0 ≤ iI a ↔ 0 ≤ w32 a := by rw [← iI_0, iI_le, w32_0]
theorem iI_0lt {a : Int} : 0 < iI a ↔ 0 < w32 a := by rw [← iI_0, iI_lt, w32_0]
theorem iI_le0 {a : Int} : iI a ≤ 0 ↔ w32 a ≤ 0 := by rw [← iI_0, iI_le, w32_0]
def zand (a b : Int) : Int := (iI a &&& iI b).toInt
def zor (a b : Int) : Int := (iI a ||| iI b).toInt
def zxor (a b : Int) : Int := (iI a ^^^ iI b).toInt
def zshl (a b : Int) : Int := (iI a <<< (iI b &&& 31)).toInt
def zshr (a b : Int) : Int := (iI a >>> (iI b &&& 31)).toInt
def zushr (a b : Int) : Int := ((iI a).toUInt32 >>> ((iI b).toUInt32 &&& Int32.toUInt32 31)).toInt32.toInt
def zdiv (a b : Int) : Int := (iI a / iI b).toInt
def zrem (a b : Int) : Int := (iI a - iI a / iI b * iI b).toInt
def zi2b (a : Int) : Int := (iI a).toInt8.toInt32.toInt
def ydiv (a b : Int) : Int := (iL a / iL b).toInt
def yrem (a b : Int) : Int := (iL a - iL a / iL b * iL b).toInt
def yand (a b : Int) : Int := (iL a &&& iL b).toInt
def yshl (a b : Int) : Int := (iL a <<< ((iI b).toInt64 &&& 63)).toInt
def ycmp (a b : Int) : Int := if w64 b < w64 a then 1 else if w64 a = w64 b then 0 else -1
def zmax (a b : Int) : Int := if w32 a < w32 b then b else a
def zmin (a b : Int) : Int := if w32 b < w32 a then b else a
theorem iL_i2l (a : Int) : (iI a).toInt64 = iL (w32 a) := by
  apply Int64.toInt_inj.mp
  unfold iL w32
  rw [Int32.toInt_toInt64, Int64.toInt_ofInt_of_le]
  · have := (iI a).le_toInt; omega
  · have := (iI a).toInt_lt; omega
theorem iI_l2i (a : Int) : (iL a).toInt32 = iI a := Int64.toInt32_ofInt
theorem iI_cmp (a b : Int) : lg_cmp (iL a) (iL b) = iI (ycmp a b) := by
  unfold lg_cmp ycmp
  have h1 : (iL b < iL a) ↔ w64 b < w64 a := Int64.lt_iff_toInt_lt
  have h2 : (iL a = iL b) ↔ w64 a = w64 b := Int64.toInt_inj.symm
  by_cases c1 : w64 b < w64 a
  · simp [h1, c1]; rfl
  · by_cases c2 : w64 a = w64 b
    · simp [h1, h2, c2]; rfl
    · simp [h1, h2, c1, c2]; rfl
theorem iI_max (a b : Int) : (if iI a < iI b then iI b else iI a) = iI (zmax a b) := by
  unfold zmax
  by_cases c : w32 a < w32 b
  · rw [if_pos (iI_lt.mpr c), if_pos c]
  · rw [if_neg (fun h => c (iI_lt.mp h)), if_neg c]
theorem iI_min (a b : Int) : (if iI b < iI a then iI b else iI a) = iI (zmin a b) := by
  unfold zmin
  by_cases c : w32 b < w32 a
  · rw [if_pos (iI_lt.mpr c), if_pos c]
  · rw [if_neg (fun h => c (iI_lt.mp h)), if_neg c]
theorem iI_b {n : Int} (h1 : -128 ≤ n) (h2 : n < 128) : (Int8.ofInt n).toInt32 = iI n := by
  have e : Int8.maxValue.toInt = 127 := by decide
  have e2 : Int8.minValue.toInt = -128 := by decide
  exact Int8.toInt32_ofInt (by omega) (by omega)
theorem iI_s {n : Int} (h1 : -32768 ≤ n) (h2 : n < 32768) : (Int16.ofInt n).toInt32 = iI n := by
  have e : Int16.maxValue.toInt = 32767 := by decide
  have e2 : Int16.minValue.toInt = -32768 := by decide
  exact Int16.toInt32_ofInt (by omega) (by omega)
theorem vpin_w {a : Int} {n : Nat} : vp_in (iI a) n ↔ 0 ≤ w32 a ∧ w32 a < n := vp_in_iff
theorem clamp_w (a : Int) : (iI a).toNatClampNeg = (w32 a).toNat := rfl
end
section
section JR
variable {l : Launch} {G : qG} {y : MethodName} {cc : ByteArray} {mL d : Nat} {rt : Option FieldType} {pc : Nat} {L L' : List (Option Value)} {st : List Value} {A : qH} {F F1 F2 : Option (Option Value × qH)}
theorem J_iconst {n : Int} (hd : decode cc pc = .ok (.iconst n, 1)) (kk : qJ l G y cc mL rt d (pc + 1) L (.int (iI n) :: st) A F) : qJ l G y cc mL rt d pc L st A F :=
  qJ_st kk (fun _ _ _ _ _ _ _ _ _ _ _ _ _ _ _ _ _ _ hF hH hS hl hc hs k => lv_iconst hF.1 hF.2.1 hd rfl k)
theorem J_bipush {n : Int} (hd : decode cc pc = .ok (.bipush n, 2)) (h1 : -128 ≤ n) (h2 : n < 128) (kk : qJ l G y cc mL rt d (pc + 2) L (.int (iI n) :: st) A F) : qJ l G y cc mL rt d pc L st A F :=
  qJ_st kk (fun _ _ _ _ _ _ _ _ _ _ _ _ _ _ _ _ _ _ hF hH hS hl hc hs k => lv_bipush hF.1 hF.2.1 hd (iI_b h1 h2) k)
theorem J_sipush {n : Int} (hd : decode cc pc = .ok (.sipush n, 3)) (h1 : -32768 ≤ n) (h2 : n < 32768) (kk : qJ l G y cc mL rt d (pc + 3) L (.int (iI n) :: st) A F) : qJ l G y cc mL rt d pc L st A F :=
  qJ_st kk (fun _ _ _ _ _ _ _ _ _ _ _ _ _ _ _ _ _ _ hF hH hS hl hc hs k => lv_sipush hF.1 hF.2.1 hd (iI_s h1 h2) k)
theorem J_lconst {n : Fin 2} {z : Int} (hd : decode cc pc = .ok (.lconst n, 1)) (hz : Int64.ofNat (n : Nat) = iL z) (kk : qJ l G y cc mL rt d (pc + 1) L (.long (iL z) :: st) A F) : qJ l G y cc mL rt d pc L st A F :=
  qJ_st kk (fun _ _ _ _ _ _ _ _ _ _ _ _ _ _ _ _ _ _ hF hH hS hl hc hs k => lv_lconst hF.1 hF.2.1 hd hz k)
theorem J_ldc {i : Nat} {v : Int32} {z : Int} (hd : decode cc pc = .ok (.ldc i, 2)) (hw : Cond.constant y.cls i v ∈ qws) (hz : v = iI z) (kk : qJ l G y cc mL rt d (pc + 2) L (.int (iI z) :: st) A F) : qJ l G y cc mL rt d pc L st A F :=
  qJ_st kk (fun _ _ _ _ _ _ _ _ _ _ _ _ _ _ _ _ _ _ hF hH hS hl hc hs k => lv_ldc hF.1 hF.2.1 hF.2.2.2.1 (hF.2.2.2.2.1 _ hw) hd (by rw [← hz] at k; exact k))
theorem J_ldcw {i : Nat} {v : Int32} {z : Int} (hd : decode cc pc = .ok (.ldc_w i, 3)) (hw : Cond.constant y.cls i v ∈ qws) (hz : v = iI z) (kk : qJ l G y cc mL rt d (pc + 3) L (.int (iI z) :: st) A F) : qJ l G y cc mL rt d pc L st A F :=
  qJ_st kk (fun _ _ _ _ _ _ _ _ _ _ _ _ _ _ _ _ _ _ hF hH hS hl hc hs k => lv_ldcw hF.1 hF.2.1 hF.2.2.2.1 (hF.2.2.2.2.1 _ hw) hd (by rw [← hz] at k; exact k))
theorem J_ldc2 {i : Nat} {v : Int64} {z : Int} (hd : decode cc pc = .ok (.ldc2_w i, 3)) (hw : Cond.constantLong y.cls i v ∈ qws) (hz : v = iL z) (kk : qJ l G y cc mL rt d (pc + 3) L (.long (iL z) :: st) A F) : qJ l G y cc mL rt d pc L st A F :=
  qJ_st kk (fun _ _ _ _ _ _ _ _ _ _ _ _ _ _ _ _ _ _ hF hH hS hl hc hs k => lv_ldc2 hF.1 hF.2.1 hF.2.2.2.1 (hF.2.2.2.2.1 _ hw) hd (by rw [← hz] at k; exact k))
theorem J_iload_n {n : Fin 4} {i : Nat} {z : Int} (hd : decode cc pc = .ok (.iload_n n, 1)) (hi : (n : Nat) = i) (hL : L[i]? = some (some (.int (iI z)))) (kk : qJ l G y cc mL rt d (pc + 1) L (.int (iI z) :: st) A F) : qJ l G y cc mL rt d pc L st A F :=
  qJ_st kk (fun _ _ _ _ _ _ _ _ _ _ _ _ _ _ _ _ _ _ hF hH hS hl hc hs k => lv_iload_n hF.1 hF.2.1 hd hi (hl.2.2 i _ hL) k)
theorem J_iload {i : Nat} {z : Int} (hd : decode cc pc = .ok (.iload i, 2)) (hL : L[i]? = some (some (.int (iI z)))) (kk : qJ l G y cc mL rt d (pc + 2) L (.int (iI z) :: st) A F) : qJ l G y cc mL rt d pc L st A F :=
  qJ_st kk (fun _ _ _ _ _ _ _ _ _ _ _ _ _ _ _ _ _ _ hF hH hS hl hc hs k => lv_iload hF.1 hF.2.1 hd (hl.2.2 i _ hL) k)
theorem J_lload_n {n : Fin 4} {i : Nat} {z : Int} (hd : decode cc pc = .ok (.lload_n n, 1)) (hi : (n : Nat) = i) (hL : L[i]? = some (some (.long (iL z)))) (kk : qJ l G y cc mL rt d (pc + 1) L (.long (iL z) :: st) A F) : qJ l G y cc mL rt d pc L st A F :=
  qJ_st kk (fun _ _ _ _ _ _ _ _ _ _ _ _ _ _ _ _ _ _ hF hH hS hl hc hs k => lv_lload_n hF.1 hF.2.1 hd hi (hl.2.2 i _ hL) k)
theorem J_lload {i : Nat} {z : Int} (hd : decode cc pc = .ok (.lload i, 2)) (hL : L[i]? = some (some (.long (iL z)))) (kk : qJ l G y cc mL rt d (pc + 2) L (.long (iL z) :: st) A F) : qJ l G y cc mL rt d pc L st A F :=
  qJ_st kk (fun _ _ _ _ _ _ _ _ _ _ _ _ _ _ _ _ _ _ hF hH hS hl hc hs k => lv_lload hF.1 hF.2.1 hd (hl.2.2 i _ hL) k)
theorem J_aload_n {n : Fin 4} {i : Nat} {v : Value} {x : Nat} (hd : decode cc pc = .ok (.aload_n n, 1)) (hi : (n : Nat) = i) (hL : L[i]? = some (some v)) (hv : cv G v = .ref x) (kk : qJ l G y cc mL rt d (pc + 1) L (v :: st) A F) : qJ l G y cc mL rt d pc L st A F :=
  qJ_st kk (fun _ _ _ _ _ _ _ _ _ _ _ _ _ _ _ _ _ _ hF hH hS hl hc hs k => lv_aload_n hF.1 hF.2.1 hd hi (by rw [hl.2.2 i _ hL, hv]) (by rw [List.map_cons, hv] at k; exact k))
theorem J_aload {i : Nat} {v : Value} {x : Nat} (hd : decode cc pc = .ok (.aload i, 2)) (hL : L[i]? = some (some v)) (hv : cv G v = .ref x) (kk : qJ l G y cc mL rt d (pc + 2) L (v :: st) A F) : qJ l G y cc mL rt d pc L st A F :=
  qJ_st kk (fun _ _ _ _ _ _ _ _ _ _ _ _ _ _ _ _ _ _ hF hH hS hl hc hs k => lv_aload hF.1 hF.2.1 hd (by rw [hl.2.2 i _ hL, hv]) (by rw [List.map_cons, hv] at k; exact k))
theorem J_iadd {a b : Int} (hd : decode cc pc = .ok (.iadd, 1)) (kk : qJ l G y cc mL rt d (pc + 1) L (.int (iI (a + b)) :: st) A F) : qJ l G y cc mL rt d pc L (.int (iI b) :: .int (iI a) :: st) A F :=
  qJ_st kk (fun _ _ _ _ _ _ _ _ _ _ _ _ _ _ _ _ _ _ hF hH hS hl hc hs k => lv_iadd hF.1 hF.2.1 hd (by rw [← iI_add]; exact k))
theorem J_isub {a b : Int} (hd : decode cc pc = .ok (.isub, 1)) (kk : qJ l G y cc mL rt d (pc + 1) L (.int (iI (a - b)) :: st) A F) : qJ l G y cc mL rt d pc L (.int (iI b) :: .int (iI a) :: st) A F :=
  qJ_st kk (fun _ _ _ _ _ _ _ _ _ _ _ _ _ _ _ _ _ _ hF hH hS hl hc hs k => lv_isub hF.1 hF.2.1 hd (by rw [← iI_sub]; exact k))
theorem J_imul {a b : Int} (hd : decode cc pc = .ok (.imul, 1)) (kk : qJ l G y cc mL rt d (pc + 1) L (.int (iI (a * b)) :: st) A F) : qJ l G y cc mL rt d pc L (.int (iI b) :: .int (iI a) :: st) A F :=
  qJ_st kk (fun _ _ _ _ _ _ _ _ _ _ _ _ _ _ _ _ _ _ hF hH hS hl hc hs k => lv_imul hF.1 hF.2.1 hd (by rw [← iI_mul]; exact k))
theorem J_iand {a b : Int} (hd : decode cc pc = .ok (.iand, 1)) (kk : qJ l G y cc mL rt d (pc + 1) L (.int (iI (zand a b)) :: st) A F) : qJ l G y cc mL rt d pc L (.int (iI b) :: .int (iI a) :: st) A F :=
  qJ_st kk (fun _ _ _ _ _ _ _ _ _ _ _ _ _ _ _ _ _ _ hF hH hS hl hc hs k => lv_iand hF.1 hF.2.1 hd (by unfold zand at k; rw [iI_w] at k; exact k))
theorem J_ior {a b : Int} (hd : decode cc pc = .ok (.ior, 1)) (kk : qJ l G y cc mL rt d (pc + 1) L (.int (iI (zor a b)) :: st) A F) : qJ l G y cc mL rt d pc L (.int (iI b) :: .int (iI a) :: st) A F :=
  qJ_st kk (fun _ _ _ _ _ _ _ _ _ _ _ _ _ _ _ _ _ _ hF hH hS hl hc hs k => lv_ior hF.1 hF.2.1 hd (by unfold zor at k; rw [iI_w] at k; exact k))
theorem J_ixor {a b : Int} (hd : decode cc pc = .ok (.ixor, 1)) (kk : qJ l G y cc mL rt d (pc + 1) L (.int (iI (zxor a b)) :: st) A F) : qJ l G y cc mL rt d pc L (.int (iI b) :: .int (iI a) :: st) A F :=
  qJ_st kk (fun _ _ _ _ _ _ _ _ _ _ _ _ _ _ _ _ _ _ hF hH hS hl hc hs k => lv_ixor hF.1 hF.2.1 hd (by unfold zxor at k; rw [iI_w] at k; exact k))
theorem J_ishl {a b : Int} (hd : decode cc pc = .ok (.ishl, 1)) (kk : qJ l G y cc mL rt d (pc + 1) L (.int (iI (zshl a b)) :: st) A F) : qJ l G y cc mL rt d pc L (.int (iI b) :: .int (iI a) :: st) A F :=
  qJ_st kk (fun _ _ _ _ _ _ _ _ _ _ _ _ _ _ _ _ _ _ hF hH hS hl hc hs k => lv_ishl hF.1 hF.2.1 hd (by unfold zshl at k; rw [iI_w] at k; exact k))
theorem J_ishr {a b : Int} (hd : decode cc pc = .ok (.ishr, 1)) (kk : qJ l G y cc mL rt d (pc + 1) L (.int (iI (zshr a b)) :: st) A F) : qJ l G y cc mL rt d pc L (.int (iI b) :: .int (iI a) :: st) A F :=
  qJ_st kk (fun _ _ _ _ _ _ _ _ _ _ _ _ _ _ _ _ _ _ hF hH hS hl hc hs k => lv_ishr hF.1 hF.2.1 hd (by unfold zshr at k; rw [iI_w] at k; exact k))
theorem J_iushr {a b : Int} (hd : decode cc pc = .ok (.iushr, 1)) (kk : qJ l G y cc mL rt d (pc + 1) L (.int (iI (zushr a b)) :: st) A F) : qJ l G y cc mL rt d pc L (.int (iI b) :: .int (iI a) :: st) A F :=
  qJ_st kk (fun _ _ _ _ _ _ _ _ _ _ _ _ _ _ _ _ _ _ hF hH hS hl hc hs k => lv_iushr hF.1 hF.2.1 hd (iI_w _).symm k)
theorem J_ineg {a : Int} (hd : decode cc pc = .ok (.ineg, 1)) (kk : qJ l G y cc mL rt d (pc + 1) L (.int (iI (-a)) :: st) A F) : qJ l G y cc mL rt d pc L (.int (iI a) :: st) A F :=
  qJ_st kk (fun _ _ _ _ _ _ _ _ _ _ _ _ _ _ _ _ _ _ hF hH hS hl hc hs k => lv_ineg hF.1 hF.2.1 hd (by rw [← iI_neg]; exact k))
theorem J_ladd {a b : Int} (hd : decode cc pc = .ok (.ladd, 1)) (kk : qJ l G y cc mL rt d (pc + 1) L (.long (iL (a + b)) :: st) A F) : qJ l G y cc mL rt d pc L (.long (iL b) :: .long (iL a) :: st) A F :=
  qJ_st kk (fun _ _ _ _ _ _ _ _ _ _ _ _ _ _ _ _ _ _ hF hH hS hl hc hs k => lv_ladd hF.1 hF.2.1 hd (by rw [← iL_add]; exact k))
theorem J_lmul {a b : Int} (hd : decode cc pc = .ok (.lmul, 1)) (kk : qJ l G y cc mL rt d (pc + 1) L (.long (iL (a * b)) :: st) A F) : qJ l G y cc mL rt d pc L (.long (iL b) :: .long (iL a) :: st) A F :=
  qJ_st kk (fun _ _ _ _ _ _ _ _ _ _ _ _ _ _ _ _ _ _ hF hH hS hl hc hs k => lv_lmul hF.1 hF.2.1 hd (by rw [← iL_mul]; exact k))
theorem J_land {a b : Int} (hd : decode cc pc = .ok (.land, 1)) (kk : qJ l G y cc mL rt d (pc + 1) L (.long (iL (yand a b)) :: st) A F) : qJ l G y cc mL rt d pc L (.long (iL b) :: .long (iL a) :: st) A F :=
  qJ_st kk (fun _ _ _ _ _ _ _ _ _ _ _ _ _ _ _ _ _ _ hF hH hS hl hc hs k => lv_land hF.1 hF.2.1 hd (by unfold yand at k; rw [iL_w] at k; exact k))
theorem J_lshl {a b : Int} (hd : decode cc pc = .ok (.lshl, 1)) (kk : qJ l G y cc mL rt d (pc + 1) L (.long (iL (yshl a b)) :: st) A F) : qJ l G y cc mL rt d pc L (.int (iI b) :: .long (iL a) :: st) A F :=
  qJ_st kk (fun _ _ _ _ _ _ _ _ _ _ _ _ _ _ _ _ _ _ hF hH hS hl hc hs k => lv_lshl hF.1 hF.2.1 hd (iL_w _).symm k)
theorem J_i2l {a : Int} (hd : decode cc pc = .ok (.i2l, 1)) (kk : qJ l G y cc mL rt d (pc + 1) L (.long (iL (w32 a)) :: st) A F) : qJ l G y cc mL rt d pc L (.int (iI a) :: st) A F :=
  qJ_st kk (fun _ _ _ _ _ _ _ _ _ _ _ _ _ _ _ _ _ _ hF hH hS hl hc hs k => lv_i2l hF.1 hF.2.1 hd (iL_i2l a) k)
theorem J_l2i {a : Int} (hd : decode cc pc = .ok (.l2i, 1)) (kk : qJ l G y cc mL rt d (pc + 1) L (.int (iI a) :: st) A F) : qJ l G y cc mL rt d pc L (.long (iL a) :: st) A F :=
  qJ_st kk (fun _ _ _ _ _ _ _ _ _ _ _ _ _ _ _ _ _ _ hF hH hS hl hc hs k => lv_l2i hF.1 hF.2.1 hd (iI_l2i a) k)
theorem J_i2b {a : Int} (hd : decode cc pc = .ok (.i2b, 1)) (kk : qJ l G y cc mL rt d (pc + 1) L (.int (iI (zi2b a)) :: st) A F) : qJ l G y cc mL rt d pc L (.int (iI a) :: st) A F :=
  qJ_st kk (fun _ _ _ _ _ _ _ _ _ _ _ _ _ _ _ _ _ _ hF hH hS hl hc hs k => lv_i2b hF.1 hF.2.1 hd (iI_w _).symm k)
theorem J_lcmp {a b : Int} (hd : decode cc pc = .ok (.lcmp, 1)) (kk : qJ l G y cc mL rt d (pc + 1) L (.int (iI (ycmp a b)) :: st) A F) : qJ l G y cc mL rt d pc L (.long (iL b) :: .long (iL a) :: st) A F :=
  qJ_st kk (fun _ _ _ _ _ _ _ _ _ _ _ _ _ _ _ _ _ _ hF hH hS hl hc hs k => W.lcmp hF.1 hF.2.1 hd (by rw [iI_cmp]; exact k))
theorem J_dup {v : Value} (hd : decode cc pc = .ok (.dup, 1)) (hv : v.category = 1) (kk : qJ l G y cc mL rt d (pc + 1) L (v :: v :: st) A F) : qJ l G y cc mL rt d pc L (v :: st) A F :=
  qJ_st kk (fun _ _ _ _ _ _ _ _ _ _ _ _ _ _ _ _ _ _ hF hH hS hl hc hs k => lv_dup hF.1 hF.2.1 hd (by rw [cv_cat]; exact hv) k)
theorem J_pop {v : Value} (hd : decode cc pc = .ok (.pop, 1)) (hv : v.category = 1) (kk : qJ l G y cc mL rt d (pc + 1) L st A F) : qJ l G y cc mL rt d pc L (v :: st) A F :=
  qJ_st kk (fun _ _ _ _ _ _ _ _ _ _ _ _ _ _ _ _ _ _ hF hH hS hl hc hs k => lv_pop hF.1 hF.2.1 hd (by rw [cv_cat]; exact hv) k)
theorem J_dup2 {v u : Value} (hd : decode cc pc = .ok (.dup2, 1)) (hv : v.category = 1) (hu : u.category = 1) (kk : qJ l G y cc mL rt d (pc + 1) L (v :: u :: v :: u :: st) A F) : qJ l G y cc mL rt d pc L (v :: u :: st) A F :=
  qJ_st kk (fun _ _ _ _ _ _ _ _ _ _ _ _ _ _ _ _ _ _ hF hH hS hl hc hs k => lv_dup2_11 hF.1 hF.2.1 hd (by rw [cv_cat]; exact hv) (by rw [cv_cat]; exact hu) k)
theorem J_dup2L {z : Int} (hd : decode cc pc = .ok (.dup2, 1)) (kk : qJ l G y cc mL rt d (pc + 1) L (.long (iL z) :: .long (iL z) :: st) A F) : qJ l G y cc mL rt d pc L (.long (iL z) :: st) A F :=
  qJ_st kk (fun _ _ _ _ _ _ _ _ _ _ _ _ _ _ _ _ _ _ hF hH hS hl hc hs k => lv_dup2_2 hF.1 hF.2.1 hd rfl k)
theorem J_idiv {a b : Int} (hd : decode cc pc = .ok (.idiv, 1)) (kk : qJ l G y cc mL rt d (pc + 1) L (.int (iI (zdiv a b)) :: st) A F) : qJ l G y cc mL rt d pc L (.int (iI b) :: .int (iI a) :: st) A (if w32 b = 0 then none else F) := by
  by_cases h : w32 b = 0
  · rw [if_pos h]; exact qJ_none
  · rw [if_neg h]
    exact qJ_st kk (fun _ _ _ _ _ _ _ _ _ _ _ _ _ _ _ _ _ _ hF hH hS hl hc hs k => lv_idiv hF.1 hF.2.1 hd (fun e => h (by unfold w32; rw [e]; rfl)) (by unfold zdiv at k; rw [iI_w] at k; exact k))
theorem J_irem {a b : Int} (hd : decode cc pc = .ok (.irem, 1)) (kk : qJ l G y cc mL rt d (pc + 1) L (.int (iI (zrem a b)) :: st) A F) : qJ l G y cc mL rt d pc L (.int (iI b) :: .int (iI a) :: st) A (if w32 b = 0 then none else F) := by
  by_cases h : w32 b = 0
  · rw [if_pos h]; exact qJ_none
  · rw [if_neg h]
    exact qJ_st kk (fun _ _ _ _ _ _ _ _ _ _ _ _ _ _ _ _ _ _ hF hH hS hl hc hs k => lv_irem hF.1 hF.2.1 hd (fun e => h (by unfold w32; rw [e]; rfl)) (by unfold zrem at k; rw [iI_w] at k; exact k))
theorem J_ldiv {a b : Int} (hd : decode cc pc = .ok (.ldiv, 1)) (kk : qJ l G y cc mL rt d (pc + 1) L (.long (iL (ydiv a b)) :: st) A F) : qJ l G y cc mL rt d pc L (.long (iL b) :: .long (iL a) :: st) A (if w64 b = 0 then none else F) := by
  by_cases h : w64 b = 0
  · rw [if_pos h]; exact qJ_none
  · rw [if_neg h]
    exact qJ_st kk (fun _ _ _ _ _ _ _ _ _ _ _ _ _ _ _ _ _ _ hF hH hS hl hc hs k => lv_ldiv hF.1 hF.2.1 hd (fun e => h (by unfold w64; rw [e]; rfl)) (by unfold ydiv at k; rw [iL_w] at k; exact k))
theorem J_lrem {a b : Int} (hd : decode cc pc = .ok (.lrem, 1)) (kk : qJ l G y cc mL rt d (pc + 1) L (.long (iL (yrem a b)) :: st) A F) : qJ l G y cc mL rt d pc L (.long (iL b) :: .long (iL a) :: st) A (if w64 b = 0 then none else F) := by
  by_cases h : w64 b = 0
  · rw [if_pos h]; exact qJ_none
  · rw [if_neg h]
    exact qJ_st kk (fun _ _ _ _ _ _ _ _ _ _ _ _ _ _ _ _ _ _ hF hH hS hl hc hs k => lv_lrem hF.1 hF.2.1 hd (fun e => h (by unfold w64; rw [e]; rfl)) (by unfold yrem at k; rw [iL_w] at k; exact k))
theorem J_icmp_eq {a b : Int} {off : Int} {tgt : Nat} (hd : decode cc pc = .ok (.if_icmp .eq off, 3)) (ht : (pc : Int) + off = (tgt : Int)) (kt : w32 a = w32 b → qJ l G y cc mL rt d tgt L st A F1) (kf : ¬ w32 a = w32 b → qJ l G y cc mL rt d (pc + 3) L st A F2) : qJ l G y cc mL rt d pc L (.int (iI b) :: .int (iI a) :: st) A (if w32 a = w32 b then F1 else F2) := by
  by_cases h : w32 a = w32 b
  · rw [if_pos h]; exact qJ_st (kt h) (fun _ _ _ _ _ _ _ _ _ _ _ _ _ _ _ _ _ _ hF hH hS hl hc hs k => lv_icmp_eq hF.1 hF.2.1 hd ht (fun _ => k) (fun q => absurd (iI_eq.mpr h) q))
  · rw [if_neg h]; exact qJ_st (kf h) (fun _ _ _ _ _ _ _ _ _ _ _ _ _ _ _ _ _ _ hF hH hS hl hc hs k => lv_icmp_eq hF.1 hF.2.1 hd ht (fun q => absurd q (fun z => h (iI_eq.mp z))) (fun _ => k))
theorem J_icmp_ne {a b : Int} {off : Int} {tgt : Nat} (hd : decode cc pc = .ok (.if_icmp .ne off, 3)) (ht : (pc : Int) + off = (tgt : Int)) (kt : ¬ w32 a = w32 b → qJ l G y cc mL rt d tgt L st A F2) (kf : w32 a = w32 b → qJ l G y cc mL rt d (pc + 3) L st A F1) : qJ l G y cc mL rt d pc L (.int (iI b) :: .int (iI a) :: st) A (if w32 a = w32 b then F1 else F2) := by
  by_cases h : w32 a = w32 b
  · rw [if_pos h]; exact qJ_st (kf h) (fun _ _ _ _ _ _ _ _ _ _ _ _ _ _ _ _ _ _ hF hH hS hl hc hs k => lv_icmp_ne hF.1 hF.2.1 hd ht (fun q => absurd q (fun z => z (iI_eq.mpr h))) (fun _ => k))
  · rw [if_neg h]; exact qJ_st (kt h) (fun _ _ _ _ _ _ _ _ _ _ _ _ _ _ _ _ _ _ hF hH hS hl hc hs k => lv_icmp_ne hF.1 hF.2.1 hd ht (fun _ => k) (fun q => absurd q (fun z => h (iI_eq.mp z))))
theorem J_icmp_lt {a b : Int} {off : Int} {tgt : Nat} (hd : decode cc pc = .ok (.if_icmp .lt off, 3)) (ht : (pc : Int) + off = (tgt : Int)) (kt : w32 a < w32 b → qJ l G y cc mL rt d tgt L st A F1) (kf : ¬ w32 a < w32 b → qJ l G y cc mL rt d (pc + 3) L st A F2) : qJ l G y cc mL rt d pc L (.int (iI b) :: .int (iI a) :: st) A (if w32 a < w32 b then F1 else F2) := by
  by_cases h : w32 a < w32 b
  · rw [if_pos h]; exact qJ_st (kt h) (fun _ _ _ _ _ _ _ _ _ _ _ _ _ _ _ _ _ _ hF hH hS hl hc hs k => lv_icmp_lt hF.1 hF.2.1 hd ht (fun _ => k) (fun q => absurd (iI_lt.mpr h) q))
  · rw [if_neg h]; exact qJ_st (kf h) (fun _ _ _ _ _ _ _ _ _ _ _ _ _ _ _ _ _ _ hF hH hS hl hc hs k => lv_icmp_lt hF.1 hF.2.1 hd ht (fun q => absurd q (fun z => h (iI_lt.mp z))) (fun _ => k))
theorem J_icmp_ge {a b : Int} {off : Int} {tgt : Nat} (hd : decode cc pc = .ok (.if_icmp .ge off, 3)) (ht : (pc : Int) + off = (tgt : Int)) (kt : ¬ w32 a < w32 b → qJ l G y cc mL rt d tgt L st A F2) (kf : w32 a < w32 b → qJ l G y cc mL rt d (pc + 3) L st A F1) : qJ l G y cc mL rt d pc L (.int (iI b) :: .int (iI a) :: st) A (if w32 a < w32 b then F1 else F2) := by
  by_cases h : w32 a < w32 b
  · rw [if_pos h]; exact qJ_st (kf h) (fun _ _ _ _ _ _ _ _ _ _ _ _ _ _ _ _ _ _ hF hH hS hl hc hs k => lv_icmp_ge hF.1 hF.2.1 hd ht (fun q => absurd q (fun z => Int32.not_le.mpr (iI_lt.mpr h) z)) (fun _ => k))
  · rw [if_neg h]; exact qJ_st (kt h) (fun _ _ _ _ _ _ _ _ _ _ _ _ _ _ _ _ _ _ hF hH hS hl hc hs k => lv_icmp_ge hF.1 hF.2.1 hd ht (fun _ => k) (fun q => absurd (Int32.not_lt.mp (fun z => h (iI_lt.mp z))) q))
theorem J_icmp_gt {a b : Int} {off : Int} {tgt : Nat} (hd : decode cc pc = .ok (.if_icmp .gt off, 3)) (ht : (pc : Int) + off = (tgt : Int)) (kt : w32 b < w32 a → qJ l G y cc mL rt d tgt L st A F1) (kf : ¬ w32 b < w32 a → qJ l G y cc mL rt d (pc + 3) L st A F2) : qJ l G y cc mL rt d pc L (.int (iI b) :: .int (iI a) :: st) A (if w32 b < w32 a then F1 else F2) := by
  by_cases h : w32 b < w32 a
  · rw [if_pos h]; exact qJ_st (kt h) (fun _ _ _ _ _ _ _ _ _ _ _ _ _ _ _ _ _ _ hF hH hS hl hc hs k => lv_icmp_gt hF.1 hF.2.1 hd ht (fun _ => k) (fun q => absurd (iI_lt.mpr h) q))
  · rw [if_neg h]; exact qJ_st (kf h) (fun _ _ _ _ _ _ _ _ _ _ _ _ _ _ _ _ _ _ hF hH hS hl hc hs k => lv_icmp_gt hF.1 hF.2.1 hd ht (fun q => absurd q (fun z => h (iI_lt.mp z))) (fun _ => k))
theorem J_icmp_le {a b : Int} {off : Int} {tgt : Nat} (hd : decode cc pc = .ok (.if_icmp .le off, 3)) (ht : (pc : Int) + off = (tgt : Int)) (kt : ¬ w32 b < w32 a → qJ l G y cc mL rt d tgt L st A F2) (kf : w32 b < w32 a → qJ l G y cc mL rt d (pc + 3) L st A F1) : qJ l G y cc mL rt d pc L (.int (iI b) :: .int (iI a) :: st) A (if w32 b < w32 a then F1 else F2) := by
  by_cases h : w32 b < w32 a
  · rw [if_pos h]; exact qJ_st (kf h) (fun _ _ _ _ _ _ _ _ _ _ _ _ _ _ _ _ _ _ hF hH hS hl hc hs k => lv_icmp_le hF.1 hF.2.1 hd ht (fun q => absurd q (fun z => Int32.not_le.mpr (iI_lt.mpr h) z)) (fun _ => k))
  · rw [if_neg h]; exact qJ_st (kt h) (fun _ _ _ _ _ _ _ _ _ _ _ _ _ _ _ _ _ _ hF hH hS hl hc hs k => lv_icmp_le hF.1 hF.2.1 hd ht (fun _ => k) (fun q => absurd (Int32.not_lt.mp (fun z => h (iI_lt.mp z))) q))
theorem J_if_eq {a : Int} {off : Int} {tgt : Nat} (hd : decode cc pc = .ok (.ifCond .eq off, 3)) (ht : (pc : Int) + off = (tgt : Int)) (kt : w32 a = 0 → qJ l G y cc mL rt d tgt L st A F1) (kf : ¬ w32 a = 0 → qJ l G y cc mL rt d (pc + 3) L st A F2) : qJ l G y cc mL rt d pc L (.int (iI a) :: st) A (if w32 a = 0 then F1 else F2) := by
  by_cases h : w32 a = 0
  · rw [if_pos h]; exact qJ_st (kt h) (fun _ _ _ _ _ _ _ _ _ _ _ _ _ _ _ _ _ _ hF hH hS hl hc hs k => lv_if_eq hF.1 hF.2.1 hd ht (fun _ => k) (fun q => absurd (iI_eq0.mpr h) q))
  · rw [if_neg h]; exact qJ_st (kf h) (fun _ _ _ _ _ _ _ _ _ _ _ _ _ _ _ _ _ _ hF hH hS hl hc hs k => lv_if_eq hF.1 hF.2.1 hd ht (fun q => absurd q (fun z => h (iI_eq0.mp z))) (fun _ => k))
theorem J_if_ne {a : Int} {off : Int} {tgt : Nat} (hd : decode cc pc = .ok (.ifCond .ne off, 3)) (ht : (pc : Int) + off = (tgt : Int)) (kt : ¬ w32 a = 0 → qJ l G y cc mL rt d tgt L st A F2) (kf : w32 a = 0 → qJ l G y cc mL rt d (pc + 3) L st A F1) : qJ l G y cc mL rt d pc L (.int (iI a) :: st) A (if w32 a = 0 then F1 else F2) := by
  by_cases h : w32 a = 0
  · rw [if_pos h]; exact qJ_st (kf h) (fun _ _ _ _ _ _ _ _ _ _ _ _ _ _ _ _ _ _ hF hH hS hl hc hs k => lv_if_ne hF.1 hF.2.1 hd ht (fun q => absurd q (fun z => z (iI_eq0.mpr h))) (fun _ => k))
  · rw [if_neg h]; exact qJ_st (kt h) (fun _ _ _ _ _ _ _ _ _ _ _ _ _ _ _ _ _ _ hF hH hS hl hc hs k => lv_if_ne hF.1 hF.2.1 hd ht (fun _ => k) (fun q => absurd q (fun z => h (iI_eq0.mp z))))
theorem J_if_lt {a : Int} {off : Int} {tgt : Nat} (hd : decode cc pc = .ok (.ifCond .lt off, 3)) (ht : (pc : Int) + off = (tgt : Int)) (kt : w32 a < 0 → qJ l G y cc mL rt d tgt L st A F1) (kf : ¬ w32 a < 0 → qJ l G y cc mL rt d (pc + 3) L st A F2) : qJ l G y cc mL rt d pc L (.int (iI a) :: st) A (if w32 a < 0 then F1 else F2) := by
  by_cases h : w32 a < 0
  · rw [if_pos h]; exact qJ_st (kt h) (fun _ _ _ _ _ _ _ _ _ _ _ _ _ _ _ _ _ _ hF hH hS hl hc hs k => lv_if_lt hF.1 hF.2.1 hd ht (fun _ => k) (fun q => absurd (iI_lt0.mpr h) q))
  · rw [if_neg h]; exact qJ_st (kf h) (fun _ _ _ _ _ _ _ _ _ _ _ _ _ _ _ _ _ _ hF hH hS hl hc hs k => lv_if_lt hF.1 hF.2.1 hd ht (fun q => absurd q (fun z => h (iI_lt0.mp z))) (fun _ => k))
theorem J_if_ge {a : Int} {off : Int} {tgt : Nat} (hd : decode cc pc = .ok (.ifCond .ge off, 3)) (ht : (pc : Int) + off = (tgt : Int)) (kt : ¬ w32 a < 0 → qJ l G y cc mL rt d tgt L st A F2) (kf : w32 a < 0 → qJ l G y cc mL rt d (pc + 3) L st A F1) : qJ l G y cc mL rt d pc L (.int (iI a) :: st) A (if w32 a < 0 then F1 else F2) := by
  by_cases h : w32 a < 0
  · rw [if_pos h]; exact qJ_st (kf h) (fun _ _ _ _ _ _ _ _ _ _ _ _ _ _ _ _ _ _ hF hH hS hl hc hs k => lv_if_ge hF.1 hF.2.1 hd ht (fun q => absurd q (fun z => Int32.not_le.mpr (iI_lt0.mpr h) z)) (fun _ => k))
  · rw [if_neg h]; exact qJ_st (kt h) (fun _ _ _ _ _ _ _ _ _ _ _ _ _ _ _ _ _ _ hF hH hS hl hc hs k => lv_if_ge hF.1 hF.2.1 hd ht (fun _ => k) (fun q => absurd (Int32.not_lt.mp (fun z => h (iI_lt0.mp z))) q))
theorem J_if_gt {a : Int} {off : Int} {tgt : Nat} (hd : decode cc pc = .ok (.ifCond .gt off, 3)) (ht : (pc : Int) + off = (tgt : Int)) (kt : 0 < w32 a → qJ l G y cc mL rt d tgt L st A F1) (kf : ¬ 0 < w32 a → qJ l G y cc mL rt d (pc + 3) L st A F2) : qJ l G y cc mL rt d pc L (.int (iI a) :: st) A (if 0 < w32 a then F1 else F2) := by
  by_cases h : 0 < w32 a
  · rw [if_pos h]; exact qJ_st (kt h) (fun _ _ _ _ _ _ _ _ _ _ _ _ _ _ _ _ _ _ hF hH hS hl hc hs k => lv_if_gt hF.1 hF.2.1 hd ht (fun _ => k) (fun q => absurd (iI_0lt.mpr h) q))
  · rw [if_neg h]; exact qJ_st (kf h) (fun _ _ _ _ _ _ _ _ _ _ _ _ _ _ _ _ _ _ hF hH hS hl hc hs k => lv_if_gt hF.1 hF.2.1 hd ht (fun q => absurd q (fun z => h (iI_0lt.mp z))) (fun _ => k))
theorem J_if_le {a : Int} {off : Int} {tgt : Nat} (hd : decode cc pc = .ok (.ifCond .le off, 3)) (ht : (pc : Int) + off = (tgt : Int)) (kt : ¬ 0 < w32 a → qJ l G y cc mL rt d tgt L st A F2) (kf : 0 < w32 a → qJ l G y cc mL rt d (pc + 3) L st A F1) : qJ l G y cc mL rt d pc L (.int (iI a) :: st) A (if 0 < w32 a then F1 else F2) := by
  by_cases h : 0 < w32 a
  · rw [if_pos h]; exact qJ_st (kf h) (fun _ _ _ _ _ _ _ _ _ _ _ _ _ _ _ _ _ _ hF hH hS hl hc hs k => lv_if_le hF.1 hF.2.1 hd ht (fun q => absurd q (fun z => Int32.not_le.mpr (iI_0lt.mpr h) z)) (fun _ => k))
  · rw [if_neg h]; exact qJ_st (kt h) (fun _ _ _ _ _ _ _ _ _ _ _ _ _ _ _ _ _ _ hF hH hS hl hc hs k => lv_if_le hF.1 hF.2.1 hd ht (fun _ => k) (fun q => absurd (Int32.not_lt.mp (fun z => h (iI_0lt.mp z))) q))
theorem J_goto {off : Int} {tgt : Nat} (hd : decode cc pc = .ok (.goto off, 3)) (ht : (pc : Int) + off = (tgt : Int)) (kk : qJ l G y cc mL rt d tgt L st A F) : qJ l G y cc mL rt d pc L st A F :=
  qJ_st kk (fun _ _ _ _ _ _ _ _ _ _ _ _ _ _ _ _ _ _ hF hH hS hl hc hs k => lv_goto hF.1 hF.2.1 hd ht k)
theorem J_swIn {a : Int} {dflt lo hi : Int} {offs : Array Int} {len : Nat} {off : Int} {tgt : Nat} {j : Int} (hd : decode cc pc = .ok (.tableswitch dflt lo hi offs, len)) (ha : w32 a = j) (h1 : lo ≤ j) (h2 : j ≤ hi) (ho : offs[(j - lo).toNat]? = some off) (ht : (pc : Int) + off = (tgt : Int)) (kk : qJ l G y cc mL rt d tgt L st A F) : qJ l G y cc mL rt d pc L (.int (iI a) :: st) A F :=
  qJ_st kk (fun _ _ _ _ _ _ _ _ _ _ _ _ _ _ _ _ _ _ hF hH hS hl hc hs k => lv_tableIn hF.1 hF.2.1 hd (by show ¬ w32 a < lo; omega) (by show ¬ hi < w32 a; omega) (by show offs[(w32 a - lo).toNat]? = _; rw [ha]; exact ho) ht k)
theorem J_swOut {a : Int} {dflt lo hi : Int} {offs : Array Int} {len : Nat} {tgt : Nat} (hd : decode cc pc = .ok (.tableswitch dflt lo hi offs, len)) (ha : w32 a < lo ∨ hi < w32 a) (ht : (pc : Int) + dflt = (tgt : Int)) (kk : qJ l G y cc mL rt d tgt L st A F) : qJ l G y cc mL rt d pc L (.int (iI a) :: st) A F :=
  qJ_st kk (fun _ _ _ _ _ _ _ _ _ _ _ _ _ _ _ _ _ _ hF hH hS hl hc hs k => lv_tableOut hF.1 hF.2.1 hd ha ht k)
theorem J_istore_n {n : Fin 4} {i : Nat} {z : Int} (hd : decode cc pc = .ok (.istore_n n, 1)) (hi : (n : Nat) = i) (hn : i < mL) (ok : okS L i = true) (hL : L.set i (some (Value.int (iI z))) = L') (kk : qJ l G y cc mL rt d (pc + 1) L' st A F) : qJ l G y cc mL rt d pc L (Value.int (iI z) :: st) A F := by
  subst hL
  exact qJ_sl kk (fun _ _ _ _ _ _ _ _ _ _ _ _ _ _ _ hx hb hl k => lv_istore_n hx hb hd hi hl.has hn rfl (fun ls' h => k ls' (qL.st1 (a := (Value.int (iI z))) ok h)))
theorem J_istore {i : Nat} {z : Int} (hd : decode cc pc = .ok (.istore i, 2)) (hn : i < mL) (ok : okS L i = true) (hL : L.set i (some (Value.int (iI z))) = L') (kk : qJ l G y cc mL rt d (pc + 2) L' st A F) : qJ l G y cc mL rt d pc L (Value.int (iI z) :: st) A F := by
  subst hL
  exact qJ_sl kk (fun _ _ _ _ _ _ _ _ _ _ _ _ _ _ _ hx hb hl k => lv_istore hx hb hd hl.has hn rfl (fun ls' h => k ls' (qL.st1 (a := (Value.int (iI z))) ok h)))
theorem J_lstore_n {n : Fin 4} {i : Nat} {z : Int} (hd : decode cc pc = .ok (.lstore_n n, 1)) (hi : (n : Nat) = i) (hn : i + 1 < mL) (ok : okS L i = true) (hL : (L.set i (some (Value.long (iL z)))).set (i + 1) none = L') (kk : qJ l G y cc mL rt d (pc + 1) L' st A F) : qJ l G y cc mL rt d pc L (Value.long (iL z) :: st) A F := by
  subst hL
  exact qJ_sl kk (fun _ _ _ _ _ _ _ _ _ _ _ _ _ _ _ hx hb hl k => lv_lstore_n hx hb hd hi hl.has hn rfl (fun ls' h => k ls' (qL.st2 (a := (Value.long (iL z))) ok h)))
theorem J_lstore {i : Nat} {z : Int} (hd : decode cc pc = .ok (.lstore i, 2)) (hn : i + 1 < mL) (ok : okS L i = true) (hL : (L.set i (some (Value.long (iL z)))).set (i + 1) none = L') (kk : qJ l G y cc mL rt d (pc + 2) L' st A F) : qJ l G y cc mL rt d pc L (Value.long (iL z) :: st) A F := by
  subst hL
  exact qJ_sl kk (fun _ _ _ _ _ _ _ _ _ _ _ _ _ _ _ hx hb hl k => lv_lstore hx hb hd hl.has hn rfl (fun ls' h => k ls' (qL.st2 (a := (Value.long (iL z))) ok h)))
theorem J_astore_n {n : Fin 4} {i k : Nat} (hd : decode cc pc = .ok (.astore_n n, 1)) (hi : (n : Nat) = i) (hn : i < mL) (ok : okS L i = true) (hL : L.set i (some (.ref k)) = L') (kk : qJ l G y cc mL rt d (pc + 1) L' st A F) : qJ l G y cc mL rt d pc L (.ref k :: st) A F := by
  subst hL
  exact qJ_sl kk (fun _ _ _ _ _ _ _ _ _ _ _ _ _ _ _ hx hb hl k9 => lv_astore_n hx hb hd hi hl.has hn rfl (fun ls' h => k9 ls' (qL.st1 (a := .ref k) ok h)))
theorem J_astore {i k : Nat} (hd : decode cc pc = .ok (.astore i, 2)) (hn : i < mL) (ok : okS L i = true) (hL : L.set i (some (.ref k)) = L') (kk : qJ l G y cc mL rt d (pc + 2) L' st A F) : qJ l G y cc mL rt d pc L (.ref k :: st) A F := by
  subst hL
  exact qJ_sl kk (fun _ _ _ _ _ _ _ _ _ _ _ _ _ _ _ hx hb hl k9 => lv_astore hx hb hd hl.has hn rfl (fun ls' h => k9 ls' (qL.st1 (a := .ref k) ok h)))
theorem J_iinc {i : Nat} {n z : Int} (hd : decode cc pc = .ok (.iinc i n, 3)) (hv : L[i]? = some (some (.int (iI z)))) (hn : i < mL) (ok : okS L i = true) (hL : L.set i (some (.int (iI (z + n)))) = L') (kk : qJ l G y cc mL rt d (pc + 3) L' st A F) : qJ l G y cc mL rt d pc L st A F := by
  subst hL
  refine qJ_sl kk (fun _ _ _ _ _ _ _ _ _ _ _ _ _ _ _ hx hb hl k => ?_)
  obtain ⟨q, hq⟩ := List.getElem?_of_mem (prs_in (G := G) hv)
  exact lv_iinc hx hb hd hl.has hq (iI_add z n).symm hn rfl (fun ls' h => k ls' (qL.st1 (a := .int (iI (z + n))) ok h))
theorem J_drop (hL : ∀ (i : Nat) (v : Value), L'[i]? = some (some v) → L[i]? = some (some v)) (kk : qJ l G y cc mL rt d pc L' st A F) : qJ l G y cc mL rt d pc L st A F :=
  fun r B hF => by
    obtain ⟨h1, h2, k⟩ := kk r B hF
    exact ⟨h1, h2, fun p e R s m args below meth c Q n0 s0 H locs cells slots ls hFr hH hS hl hc hs hK => k p e R s m args below meth c Q n0 s0 H locs cells slots ls hFr hH hS ⟨hl.1, hl.2.1, fun i v h => hl.2.2 i v (hL i v h)⟩ hc hs hK⟩
theorem J_ret {r : Option Value} {i : Instr} (hd : decode cc pc = .ok (i, 1)) (hr : qRet rt i r) (hst : st = r.toList) : qJ l G y cc mL rt d pc L st A (some (r, A)) := by
  intro r' B h
  cases h
  subst hst
  exact ⟨Nat.le_refl _, Nat.le_refl _, fun p e R s m args below meth c Q n0 s0 H locs cells slots ls hFr hH hS hl hc hs hK => hK H locs cells slots pc ls i hd hr hH hS hc hs⟩
end JR
end
section
section JH
variable {l : Launch} {G : qG} {y : MethodName} {cc : ByteArray} {mL d : Nat} {rt : Option FieldType} {pc : Nat} {L L' : List (Option Value)} {st : List Value} {A : qH} {F : Option (Option Value × qH)}
theorem J_getfield {ci k N idx j : Nat} {C : String} {T : u_T} {fs : List Value} {v : Value} (hc : qcl[ci]? = some (C, T, N)) (hin : ∀ w ∈ u_ws C T N, w ∈ qws) (hk : k < N) (hw : Cond.fieldLink y.cls idx (T k).1 (T k).2.1 (T k).2.2.1 ∈ qws) (hd : decode cc pc = .ok (.getfield idx, 3)) (hA : A[j]? = some (.inr (ci, fs))) (hv : fs[k]? = some v)
    (kk : qJ l G y cc mL rt d (pc + 3) L (v :: st) A F) : qJ l G y cc mL rt d pc L (.ref j :: st) A F :=
  qJ_st kk (fun _ _ _ _ _ _ _ _ _ _ _ _ _ _ _ _ _ _ hF hH hS hl _ _ k9 => va_get hF.1 hF.2.1 hF.2.2.2.2.1 hin hF.2.2.2.1 hF.2.2.2.2.2.2.1.1 hH.1 j (wo_get hA) hc k hk (hF.2.2.2.2.1 _ hw) (fun _ h => h) (v := cv G v) (by rw [List.getElem?_map, hv]; rfl) hd k9)
theorem J_put_aux {ci k N j : Nat} {fs : List Value} {v : Value} {H H1 : Heap} {D : va_G} {C : String} {T : u_T} (hP : va_P D qcl (wo G A) H) (hA : A[j]? = some (.inr (ci, fs))) (hc : qcl[ci]? = some (C, T, N)) (hl : k < fs.length) (h1 : t_OB (G.1 + j) (D.1 ci) N (D.2 ci) H1 (updV (vp_V (fs.map (cv G))) k (cv G v))) (oq : ∀ q, q ≠ G.1 + j → H1[q]? = H[q]?) : va_P D qcl (wo G (A.set j (.inr (ci, fs.set k v)))) H1 := by
  rw [← wo_set]
  refine hP.set wo_D (wo_get hA) ⟨_, hc, ?_⟩ oq
  refine t_OB.to h1 (fun q _ => ?_)
  show _ = vp_V ((fs.set k v).map (cv G)) q
  rw [vp_updV_set (by rw [List.length_map]; exact hl), List.map_set]
theorem J_putfield {ci k N idx j : Nat} {C : String} {T : u_T} {fs : List Value} {v : Value} (hc : qcl[ci]? = some (C, T, N)) (hin : ∀ w ∈ u_ws C T N, w ∈ qws) (hk : k < N) (hw : Cond.fieldLink y.cls idx (T k).1 (T k).2.1 (T k).2.2.1 ∈ qws) (ty0 : Nat → FieldType) (hty : ∀ k, k < N → parseFieldDescriptor (T k).2.2.1 = some (ty0 k)) (hnm : ∀ a, a < N → ∀ b, b < N → a ≠ b → (T a).2.1 ≠ (T b).2.1) (hfin : (T k).2.2.2 = false)
    (hd : decode cc pc = .ok (.putfield idx, 3)) (hA : A[j]? = some (.inr (ci, fs))) (hl : k < fs.length) (hn : narrow (ty0 k) (cv G v) = cv G v) (hfit : fits (ty0 k) (cv G v) = true)
    (kk : qJ l G y cc mL rt d (pc + 3) L st (A.set j (.inr (ci, fs.set k v))) F) : qJ l G y cc mL rt d pc L (v :: .ref j :: st) A F := by
  refine qJ_sh (List.length_set ..) (sl_set hA (by simp [cs])) kk (fun p e R s m args below meth c Q n0 s0 H locs cells slots ls B hF hH hS hl9 k9 => ?_)
  have hts := hF.2.2.2.2.1
  have hK := hF.2.2.2.2.2.2.1.1
  have hap := va_apart (own := y.cls) hts hin ty0 hty hnm hK hc
  obtain ⟨r, h1, cell, q1, q2, q3, q4⟩ := hH.1 j _ (wo_get hA)
  have hr : r = (C, T, N) := Option.some.inj (h1.symm.trans hc)
  subst hr
  obtain ⟨hSl, hfc, kC, hkC, hkind⟩ := hK.1 ci _ hc
  obtain ⟨cf, kf, fi, f, hi, hsl⟩ := hSl k hk
  have hlay := hts _ (hin _ (u_in_lay hk))
  unfold u_lay at hlay
  rw [if_neg (by rw [hfin]; decide)] at hlay
  have hst := (u_facts hfc hkC (u_lays hts hin hk) hi).1
  have h6 := u_store hfc hkC hkind hlay hi (hty k hk) hn hfit
  refine W.putK hF.1 hF.2.1 (f := f) ⟨hF.2.2.2.1, hts _ hw, ⟨_, _, _, hi⟩, hst⟩ (by rw [q2]; exact h6) q1 q3 (by rw [hsl]; exact k2_hasslot (q4 k hk)) rfl rfl hd fun H' e1 e2 e3 => ?_
  rw [hsl] at e1 ⊢
  exact k9 H' _ (J_put_aux hH.1 hA hc hl ⟨_, e1, q2, q3, t_set q4 hap hk _⟩ e3) (Or.inl e2) (hS.put e2 e3 (Nat.le_add_right _ _))
theorem J_putfinal {ci k N idx j : Nat} {C : String} {T : u_T} {fs : List Value} {v : Value} (hc : qcl[ci]? = some (C, T, N)) (hin : ∀ w ∈ u_ws C T N, w ∈ qws) (hk : k < N) (hw : Cond.fieldLink y.cls idx (T k).1 (T k).2.1 (T k).2.2.1 ∈ qws) (ty0 : Nat → FieldType) (hty : ∀ k, k < N → parseFieldDescriptor (T k).2.2.1 = some (ty0 k)) (hnm : ∀ a, a < N → ∀ b, b < N → a ≠ b → (T a).2.1 ≠ (T b).2.1) (hfin : (T k).2.2.2 = true) (hyn : y.name = "<init>") (hdecl : (T k).1 = y.cls)
    (hd : decode cc pc = .ok (.putfield idx, 3)) (hA : A[j]? = some (.inr (ci, fs))) (hl : k < fs.length) (hn : narrow (ty0 k) (cv G v) = cv G v) (hfit : fits (ty0 k) (cv G v) = true)
    (kk : qJ l G y cc mL rt d (pc + 3) L st (A.set j (.inr (ci, fs.set k v))) F) : qJ l G y cc mL rt d pc L (v :: .ref j :: st) A F := by
  refine qJ_sh (List.length_set ..) (sl_set hA (by simp [cs])) kk (fun p e R s m args below meth c Q n0 s0 H locs cells slots ls B hF hH hS hl9 k9 => ?_)
  have hts := hF.2.2.2.2.1
  have hK := hF.2.2.2.2.2.2.1.1
  have hap := va_apart (own := y.cls) hts hin ty0 hty hnm hK hc
  obtain ⟨r, h1, cell, q1, q2, q3, q4⟩ := hH.1 j _ (wo_get hA)
  have hr : r = (C, T, N) := Option.some.inj (h1.symm.trans hc)
  subst hr
  obtain ⟨hSl, hfc, kC, hkC, hkind⟩ := hK.1 ci _ hc
  obtain ⟨cf, kf, fi, f, hi, hsl⟩ := hSl k hk
  have hlay := hts _ (hin _ (u_in_lay hk))
  unfold u_lay at hlay
  rw [if_pos hfin] at hlay
  have hst := (u_facts hfc hkC (u_lays hts hin hk) hi).1
  have hcf : m.cls = cf := by
    obtain ⟨_, _, c', _, _, _, -, -, hf', -, -, -, hown2, -⟩ := Cond.laysFinal_spec hlay
    have e1 : c' = cf := by have := hi.symm.trans hf'; simp at this; exact this.1.symm
    rw [hdecl] at hown2
    rw [← e1]; exact Option.some.inj (hF.2.2.2.1.symm.trans hown2)
  have h6 := u_fits hfc hkC hkind (Or.inr hlay) hi (hty k hk) hn hfit
  refine W.putFinK hF.1 hF.2.1 hF.2.2.2.1 (hts _ hw) hi hst hcf (hF.2.2.2.2.2.1.trans hyn) (by rw [q2]; exact h6) q1 q3 (by rw [hsl]; exact k2_hasslot (q4 k hk)) rfl rfl hd fun H' e1 e2 e3 => ?_
  rw [hsl] at e1 ⊢
  exact k9 H' _ (J_put_aux hH.1 hA hc hl ⟨_, e1, q2, q3, t_set q4 hap hk _⟩ e3) (Or.inl e2) (hS.put e2 e3 (Nat.le_add_right _ _))
theorem J_iaload {j n : Nat} {f : Nat → Int32} {a z : Int} (hd : decode cc pc = .ok (.iaload, 1)) (hA : A[j]? = some (.inl (0, n, .inl f))) (hin : 0 ≤ w32 a ∧ w32 a < n) (hz : f (w32 a).toNat = iI z)
    (kk : qJ l G y cc mL rt d (pc + 1) L (.int (iI z) :: st) A F) : qJ l G y cc mL rt d pc L (.int (iI a) :: .ref j :: st) A F :=
  qJ_st kk (fun _ _ _ _ _ _ _ _ _ _ _ _ _ _ _ _ _ _ hF hH hS hl _ _ k9 => va_iald hF.1 hF.2.1 hF.2.2.2.2.2.2.1.1 hH.1 j 0 (wo_get hA) rfl (vpin_w.mpr hin) hd (by rw [clamp_w, hz]; exact k9))
theorem J_baload {j n : Nat} {f : Nat → Int32} {a z : Int} (hd : decode cc pc = .ok (.baload, 1)) (hA : A[j]? = some (.inl (1, n, .inl f))) (hin : 0 ≤ w32 a ∧ w32 a < n) (hz : f (w32 a).toNat = iI z)
    (kk : qJ l G y cc mL rt d (pc + 1) L (.int (iI z) :: st) A F) : qJ l G y cc mL rt d pc L (.int (iI a) :: .ref j :: st) A F :=
  qJ_st kk (fun _ _ _ _ _ _ _ _ _ _ _ _ _ _ _ _ _ _ hF hH hS hl _ _ k9 => va_bald hF.1 hF.2.1 hF.2.2.2.2.2.2.1.1 hH.1 j 1 (wo_get hA) rfl (vpin_w.mpr hin) hd (by rw [clamp_w, hz]; exact k9))
theorem J_roload {j : Nat} {a z : Int} (hd : decode cc pc = .ok (.iaload, 1)) (hj : j < 3) (hin : 0 ≤ w32 a ∧ w32 a < (roC G j).1) (hz : (roC G j).2 (w32 a).toNat = iI z)
    (kk : qJ l G y cc mL rt d (pc + 1) L (.int (iI z) :: st) A F) : qJ l G y cc mL rt d pc L (.int (iI a) :: .retAddr j :: st) A F :=
  qJ_st kk (fun _ _ _ _ _ _ _ _ _ _ _ _ _ _ _ _ _ _ hF hH hS hl _ _ k9 => va_sld hF.1 hF.2.1 (hF.2.2.2.2.2.2.1.2.1 j hj).1 (hF.2.2.2.2.2.2.1.2.1 j hj).2.1 (Nat.not_le.mpr (hF.2.2.2.2.2.2.1.2.1 j hj).2.2) hS (vpin_w.mpr hin) hd (by rw [clamp_w, hz]; exact k9))
theorem J_rolen {j : Nat} {z : Int} (hd : decode cc pc = .ok (.arraylength, 1)) (hj : j < 3) (hz : Int32.ofNat (roC G j).1 = iI z)
    (kk : qJ l G y cc mL rt d (pc + 1) L (.int (iI z) :: st) A F) : qJ l G y cc mL rt d pc L (.retAddr j :: st) A F :=
  qJ_st kk (fun _ _ _ _ _ _ _ _ _ _ _ _ _ _ _ _ _ _ hF hH hS hl _ _ k9 => va_slen hF.1 hF.2.1 (hF.2.2.2.2.2.2.1.2.1 j hj).1 (hF.2.2.2.2.2.2.1.2.1 j hj).2.1 (Nat.not_le.mpr (hF.2.2.2.2.2.2.1.2.1 j hj).2.2) hS hd (by rw [hz]; exact k9))
theorem J_alen {j t n : Nat} {ty : FieldType} {z : Int} {x : (Nat → Int32) ⊕ (Nat → Int64) ⊕ (Nat → UInt32) ⊕ (Nat → UInt64) ⊕ (Nat → Option Nat)} (hd : decode cc pc = .ok (.arraylength, 1)) (hA : A[j]? = some (.inl (t, n, x))) (ht : (qty G)[t]? = some (G.2.2.2.2 t, ty)) (hz : Int32.ofNat n = iI z)
    (kk : qJ l G y cc mL rt d (pc + 1) L (.int (iI z) :: st) A F) : qJ l G y cc mL rt d pc L (.ref j :: st) A F :=
  qJ_st kk (fun _ _ _ _ _ _ _ _ _ _ _ _ _ _ _ _ _ _ hF hH hS hl _ _ k9 => va_alen hF.1 hF.2.1 hF.2.2.2.2.2.2.1.1 hH.1 j t (wo_get hA) ht hz hd k9)
theorem J_aaload {j t n i : Nat} {C : String} {f : Nat → Option Nat} {a : Int} (hd : decode cc pc = .ok (.aaload, 1)) (hA : A[j]? = some (.inl (t, n, .inr (.inr (.inr (.inr f)))))) (ht : (qty G)[t]? = some (G.2.2.2.2 t, .object C)) (hin : 0 ≤ w32 a ∧ w32 a < n) (hz : f (w32 a).toNat = some i)
    (kk : qJ l G y cc mL rt d (pc + 1) L (.ref i :: st) A F) : qJ l G y cc mL rt d pc L (.int (iI a) :: .ref j :: st) A F :=
  qJ_st kk (fun _ _ _ _ _ _ _ _ _ _ _ _ _ _ _ _ _ _ hF hH hS hl _ _ k9 => va_aldq hF.1 hF.2.1 hF.2.2.2.2.2.2.1.1 hH.1 j t (wo_get hA) ht (vpin_w.mpr hin) hd (by rw [clamp_w, hz]; exact k9))
theorem J_getstatic {idx j : Nat} {n : String} (hd : decode cc pc = .ok (.getstatic idx, 3)) (hj : (j = 1 ∧ n = "LETTERS") ∨ (j = 2 ∧ n = "KIND_ABOVE")) (hw : Cond.fieldLinkNest y.cls idx "SunRopes" n "[I" "SunRopes" ∈ qnw)
    (kk : qJ l G y cc mL rt d (pc + 3) L (.retAddr j :: st) A F) : qJ l G y cc mL rt d pc L st A F :=
  qJ_st kk (fun _ _ _ _ _ _ _ _ _ _ _ _ _ _ _ _ _ _ hF hH hS hl _ _ k9 => by
    have h5 := hF.2.2.2.2.2.2.1.2.2.2.2.1 _ hw
    rcases hj with ⟨rfl, rfl⟩ | ⟨rfl, rfl⟩
    · exact va_getsN hF.1 hF.2.1 hF.2.2.2.2.2.2.1.2.2.1 hS hF.2.2.2.1 (va_Nw.use rfl h5) (fun _ h => h) hd k9
    · exact va_getsN hF.1 hF.2.1 hF.2.2.2.2.2.2.1.2.2.2.1 hS hF.2.2.2.1 (va_Nw.use rfl h5) (fun _ h => h) hd k9)
theorem J_iastore {j n : Nat} {f : Nat → Int32} {a z : Int} (hd : decode cc pc = .ok (.iastore, 1)) (hA : A[j]? = some (.inl (0, n, .inl f))) (hin : 0 ≤ w32 a ∧ w32 a < n)
    (kk : qJ l G y cc mL rt d (pc + 1) L st (A.set j (.inl (0, n, .inl (upd f (w32 a).toNat (iI z))))) F) : qJ l G y cc mL rt d pc L (.int (iI z) :: .int (iI a) :: .ref j :: st) A F := by
  refine qJ_sh (List.length_set ..) (sl_set hA (by simp [cs])) kk (fun p e R s m args below meth c Q n0 s0 H locs cells slots ls B hF hH hS hl9 k9 => ?_)
  have hK := hF.2.2.2.2.2.2.1.1
  refine W.iast hF.1 hF.2.1 (hH.1 j _ (wo_get hA)) ((hK.2 0 _ rfl).1 n (fun j => .int (f j))) (fun q => by cases q) (by show ¬ (_ ∨ (arrV _ _ _).slots.size ≤ _); rw [arrV_size]; exact vpin_w.mpr hin) rfl rfl hd fun H1 e1 z1 oq => ?_
  refine k9 H1 _ ?_ (Or.inl z1) (hS.put z1 oq (Nat.le_add_right _ _))
  rw [← wo_set]
  refine hH.1.set wo_D (wo_get hA) ?_ oq
  show H1[G.1 + j]? = some (vp_cell _ _)
  rw [e1]
  show some ((vp_cell (G.2.2.2.2 0) (n, .inl f)).setSlot (iI a).toNatClampNeg (.int (iI z))) = some (vp_cell (G.2.2.2.2 0) (n, .inl (upd f (w32 a).toNat (iI z))))
  rw [vp_cell_i, vp_cell_i, arrV_store]
  congr 2
  funext q
  by_cases hq : q = (w32 a).toNat
  · subst hq
    simp [updV, upd, clamp_w]
  · simp [updV, upd, clamp_w, hq]
theorem J_bastore {j n : Nat} {f : Nat → Int32} {a z : Int} (hq : qN ≤ A.length) (hd : decode cc pc = .ok (.bastore, 1)) (hA : A[j]? = some (.inl (1, n, .inl f))) (hin : 0 ≤ w32 a ∧ w32 a < n)
    (kk : qJ l G y cc mL rt d (pc + 1) L st (A.set j (.inl (1, n, .inl (upd f (w32 a).toNat (iI (zi2b z)))))) F) : qJ l G y cc mL rt d pc L (.int (iI z) :: .int (iI a) :: .ref j :: st) A F := by
  refine qJ_sh (List.length_set ..) (sl_set hA (by simp [cs])) kk (fun p e R s m args below meth c Q n0 s0 H locs cells slots ls B hF hH hS hl9 k9 => ?_)
  refine va_bast hF.1 hF.2.1 hF.2.2.2.2.2.2.1.1 hH.1 wo_D hS j 1 (wo_get hA) rfl (vpin_w.mpr hin) hd (fun H1 locs1 hP hD hS1 => k9 H1 locs1 ?_ (Or.inr hq) hS1)
  rw [← wo_set]
  rw [vp_nar_byte] at hP
  unfold zi2b
  rw [iI_w]
  exact hP
theorem J_copy {idx j j' n n' : Nat} {f f' : Nat → Int32} {sp dp m : Int} (hq : qN ≤ A.length) (hd1 : 1 ≤ d) (hw : Cond.methodLink y.cls idx arraycopyName ∈ qws) (hst : (st.map Value.category).sum ≤ 8) (hd : decode cc pc = .ok (.invokestatic idx, 3)) (hA : A[j]? = some (.inl (0, n, .inl f))) (hA' : A[j']? = some (.inl (0, n', .inl f')))
    (h1 : 0 ≤ w32 sp) (h2 : 0 ≤ w32 dp) (h3 : 0 ≤ w32 m) (h4 : w32 sp + w32 m ≤ n) (h5 : w32 dp + w32 m ≤ n')
    (kk : qJ l G y cc mL rt d (pc + 3) L st (A.set j' (.inl (0, n', .inl (va_cpy f f' (w32 sp).toNat (w32 dp).toNat (w32 m).toNat)))) F) : qJ l G y cc mL rt d pc L (.int (iI m) :: .int (iI dp) :: .ref j' :: .int (iI sp) :: .ref j :: st) A F := by
  refine qJ_sh (List.length_set ..) (sl_set hA' (by simp [cs])) kk (fun p e R s m9 args below meth c Q n0 s0 H locs cells slots ls B hF hH hS hl9 k9 => ?_)
  have hts := hF.2.2.2.2.1
  have hfr := hF.2.2.2.2.2.2.2.1
  have hlo := hF.2.2.2.2.2.2.2.2.1
  refine va_copyi (ty := .int) hF.1 hF.2.1 (hF.2.2.1.trans hl9.1.symm) hF.2.2.2.1 (hts _ hw) (hts _ nm_arraycopyName) (hts _ sm_arraycopyName) (hts _ ini_J10) hF.2.2.2.2.2.2.1.1 hH.1 wo_D hS j j' 0 0 (wo_get hA) (wo_get hA') rfl rfl rfl
    (fun q => absurd (iI_lt0.mp q) (by omega)) (fun q => absurd (iI_lt0.mp q) (by omega)) (fun q => absurd (iI_lt0.mp q) (by omega)) (by rw [clamp_w, clamp_w]; omega) (by rw [clamp_w, clamp_w]; omega) (fun i _ => rfl) (by omega) ?_ hd (fun H1 locs1 hP hD hS1 => k9 H1 locs1 ?_ (Or.inr hq) hS1)
  · have e : (List.map (fun v => v.category) (List.map (cv G) st)) = st.map Value.category := by rw [List.map_map]; exact List.map_congr_left (fun v _ => cv_cat G v)
    have e2 : nativeFrameWords "java/lang/System" "arraycopy" 5 ≤ 40 := by decide +kernel
    rw [e]; omega
  · rw [← wo_set]
    exact hP
theorem J_max {idx : Nat} {a b : Int} (hd1 : 1 ≤ d) (hw : Cond.methodLink y.cls idx Lib.Math.max.name ∈ qws) (hst : (st.map Value.category).sum ≤ 8) (hd : decode cc pc = .ok (.invokestatic idx, 3))
    (kk : qJ l G y cc mL rt d (pc + 3) L (.int (iI (zmax a b)) :: st) A F) : qJ l G y cc mL rt d pc L (.int (iI b) :: .int (iI a) :: st) A F :=
  qJ_st kk (fun _ _ _ _ _ _ _ _ _ _ _ _ _ _ _ _ _ _ hF hH hS hl hc hs k9 => by
    have hts := hF.2.2.2.2.1
    have hfr := hF.2.2.2.2.2.2.2.1
    have hlo := hF.2.2.2.2.2.2.2.2.1
    have e : (List.map (fun v => v.category) (List.map (cv G) st)) = st.map Value.category := by rw [List.map_map]; exact List.map_congr_left (fun v _ => cv_cat G v)
    exact va_mmax hF.1 hF.2.1 (hF.2.2.1.trans hl.1.symm) hF.2.2.2.1 (hts _ hw) (hts _ sm_yJ9_max_7cf53) (hts _ ini_J9) (hts _ (show Cond.code Lib.Math.max.name Lib.Math.max.code 2 (some .int) ∈ qws from cd_yJ9_max_7cf53)) (by omega) (by rw [e]; omega) hc hs hd (by rw [iI_max]; exact k9))
theorem J_min {idx : Nat} {a b : Int} (hd1 : 1 ≤ d) (hw : Cond.methodLink y.cls idx Lib.Math.min.name ∈ qws) (hst : (st.map Value.category).sum ≤ 8) (hd : decode cc pc = .ok (.invokestatic idx, 3))
    (kk : qJ l G y cc mL rt d (pc + 3) L (.int (iI (zmin a b)) :: st) A F) : qJ l G y cc mL rt d pc L (.int (iI b) :: .int (iI a) :: st) A F :=
  qJ_st kk (fun _ _ _ _ _ _ _ _ _ _ _ _ _ _ _ _ _ _ hF hH hS hl hc hs k9 => by
    have hts := hF.2.2.2.2.1
    have hfr := hF.2.2.2.2.2.2.2.1
    have hlo := hF.2.2.2.2.2.2.2.2.1
    have e : (List.map (fun v => v.category) (List.map (cv G) st)) = st.map Value.category := by rw [List.map_map]; exact List.map_congr_left (fun v _ => cv_cat G v)
    exact va_mmin hF.1 hF.2.1 (hF.2.2.1.trans hl.1.symm) hF.2.2.2.1 (hts _ hw) (hts _ sm_yJ9_min_7cf53) (hts _ ini_J9) (hts _ (show Cond.code Lib.Math.min.name Lib.Math.min.code 2 (some .int) ∈ qws from cd_yJ9_min_7cf53)) (by omega) (by rw [e]; omega) hc hs hd (by rw [iI_min]; exact k9))
end JH
end
section
/-! ===== contracts ===== -/
def qPre (G : qG) (vs : List Value) (A : qH) : Array Value → State → Prop := fun a U => a = (vs.map (cv G)).toArray ∧ SR G U ∧ HR G A U.heap
def qPost (G : qG) (r : Option Value) (B : qH) : Array Value → State → Outcome → State → Prop := fun _ st o t => o = .returned (r.map (cv G)) ∧ HR G B t.heap ∧ va_F (fun q => G.1 ≤ q) st t
def qRm (d : Nat) (A B : qH) : Room := { frames := d, cells := B.length - A.length, slots := sl B - sl A, locals := 64 * d }
def qM (l : Launch) (G : qG) (d : Nat) (y : MethodName) (cc : ByteArray) (mL : Nat) (rt : Option FieldType) (vs : List Value) (A : qH) (F : Option (Option Value × qH)) : Prop :=
  ∀ (r : Option Value) (B : qH), F = some (r, B) → A.length ≤ B.length ∧ sl A ≤ sl B ∧ Met l y (Cond.code y cc mL rt :: qws) (qRm d A B) (qPre G vs A) (qPost G r B) (B.length - A.length) (sl B - sl A) (fun q => G.1 ≤ q)
theorem qPre_blind {G : qG} {vs : List Value} {A : qH} : FrameBlind (qPre G vs A) := fun a U g mk q => ⟨q.1, SR.move (U := U.calling g mk a) q.2.1 (State.WarmedH.refl U) (Nat.le_refl _) (fun _ _ _ => rfl), q.2.2⟩
theorem q_good {w : Cond} (h : w ∈ qws) : GoodIn qws (w :: qws) := fun v hv => by
  rcases List.mem_cons.mp hv with rfl | hv
  · exact ⟨h, qws_good _ h⟩
  · exact ⟨hv, qws_good _ hv⟩
def qEnt : Nat → List Value → List (Option Value)
  | n, [] => List.replicate n none
  | n, v :: vs => if v.category = 2 then some v :: none :: qEnt (n - 2) vs else some v :: qEnt (n - 1) vs
theorem qEnt_args (G : qG) : ∀ (vs : List Value) (n k i : Nat) (v : Value), (qEnt n vs)[i]? = some (some v) → (k + i, cv G v) ∈ lv_args k (vs.map (cv G)) := by
  intro vs
  induction vs with
  | nil =>
    intro n k i v h
    simp only [qEnt, List.getElem?_replicate] at h
    split at h <;> cases h
  | cons u vs ih =>
    intro n k i v h
    simp only [qEnt] at h
    simp only [List.map_cons, lv_args, cv_cat]
    by_cases hc : u.category = 2
    · rw [if_pos hc] at h ⊢
      match i, h with
      | 0, h => cases h; exact List.mem_cons_self
      | 1, h => cases h
      | i + 2, h =>
        have h9 := ih (n - 2) (k + 2) i v h
        rw [show k + (i + 2) = k + 2 + i by omega]
        exact List.mem_cons_of_mem _ h9
    · rw [if_neg hc] at h ⊢
      match i, h with
      | 0, h => cases h; exact List.mem_cons_self
      | i + 1, h =>
        have h9 := ih (n - 1) (k + 1) i v h
        rw [show k + (i + 1) = k + 1 + i by omega]
        exact List.mem_cons_of_mem _ h9
theorem qEnt_L (G : qG) {vs : List Value} {n : Nat} (h : (lg_sl (vs.map (cv G))).length ≤ n) : qL G ((lg_sl (vs.map (cv G)) ++ List.replicate (n - (lg_sl (vs.map (cv G))).length) Slot.unset).toArray) n (qEnt n vs) := by
  obtain ⟨h1, h2, h3⟩ := lv_entry (vs.map (cv G)) h
  refine ⟨h1, h2, fun i v hv => ?_⟩
  have h4 := qEnt_args G vs n 0 i v hv
  rw [Nat.zero_add] at h4
  exact h3 _ h4
theorem lg_len (G : qG) (vs : List Value) : (lg_sl (vs.map (cv G))).length = (vs.map Value.category).sum := by
  induction vs with
  | nil => rfl
  | cons v vs ih =>
    unfold lg_sl at ih ⊢
    rw [List.map_cons, List.flatMap_cons, List.length_append, ih, List.map_cons, List.sum_cons, cv_cat]
    rcases lv_cat v with h | h <;> simp [h]
section JC
variable {l : Launch} {G : qG} {y : MethodName} {cc : ByteArray} {mL d : Nat} {rt : Option FieldType} {pc : Nat} {L L' : List (Option Value)} {st : List Value} {A : qH} {F : Option (Option Value × qH)}
theorem qM_of {vs : List Value} (hy : plainName y.cls = true) (hn : (vs.map Value.category).sum ≤ mL) (hL : qEnt mL vs = L) (hJ : qJ l G y cc mL rt d 0 L [] A F) : qM l G d y cc mL rt vs A F := by
  subst hL
  intro r B hF
  obtain ⟨h1, h2, k⟩ := hJ r B hF
  refine ⟨h1, h2, ?_⟩
  refine Met.ofW (cc := cc) (maxL := mL) (ret := rt) hy rfl ?_
  intro p e s m args below meth c s₁ Bd hml hv
  obtain ⟨rfl, hSR, hHR⟩ := hv
  have hlen : (lg_sl (vs.map (cv G))).length ≤ mL := by rw [lg_len]; exact hn
  have hts : ∀ w ∈ qws, w.before (vs.map (cv G)).toArray s = true := fun w hw => atoms_spec (ws := Cond.code y cc mL rt :: qws) Bd.pre w (List.mem_cons_of_mem _ hw)
  have hname : meth.name = y.name := (name_of_methodNamed Bd.named Bd.method).1
  have hlocks := Bd.notSynchronized
  rw [lg_entry_eq]
  refine k p e _ s m _ below meth c _ A.length (sl A) s.heap [] 0 0 _ ⟨Bd.exec, Bd.bytes, hml, findClass_of_methodNamed Bd.named, hts, hname, hSR, Nat.le_refl _, Nat.le_refl _, ?_, ?_⟩ hHR va_S.rf (qEnt_L G hlen) (Nat.zero_add _) (Nat.zero_add _) ?_
  · show B.length ≤ A.length + (B.length - A.length); omega
  · show sl B ≤ sl A + (sl B - sl A); omega
  · intro H locs cells slots pc ls i hd hr hH hS hc hs
    have e1 : cells = B.length - A.length := by omega
    have e2 : slots = sl B - sl A := by omega
    subst e1
    subst e2
    rcases hr with ⟨rfl, x, ty, rfl, e3, e4⟩ | ⟨rfl, e3, x, rfl⟩ | ⟨rfl, e3, rfl⟩
    · exact W.zret Bd.exec Bd.bytes (by rw [Bd.returns, e3]) e4 (fun t ht hW => ⟨rfl, by rw [ht]; exact hH, hS.F ht⟩) hS.2.2 hd
    · exact W.lret Bd.exec Bd.bytes (by rw [Bd.returns, e3]) (fun t ht hW => ⟨rfl, by rw [ht]; exact hH, hS.F ht⟩) hS.2.2 hd
    · exact W.vret Bd.exec Bd.bytes (by rw [Bd.returns, e3]) (fun t ht hW => ⟨rfl, by rw [ht]; exact hH, hS.F ht⟩) hS.2.2 hd
/-- behind a call -/
theorem J_run {y' : MethodName} {cc' : ByteArray} {mL' d' : Nat} {rt' : Option FieldType} {vs : List Value} {st0 : List Value} {Fc : Option (Option Value × qH)} (hM : qM l G d' y' cc' mL' rt' vs A Fc)
    (hne : Fc = none → F = none) (kk : ∀ r A1, Fc = some (r, A1) → qJ l G y cc mL rt d (pc + 3) L (r.toList ++ st) A1 F)
    (hrun : ∀ (p : Program) (e : Env) (R : Room) (s : State) (m : MethodId) (args : Array Value) (below : List Frame) (meth : Method) (c : Code) (n0 s0 : Nat) (H : Heap) (locs : List Loc) (cells slots : Nat) (ls : Array Slot) (B A1 : qH) (r1 : Option Value) (mc ms : Nat),
      qF G y cc mL d B p R s m args meth c n0 s0 → HR G A H → va_S (fun q => G.1 ≤ q) s.heap H locs → qL G ls mL L → cells + mc ≤ R.cells → slots + ms ≤ R.slots → Met l y' (Cond.code y' cc' mL' rt' :: qws) { frames := d', cells := mc, slots := ms, locals := 64 * d' } (qPre G vs A) (qPost G r1 A1) mc ms (fun q => G.1 ≤ q) →
      ∃ a : Array Value, va_Run p l e R s m args below meth c H locs cells slots mc ms (F0 m pc ls (st0.map (cv G))) (st.map (cv G)) (qPost G r1 A1 a) (fun q => G.1 ≤ q)) :
    qJ l G y cc mL rt d pc L st0 A F := by
  intro r B hF
  cases hFc : Fc with
  | none => rw [hne hFc] at hF; cases hF
  | some q1 =>
    obtain ⟨r1, A1⟩ := q1
    obtain ⟨m1, m2, M⟩ := hM r1 A1 hFc
    obtain ⟨h1, h2, kw⟩ := kk r1 A1 hFc r B hF
    refine ⟨Nat.le_trans m1 h1, Nat.le_trans m2 h2, fun p e R s m args below meth c Q n0 s0 H locs cells slots ls hFr hH hS hl hc hs hK => ?_⟩
    have a1 := hFr.2.2.2.2.2.2.2.2.2.1
    have a2 := hFr.2.2.2.2.2.2.2.2.2.2
    obtain ⟨a, run⟩ := hrun p e R s m args below meth c n0 s0 H locs cells slots ls B A1 r1 _ _ hFr hH hS hl (by omega) (by omega) M
    intro T hT X
    obtain ⟨v, st₀, t, T', L9, g0, X', gL, e1, e2, ⟨hv, hH1, hz, hk⟩, stp⟩ := run T hT X
    cases hv
    rw [g0] at hz hk
    obtain ⟨t2, b1, b2⟩ := kw p e R s m args below meth c Q n0 s0 T'.heap (locs ++ L9) (cells + (A1.length - A.length)) (slots + (sl A1 - sl A)) ls hFr (by rw [e1]; exact hH1)
      ⟨Nat.le_trans hS.1 (by rw [e1]; exact hz), fun q g1 g2 => by rw [e1, hk q (Nat.lt_of_lt_of_le g1 hS.1) g2]; exact hS.2.1 q g1 g2, fun q hq => by
        rcases List.mem_append.mp hq with h | h
        · exact hS.2.2 q h
        · exact gL q h⟩ hl (by omega) (by omega) hK T' rfl X'
    refine ⟨t2, stp t2 ?_, b2⟩
    have e3 : (r1.toList ++ st).map (cv G) = (r1.map (cv G)).toList ++ st.map (cv G) := by cases r1 <;> rfl
    rw [e3] at b1
    exact b1
theorem st_cat {G : qG} {st : List Value} : (List.map (fun v => v.category) (List.map (cv G) st)).sum = (st.map Value.category).sum := by
  rw [List.map_map]
  congr 1
  exact List.map_congr_left (fun v _ => cv_cat G v)
theorem J_callV {y' : MethodName} {cc' : ByteArray} {mL' d' idx k ci : Nat} {rt' : Option FieldType} {As : List Value} {q : vw_C} {fs : List Value} {Fc : Option (Option Value × qH)}
    (hi : Cond.instanceMethod y' ∈ qws) (hse : Cond.selects y'.cls y' y' ∈ qws) (hini : Cond.initialized y'.cls ∈ qws) (hcd : Cond.code y' cc' mL' rt' ∈ qws) (hml : mL' ≤ 45)
    (hdd : y'.cls ≠ "java/lang/invoke/MethodHandle" ∧ y'.cls ≠ "java/lang/invoke/VarHandle" ∧ (parseMethodDescriptor y'.desc).map (fun d => d.parameters.length) = some As.length)
    (hw : Cond.methodLink y.cls idx y' ∈ qws) (hd : decode cc pc = .ok (.invokevirtual idx, 3)) (hq : qcl[ci]? = some q) (hqc : q.1 = y'.cls) (hA : A[k]? = some (.inr (ci, fs))) (hdep : d' < d) (hst : (st.map Value.category).sum ≤ 8)
    (hM : qM l G d' y' cc' mL' rt' (.ref k :: As) A Fc)
    (hne : Fc = none → F = none) (kk : ∀ r A1, Fc = some (r, A1) → qJ l G y cc mL rt d (pc + 3) L (r.toList ++ st) A1 F) : qJ l G y cc mL rt d pc L (As.reverse ++ .ref k :: st) A F := by
  refine J_run hM hne kk (fun p e R s m args below meth c n0 s0 H locs cells slots ls B A1 r1 mc ms hF hH hS hl hc hs M => ⟨((Value.ref k :: As).map (cv G)).toArray, ?_⟩)
  have hts := hF.2.2.2.2.1
  have hfr := hF.2.2.2.2.2.2.2.1
  have hlo := hF.2.2.2.2.2.2.2.2.1
  refine va_runV (C := y'.cls) (b := G.1 + k) (As := As.map (cv G)) ⟨hF.1, hF.2.1, hF.2.2.1, hF.2.2.2.1, hts⟩ M ⟨callB_of As.length hts (q_good hcd) rfl rfl rfl (hts _ hini) (hts _ hw) hdd ⟨by show d' + 1 ≤ _; omega, by show _ + 64 * d' ≤ _; omega⟩, hts _ hi, hts _ hse⟩
    ⟨qPre_blind, ?_, fun U hU hW => ⟨rfl, SR.move hF.2.2.2.2.2.2.1 hW (by rw [hU]; exact hS.1) (fun q g1 g2 => by rw [hU]; exact hS.2.1 q g1 g2), by rw [hU]; exact hH⟩⟩ rfl (by rw [List.length_map]) hl.1 ?_ ?_ hd ⟨hc, hs⟩
  · obtain ⟨cell, c1, c2, c3⟩ := va_recv hF.2.2.2.2.2.2.1.1 hH.1 hq (wo_get hA)
    exact ⟨cell, c1, c2, by rw [← hqc]; exact c3⟩
  · show List.map (cv G) (As.reverse ++ .ref k :: st) = _
    rw [List.map_append, List.map_reverse]; rfl
  · show 2 * 0 + _ ≤ 8
    rw [st_cat]; omega
theorem J_callS {y' : MethodName} {cc' : ByteArray} {mL' d' idx : Nat} {rt' : Option FieldType} {As : List Value} {Fc : Option (Option Value × qH)}
    (hi : Cond.static y' ∈ qws) (hini : Cond.initialized y'.cls ∈ qws) (hcd : Cond.code y' cc' mL' rt' ∈ qws) (hml : mL' ≤ 45)
    (hdd : y'.cls ≠ "java/lang/invoke/MethodHandle" ∧ y'.cls ≠ "java/lang/invoke/VarHandle" ∧ (parseMethodDescriptor y'.desc).map (fun d => d.parameters.length) = some As.length)
    (hw : Cond.methodLink y.cls idx y' ∈ qws) (hd : decode cc pc = .ok (.invokestatic idx, 3)) (hdep : d' < d) (hst : (st.map Value.category).sum ≤ 8)
    (hM : qM l G d' y' cc' mL' rt' As A Fc)
    (hne : Fc = none → F = none) (kk : ∀ r A1, Fc = some (r, A1) → qJ l G y cc mL rt d (pc + 3) L (r.toList ++ st) A1 F) : qJ l G y cc mL rt d pc L (As.reverse ++ st) A F := by
  refine J_run hM hne kk (fun p e R s m args below meth c n0 s0 H locs cells slots ls B A1 r1 mc ms hF hH hS hl hc hs M => ⟨(As.map (cv G)).toArray, ?_⟩)
  have hts := hF.2.2.2.2.1
  have hfr := hF.2.2.2.2.2.2.2.1
  have hlo := hF.2.2.2.2.2.2.2.2.1
  refine va_runS (As := As.map (cv G)) ⟨hF.1, hF.2.1, hF.2.2.1, hF.2.2.2.1, hts⟩ M ⟨callB_of As.length hts (q_good hcd) rfl rfl rfl (hts _ hini) (hts _ hw) hdd ⟨by show d' + 1 ≤ _; omega, by show _ + 64 * d' ≤ _; omega⟩, hts _ hi⟩
    ⟨qPre_blind, fun U hU hW => ⟨rfl, SR.move hF.2.2.2.2.2.2.1 hW (by rw [hU]; exact hS.1) (fun q g1 g2 => by rw [hU]; exact hS.2.1 q g1 g2), by rw [hU]; exact hH⟩⟩ rfl (by rw [List.length_map]) hl.1 ?_ ?_ hd ⟨hc, hs⟩
  · show List.map (cv G) (As.reverse ++ st) = _
    rw [List.map_append, List.map_reverse]
  · show 2 * 0 + _ ≤ 8
    rw [st_cat]; omega
theorem J_callI {y' : MethodName} {cc' : ByteArray} {mL' d' idx k : Nat} {Fc : Option (Option Value × qH)}
    (hi : Cond.instanceMethod y' ∈ qws) (hini : Cond.initialized y'.cls ∈ qws) (hcd : Cond.code y' cc' mL' none ∈ qws) (hml : mL' ≤ 45) (hyn : y'.name = "<init>")
    (hdd : y'.cls ≠ "java/lang/invoke/MethodHandle" ∧ y'.cls ≠ "java/lang/invoke/VarHandle" ∧ (parseMethodDescriptor y'.desc).map (fun d => d.parameters.length) = some 0)
    (hw : Cond.methodLink y.cls idx y' ∈ qws ∨ Cond.methodLinkNest y.cls idx y' "SunRopes" ∈ qnw) (hd : decode cc pc = .ok (.invokespecial idx, 3)) (hdep : d' < d) (hst : (st.map Value.category).sum ≤ 8)
    (hM : qM l G d' y' cc' mL' none [.ref k] A Fc)
    (hne : Fc = none → F = none) (kk : ∀ r A1, Fc = some (r, A1) → qJ l G y cc mL rt d (pc + 3) L (r.toList ++ st) A1 F) : qJ l G y cc mL rt d pc L (.ref k :: st) A F := by
  refine J_run hM hne kk (fun p e R s m args below meth c n0 s0 H locs cells slots ls B A1 r1 mc ms hF hH hS hl hc hs M => ⟨([Value.ref k].map (cv G)).toArray, ?_⟩)
  have hts := hF.2.2.2.2.1
  have hfr := hF.2.2.2.2.2.2.2.1
  have hlo := hF.2.2.2.2.2.2.2.2.1
  rcases hw with hw | hw
  · refine va_runI (b := G.1 + k) (As := []) ⟨hF.1, hF.2.1, hF.2.2.1, hF.2.2.2.1, hts⟩ M ⟨callB_of 0 hts (q_good hcd) rfl rfl rfl (hts _ hini) (hts _ hw) hdd ⟨by show d' + 1 ≤ _; omega, by show _ + 64 * d' ≤ _; omega⟩, hyn, hts _ hi⟩
      ⟨qPre_blind, fun U hU hW => ⟨rfl, SR.move hF.2.2.2.2.2.2.1 hW (by rw [hU]; exact hS.1) (fun q g1 g2 => by rw [hU]; exact hS.2.1 q g1 g2), by rw [hU]; exact hH⟩⟩ rfl rfl hl.1 rfl ?_ hd ⟨hc, hs⟩
    show 2 * 0 + _ ≤ 8
    rw [st_cat]; omega
  · refine va_runIN (b := G.1 + k) (As := []) ⟨hF.1, hF.2.1, hF.2.2.1, hF.2.2.2.1, hts⟩ M ⟨va_cnB 0 hts (q_good hcd) rfl rfl rfl (hF.2.2.2.2.2.2.1.2.2.2.2.1 _ hw) (hts _ hini) hdd ⟨by show d' + 1 ≤ _; omega, by show _ + 64 * d' ≤ _; omega⟩, hyn, hts _ hi⟩
      ⟨qPre_blind, fun U hU hW => ⟨rfl, SR.move hF.2.2.2.2.2.2.1 hW (by rw [hU]; exact hS.1) (fun q g1 g2 => by rw [hU]; exact hS.2.1 q g1 g2), by rw [hU]; exact hH⟩⟩ rfl rfl hl.1 rfl ?_ hd ⟨hc, hs⟩
    show 2 * 0 + _ ≤ 8
    rw [st_cat]; omega
theorem J_objInit {idx k : Nat} (hd1 : 1 ≤ d) (hw : Cond.methodLink y.cls idx objectInit ∈ qws) (hst : (st.map Value.category).sum ≤ 8) (hd : decode cc pc = .ok (.invokespecial idx, 3)) (kk : qJ l G y cc mL rt d (pc + 3) L st A F) : qJ l G y cc mL rt d pc L (.ref k :: st) A F :=
  qJ_st kk (fun _ _ _ _ _ _ _ _ _ _ _ _ _ _ _ _ _ _ hF hH hS hl hc hs k9 => by
    have hts := hF.2.2.2.2.1
    have hfr := hF.2.2.2.2.2.2.2.1
    have hlo := hF.2.2.2.2.2.2.2.2.1
    refine W.objInit hF.1 hF.2.1 hF.2.2.2.1 (hts _ hw) (hts _ im_objectInit) (hts _ cd_objectInit) rfl (by rw [hF.2.2.1]; exact hl.1) rfl hd (by omega) ?_ k9
    show 2 * 0 + (List.map (fun v => v.category) (List.map (cv G) st)).sum + 12 ≤ _
    rw [st_cat]; omega)
theorem J_new {ci N idx : Nat} {C : String} {T : u_T} {fs : List Value} (hc : qcl[ci]? = some (C, T, N)) (hin : ∀ w ∈ u_ws C T N, w ∈ qws) (ty0 : Nat → FieldType) (hty : ∀ k, k < N → parseFieldDescriptor (T k).2.2.1 = some (ty0 k)) (hik : Cond.instantiable C N ∈ qws) (hini : Cond.initialized C ∈ qws) (hfs : ∀ j, j < N → defaultValue (ty0 j) = vp_V fs j) (hfl : fs.length = N) (hcv : ∀ G : qG, fs.map (cv G) = fs)
    (hq : A.length < qN) (hw : Cond.classLink y.cls idx C ∈ qws) (hd : decode cc pc = .ok (.new idx, 3)) (kk : qJ l G y cc mL rt d (pc + 3) L (.ref A.length :: st) (A ++ [.inr (ci, fs)]) F) : qJ l G y cc mL rt d pc L st A F := by
  refine qJ_sn hq kk (fun p e R s m args below meth c Q n0 s0 H locs cells slots ls B hF hH hS hl hsz hce hsl k9 => ?_)
  have hts := hF.2.2.2.2.1
  have hKn := hF.2.2.2.2.2.2.1.1.1 ci _ hc
  have hcs : cs (.inr (ci, fs)) = N := hfl
  rw [hcs] at hsl k9
  refine W.newcK hF.1 hF.2.1 hF.2.2.2.1 (hts _ hw) (hts _ hik) (hts _ hini) rfl hd hce hsl hKn.2.1 hsz fun H1 kC hkC e1 z1 o1 => ?_
  refine k9 H1 ⟨_, hc, ?_⟩ (by rw [z1, hsz]) (by rw [hsz]; exact o1)
  rw [hcv G]
  exact (u_born ty0 hts hin hKn hkC e1 hty).to hfs
theorem J_newarray {t N : Nat} {ty : FieldType} {atype : ArrayType} {a : Int} (hq : A.length < qN) (hat : newarray.typeOf atype = ty) (hac : Cond.arrayClass ty ∈ qws) (ht : ∀ G : qG, (qty G)[t]? = some (G.2.2.2.2 t, ty)) (hdef : defaultValue ty = .int 0) (hra : ∀ (U : State) (c : ClassId), va_RA U c ty → U.vm.findClass ("[" ++ ty.toString) = some c) (hd : decode cc pc = .ok (.newarray atype, 2)) (ha : w32 a = N) (hb : N * componentBytes ty ≤ 536870912)
    (kk : qJ l G y cc mL rt d (pc + 2) L (.ref A.length :: st) (A ++ [.inl (t, N, .inl (fun _ => 0))]) F) : qJ l G y cc mL rt d pc L (.int (iI a) :: st) A F := by
  subst hat
  refine qJ_sn hq kk (fun p e R s m args below meth c Q n0 s0 H locs cells slots ls B hF hH hS hl hsz hce hsl k9 => ?_)
  have hts := hF.2.2.2.2.1
  refine va_newaK hF.1 hF.2.1 (hts _ hac) rfl hd rfl (fun q => absurd (iI_lt0.mp q) (by omega)) (N := N) (by rw [clamp_w, ha]; rfl) hb hce hsl hsz fun H1 cA e1 z1 o1 hAr hNm => ?_
  refine k9 H1 ?_ (by rw [z1, hsz]) (by rw [hsz]; exact o1)
  have e2 : cA = G.2.2.2.2 t := Option.some.inj (hNm.symm.trans (hra _ _ (hF.2.2.2.2.2.2.1.1.2 t _ (ht G)).2))
  show H1[G.1 + A.length]? = some (vp_cell _ _)
  rw [e1, e2, hdef]
  rfl
theorem J_anewarray {t N idx : Nat} {C : String} {a : Int} (hq : A.length < qN) (hao : Cond.arrayOver (.object C) ∈ qnw) (ht : ∀ G : qG, (qty G)[t]? = some (G.2.2.2.2 t, .object C)) (hw : Cond.classLink y.cls idx C ∈ qws) (hd : decode cc pc = .ok (.anewarray idx, 3)) (ha : w32 a = N) (hb : N * 4 ≤ 536870912)
    (kk : qJ l G y cc mL rt d (pc + 3) L (.ref A.length :: st) (A ++ [.inl (t, N, .inr (.inr (.inr (.inr (fun _ => none)))))]) F) : qJ l G y cc mL rt d pc L (.int (iI a) :: st) A F := by
  refine qJ_sn hq kk (fun p e R s m args below meth c Q n0 s0 H locs cells slots ls B hF hH hS hl hsz hce hsl k9 => ?_)
  have hts := hF.2.2.2.2.1
  have hN : (iI a).toNatClampNeg = N := by rw [clamp_w, ha]; rfl
  refine W.anew hF.1 hF.2.1 hF.2.2.2.1 (hts _ hw) (hF.2.2.2.2.2.2.1.2.2.2.2.1 _ hao) rfl hd rfl (fun q => absurd (iI_lt0.mp q) (by omega)) (by rw [hN]; exact hb) hce (by rw [hN]; exact hsl) fun cA kA comp f1 f2 f3 f4 => ?_
  rw [hN]
  obtain ⟨kA', comp', g1, g2, g3, g4⟩ := (hF.2.2.2.2.2.2.1.1.2 t _ (ht G)).2
  have e2 : cA = G.2.2.2.2 t := Option.some.inj (f1.symm.trans g4)
  have k8 := k9 (H.push ({ cls := cA, slots := Array.replicate N .null, vm := .none } : Cell)) ?_ (by rw [Array.size_push]) (fun q hq => by rw [Array.getElem?_push, if_neg (Nat.ne_of_lt hq)])
  · rw [hsz]; exact k8
  · show (H.push _)[G.1 + A.length]? = some (vp_cell _ _)
    rw [← hsz, Array.getElem?_push_size, e2, arrV_new]
    rfl
theorem J_aastore {j t n v ci : Nat} {q : vw_C} {fs : List Value} {f : Nat → Option Nat} {a : Int} (hd : decode cc pc = .ok (.aastore, 1)) (hA : A[j]? = some (.inl (t, n, .inr (.inr (.inr (.inr f)))))) (hq : qcl[ci]? = some q) (ht : ∀ G : qG, (qty G)[t]? = some (G.2.2.2.2 t, .object q.1)) (hv : A[v]? = some (.inr (ci, fs))) (hin : 0 ≤ w32 a ∧ w32 a < n)
    (kk : qJ l G y cc mL rt d (pc + 1) L st (A.set j (.inl (t, n, .inr (.inr (.inr (.inr (va_up f (w32 a).toNat (some v)))))))) F) : qJ l G y cc mL rt d pc L (.ref v :: .int (iI a) :: .ref j :: st) A F := by
  refine qJ_sh (List.length_set ..) (sl_set hA (by simp [cs])) kk (fun p e R s m args below meth c Q n0 s0 H locs cells slots ls B hF hH hS hl9 k9 => ?_)
  have hK := hF.2.2.2.2.2.2.1.1
  obtain ⟨r', hr', cellV, g1, g2, g3, -⟩ := hH.1 v _ (wo_get hv)
  have hcls := (hK.1 ci q hq).2
  obtain ⟨kA, comp, k1, k2, k3, -⟩ := (hK.2 t _ (ht G)).2
  have hcomp : comp = G.2.2.2.1.1 ci := Option.some.inj (k3.symm.trans hcls.1)
  subst hcomp
  obtain ⟨kC, hkC, -⟩ := hcls.2
  have hlt : (iI a).toNatClampNeg < n := by rw [clamp_w]; omega
  refine W.aast (j := iI a) hF.1 hF.2.1 (hH.1 j _ (wo_get hA)) (fun q h => by cases h) (fun h => by cases h) k1 k2 rfl hkC ⟨fun z => absurd (iI_lt0.mp z) (by omega), by show _ < (arrV _ _ _).slots.size; rw [arrV_size]; exact hlt⟩ g1 (fun q h => by rw [g3] at h; cases h) (by rw [g2]; exact hkC) (by rw [g2]; exact va_assign hcls) rfl rfl hd fun H1 e1 z1 oq => ?_
  refine k9 H1 _ ?_ (Or.inl z1) (hS.put z1 oq (Nat.le_add_right _ _))
  rw [← wo_set]
  refine hH.1.set wo_D (wo_get hA) ?_ oq
  show H1[G.1 + j]? = some (vp_cell _ _)
  rw [e1]
  show some ((arrV (G.2.2.2.2 t) n (fun j => va_rf ((f j).map (fun k => G.1 + k)))).setSlot (iI a).toNatClampNeg (.ref (G.1 + v))) = some (arrV (G.2.2.2.2 t) n (fun j => va_rf ((va_up f (w32 a).toNat (some v) j).map (fun k => G.1 + k))))
  rw [arrV_store]
  congr 2
  funext q
  by_cases hq : q = (w32 a).toNat
  · subst hq
    simp [updV, va_up, va_rf, clamp_w]
  · simp [updV, va_up, hq, clamp_w]
end JC
end
section
/-! ===== memory: cell, slot; the layout of the cells behind the two constructors ===== -/
abbrev Mem : Type := Nat → Nat → Int
abbrev qS : Type := (Nat × List Nat) ⊕ ((Nat × Nat) ⊕ (Nat × Nat × Nat × Nat))
def SHL : List qS := [.inl (9, [3, 4, 5, 8, 15, 17, 20, 21, 24, 34, 38, 39, 0, 0, 1, 1]), .inr (.inr (2, 6, 38, 2)), .inr (.inr (3, 4, 50, 2)), .inl (4, [6, 7, 0, 0]), .inr (.inl (0, 15)), .inr (.inl (0, 16)), .inl (8, [9, 10, 11, 12, 13, 14, 0, 0]), .inr (.inl (0, 5)), .inr (.inl (0, 6)), .inr (.inl (0, 4)), .inr (.inl (0, 4)), .inr (.inl (0, 4)), .inr (.inl (0, 4)), .inl (1, [16, 0, 0, 0, 0]), .inr (.inl (0, 16)), .inl (2, [18, 19, 0]), .inr (.inl (0, 976)), .inr (.inl (0, 4)), .inr (.inr (4, 3, 58, 3)), .inl (3, [22, 0]), .inl (1, [23, 0, 0, 0, 0]), .inr (.inl (0, 16)), .inl (6, [25, 26, 27, 0, 0, 0, 0, 0]), .inr (.inr (5, 3, 26, 2)), .inr (.inl (0, 3)), .inr (.inl (0, 3)), .inl (1, [29, 0, 0, 0, 0]), .inr (.inl (0, 16)), .inl (1, [31, 0, 0, 0, 0]), .inr (.inl (0, 16)), .inl (1, [33, 0, 0, 0, 0]), .inr (.inl (0, 16)), .inl (0, [35, 37]), .inl (1, [36, 0, 0, 0, 0]), .inr (.inl (0, 16)), .inr (.inl (0, 128)), .inr (.inl (0, 5)), .inr (.inl (0, 6)), .inl (5, [41, 0]), .inr (.inl (0, 40)), .inl (5, [43, 0]), .inr (.inl (0, 40)), .inl (5, [45, 0]), .inr (.inl (0, 40)), .inl (5, [47, 0]), .inr (.inl (0, 40)), .inl (5, [49, 0]), .inr (.inl (0, 40)), .inl (5, [51, 0]), .inr (.inl (0, 40)), .inl (7, [53, 0]), .inr (.inl (1, 60)), .inl (7, [55, 0]), .inr (.inl (1, 60)), .inl (7, [57, 0]), .inr (.inl (1, 60)), .inl (7, [59, 0]), .inr (.inl (1, 60)), .inl (2, [61, 62, 0]), .inr (.inl (0, 976)), .inr (.inl (0, 4)), .inl (2, [64, 65, 0]), .inr (.inl (0, 976)), .inr (.inl (0, 4)), .inl (2, [67, 68, 0]), .inr (.inl (0, 976)), .inr (.inl (0, 4)), .inl (10, [0, 0, 70, 71, 72, 73, 74, 75, 0, 76, 0, 1, 1, 0, 77, 78, 79, 80, 81, 82, 83, 84, 85, 86, 0, 0, 0, 0, 87, 88, 89, 90, 91, 92, 93, 0, 0, 94, 95]), .inr (.inl (0, 5)), .inr (.inl (0, 4)), .inr (.inl (0, 4)), .inr (.inl (0, 4)), .inr (.inl (0, 4)), .inr (.inl (0, 16)), .inr (.inl (0, 960)), .inr (.inl (0, 6)), .inr (.inl (0, 6)), .inr (.inl (0, 240)), .inr (.inl (0, 4)), .inr (.inl (0, 240)), .inr (.inl (0, 3)), .inr (.inl (0, 48)), .inr (.inl (0, 2880)), .inr (.inl (0, 12)), .inr (.inl (0, 40)), .inr (.inl (0, 5)), .inr (.inl (0, 5)), .inr (.inl (0, 5)), .inr (.inl (0, 4)), .inr (.inl (0, 4)), .inr (.inl (0, 4)), .inr (.inl (0, 4)), .inr (.inl (0, 16)), .inr (.inl (0, 128))]
def shp (k : Nat) : qS := SHL.getD k (.inr (.inl (0, 0)))
def mkv (k : Nat) (z : Int) : Value := match k with
  | 0 => .int (iI z)
  | 1 => .long (iL z)
  | r + 2 => .ref r
def mkc (s : qS) (f : Nat → Int) : qE := match s with
  | .inl (c, ks) => .inr (c, ks.mapIdx (fun p k => mkv k (f p)))
  | .inr (.inl (t, n)) => .inl (t, n, .inl (fun j => iI (f j)))
  | .inr (.inr (t, n, b, st)) => .inl (t, n, .inr (.inr (.inr (.inr (fun j => some (b + st * j))))))
def lay (μ : Mem) : qH := (List.range qN).map (fun k => mkc (shp k) (μ k))
theorem lay_len {μ : Mem} : (lay μ).length = qN := by simp [lay]
theorem lay_get {μ : Mem} {k : Nat} (h : k < qN) : (lay μ)[k]? = some (mkc (shp k) (μ k)) := by
  rw [lay, List.getElem?_map, List.getElem?_range h]; rfl
theorem lay_set {μ μ' : Mem} {k : Nat} {e : qE} (hk : k < qN) (he : e = mkc (shp k) (μ' k)) (ho : ∀ j, j ≠ k → μ' j = μ j) : (lay μ).set k e = lay μ' := by
  apply List.ext_getElem?
  intro i
  rw [List.getElem?_set, lay_len]
  by_cases h : k = i
  · subst h
    rw [if_pos rfl, if_pos hk, lay_get hk, he]
  · rw [if_neg h]
    by_cases hi : i < qN
    · rw [lay_get hi, lay_get hi, ho i (fun z => h z.symm)]
    · rw [List.getElem?_eq_none (by rw [lay_len]; omega), List.getElem?_eq_none (by rw [lay_len]; omega)]
def wr (μ : Mem) (k p : Nat) (z : Int) : Mem := fun j q => if j = k ∧ q = p then z else μ j q
theorem wr_row {μ : Mem} {k p : Nat} {z : Int} : wr μ k p z k = fun q => if q = p then z else μ k q := by funext q; simp [wr]
theorem wr_off {μ : Mem} {k p : Nat} {z : Int} {j : Nat} (h : j ≠ k) : wr μ k p z j = μ j := by funext q; simp [wr, h]
def cpy (μ : Mem) (k k' sp dp n : Nat) : Mem := fun j q => if j = k' ∧ dp ≤ q ∧ q < dp + n then μ k (sp + (q - dp)) else μ j q
theorem mapIdx_put {ks : List Nat} {f : Nat → Int} {k q0 : Nat} {z : Int} (h : ks[k]? = some q0) : (ks.mapIdx (fun p q => mkv q (f p))).set k (mkv q0 z) = ks.mapIdx (fun p q => mkv q (if p = k then z else f p)) := by
  apply List.ext_getElem?
  intro i
  rw [List.getElem?_set, List.length_mapIdx, List.getElem?_mapIdx, List.getElem?_mapIdx]
  have hl := (List.getElem?_eq_some_iff.mp h).1
  by_cases e : k = i
  · subst e
    rw [if_pos rfl, if_pos hl, h]; simp
  · rw [if_neg e]
    have e2 : ¬ i = k := fun z => e z.symm
    simp [e2]
/-! ===== what functional programs are made of ===== -/
def ck {α : Type} (a : Int) (n : Nat) (F : Option α) : Option α := if 0 ≤ w32 a ∧ w32 a < (n : Int) then F else none
def ckz {α : Type} (a : Int) (F : Option α) : Option α := if w32 a = 0 then none else F
def ckl {α : Type} (a : Int) (F : Option α) : Option α := if w64 a = 0 then none else F
def ckb {α : Type} (a : Int) (F : Option α) : Option α := if a = 0 ∨ a = 1 then F else none
def ckc {α : Type} (sp dp m : Int) (n n' : Nat) (F : Option α) : Option α := if 0 ≤ w32 sp ∧ 0 ≤ w32 dp ∧ 0 ≤ w32 m ∧ w32 sp + w32 m ≤ (n : Int) ∧ w32 dp + w32 m ≤ (n' : Int) then F else none
def bd {ρ σ : Type} (o : Option (ρ × Mem)) (k : ρ → Mem → Option (σ × Mem)) : Option (σ × Mem) := match o with
  | none => none
  | some (x, μ) => k x μ
def vl {α : Type} (V : Int) (T : Int → α) : α := T V
def vm {α : Type} (M : Mem) (T : Mem → α) : α := T M
def jn {κ β : Type} (K : κ) (body : κ → β) : β := body K
def eI (x : Int) : Option Value := some (.int (iI x))
def eL (x : Int) : Option Value := some (.long (iL x))
def eU (_ : Unit) : Option Value := none
def lf {ρ : Type} (em : ρ → Option Value) (F : Option (ρ × Mem)) : Option (Option Value × qH) := F.map (fun q => (em q.1, lay q.2))
section JT
variable {l : Launch} {G : qG} {y : MethodName} {cc : ByteArray} {mL d : Nat} {rt : Option FieldType} {pc : Nat} {L L' : List (Option Value)} {st : List Value} {μ : Mem} {ρ : Type} {em : ρ → Option Value} {F F1 F2 : Option (ρ × Mem)}
theorem T_none : qJ l G y cc mL rt d pc L st (lay μ) (lf em none) := qJ_none
theorem T_icmp_eq {a b : Int} {off : Int} {tgt : Nat} (hd : decode cc pc = .ok (.if_icmp .eq off, 3)) (ht : (pc : Int) + off = (tgt : Int)) (kt : w32 a = w32 b → qJ l G y cc mL rt d tgt L st (lay μ) (lf em F1)) (kf : ¬ w32 a = w32 b → qJ l G y cc mL rt d (pc + 3) L st (lay μ) (lf em F2)) : qJ l G y cc mL rt d pc L (.int (iI b) :: .int (iI a) :: st) (lay μ) (lf em (if w32 a = w32 b then F1 else F2)) := by
  rw [show lf em (if w32 a = w32 b then F1 else F2) = if w32 a = w32 b then lf em F1 else lf em F2 by split <;> rfl]
  exact J_icmp_eq hd ht kt kf
theorem T_icmp_eq_same {a b : Int} {off : Int} {tgt : Nat} (hd : decode cc pc = .ok (.if_icmp .eq off, 3)) (ht : (pc : Int) + off = (tgt : Int)) (kt : w32 a = w32 b → qJ l G y cc mL rt d tgt L st (lay μ) (lf em F)) (kf : ¬ w32 a = w32 b → qJ l G y cc mL rt d (pc + 3) L st (lay μ) (lf em F)) : qJ l G y cc mL rt d pc L (.int (iI b) :: .int (iI a) :: st) (lay μ) (lf em F) := by
  have h := T_icmp_eq hd ht kt kf
  rw [ite_self] at h
  exact h
theorem T_icmp_ne {a b : Int} {off : Int} {tgt : Nat} (hd : decode cc pc = .ok (.if_icmp .ne off, 3)) (ht : (pc : Int) + off = (tgt : Int)) (kt : ¬ w32 a = w32 b → qJ l G y cc mL rt d tgt L st (lay μ) (lf em F2)) (kf : w32 a = w32 b → qJ l G y cc mL rt d (pc + 3) L st (lay μ) (lf em F1)) : qJ l G y cc mL rt d pc L (.int (iI b) :: .int (iI a) :: st) (lay μ) (lf em (if w32 a = w32 b then F1 else F2)) := by
  rw [show lf em (if w32 a = w32 b then F1 else F2) = if w32 a = w32 b then lf em F1 else lf em F2 by split <;> rfl]
  exact J_icmp_ne hd ht kt kf
theorem T_icmp_ne_same {a b : Int} {off : Int} {tgt : Nat} (hd : decode cc pc = .ok (.if_icmp .ne off, 3)) (ht : (pc : Int) + off = (tgt : Int)) (kt : ¬ w32 a = w32 b → qJ l G y cc mL rt d tgt L st (lay μ) (lf em F)) (kf : w32 a = w32 b → qJ l G y cc mL rt d (pc + 3) L st (lay μ) (lf em F)) : qJ l G y cc mL rt d pc L (.int (iI b) :: .int (iI a) :: st) (lay μ) (lf em F) := by
  have h := T_icmp_ne hd ht kt kf
  rw [ite_self] at h
  exact h
theorem T_icmp_lt {a b : Int} {off : Int} {tgt : Nat} (hd : decode cc pc = .ok (.if_icmp .lt off, 3)) (ht : (pc : Int) + off = (tgt : Int)) (kt : w32 a < w32 b → qJ l G y cc mL rt d tgt L st (lay μ) (lf em F1)) (kf : ¬ w32 a < w32 b → qJ l G y cc mL rt d (pc + 3) L st (lay μ) (lf em F2)) : qJ l G y cc mL rt d pc L (.int (iI b) :: .int (iI a) :: st) (lay μ) (lf em (if w32 a < w32 b then F1 else F2)) := by
  rw [show lf em (if w32 a < w32 b then F1 else F2) = if w32 a < w32 b then lf em F1 else lf em F2 by split <;> rfl]
  exact J_icmp_lt hd ht kt kf
theorem T_icmp_lt_same {a b : Int} {off : Int} {tgt : Nat} (hd : decode cc pc = .ok (.if_icmp .lt off, 3)) (ht : (pc : Int) + off = (tgt : Int)) (kt : w32 a < w32 b → qJ l G y cc mL rt d tgt L st (lay μ) (lf em F)) (kf : ¬ w32 a < w32 b → qJ l G y cc mL rt d (pc + 3) L st (lay μ) (lf em F)) : qJ l G y cc mL rt d pc L (.int (iI b) :: .int (iI a) :: st) (lay μ) (lf em F) := by
  have h := T_icmp_lt hd ht kt kf
  rw [ite_self] at h
  exact h
theorem T_icmp_ge {a b : Int} {off : Int} {tgt : Nat} (hd : decode cc pc = .ok (.if_icmp .ge off, 3)) (ht : (pc : Int) + off = (tgt : Int)) (kt : ¬ w32 a < w32 b → qJ l G y cc mL rt d tgt L st (lay μ) (lf em F2)) (kf : w32 a < w32 b → qJ l G y cc mL rt d (pc + 3) L st (lay μ) (lf em F1)) : qJ l G y cc mL rt d pc L (.int (iI b) :: .int (iI a) :: st) (lay μ) (lf em (if w32 a < w32 b then F1 else F2)) := by
  rw [show lf em (if w32 a < w32 b then F1 else F2) = if w32 a < w32 b then lf em F1 else lf em F2 by split <;> rfl]
  exact J_icmp_ge hd ht kt kf
theorem T_icmp_ge_same {a b : Int} {off : Int} {tgt : Nat} (hd : decode cc pc = .ok (.if_icmp .ge off, 3)) (ht : (pc : Int) + off = (tgt : Int)) (kt : ¬ w32 a < w32 b → qJ l G y cc mL rt d tgt L st (lay μ) (lf em F)) (kf : w32 a < w32 b → qJ l G y cc mL rt d (pc + 3) L st (lay μ) (lf em F)) : qJ l G y cc mL rt d pc L (.int (iI b) :: .int (iI a) :: st) (lay μ) (lf em F) := by
  have h := T_icmp_ge hd ht kt kf
  rw [ite_self] at h
  exact h
theorem T_icmp_gt {a b : Int} {off : Int} {tgt : Nat} (hd : decode cc pc = .ok (.if_icmp .gt off, 3)) (ht : (pc : Int) + off = (tgt : Int)) (kt : w32 b < w32 a → qJ l G y cc mL rt d tgt L st (lay μ) (lf em F1)) (kf : ¬ w32 b < w32 a → qJ l G y cc mL rt d (pc + 3) L st (lay μ) (lf em F2)) : qJ l G y cc mL rt d pc L (.int (iI b) :: .int (iI a) :: st) (lay μ) (lf em (if w32 b < w32 a then F1 else F2)) := by
  rw [show lf em (if w32 b < w32 a then F1 else F2) = if w32 b < w32 a then lf em F1 else lf em F2 by split <;> rfl]
  exact J_icmp_gt hd ht kt kf
theorem T_icmp_gt_same {a b : Int} {off : Int} {tgt : Nat} (hd : decode cc pc = .ok (.if_icmp .gt off, 3)) (ht : (pc : Int) + off = (tgt : Int)) (kt : w32 b < w32 a → qJ l G y cc mL rt d tgt L st (lay μ) (lf em F)) (kf : ¬ w32 b < w32 a → qJ l G y cc mL rt d (pc + 3) L st (lay μ) (lf em F)) : qJ l G y cc mL rt d pc L (.int (iI b) :: .int (iI a) :: st) (lay μ) (lf em F) := by
  have h := T_icmp_gt hd ht kt kf
  rw [ite_self] at h
  exact h
theorem T_icmp_le {a b : Int} {off : Int} {tgt : Nat} (hd : decode cc pc = .ok (.if_icmp .le off, 3)) (ht : (pc : Int) + off = (tgt : Int)) (kt : ¬ w32 b < w32 a → qJ l G y cc mL rt d tgt L st (lay μ) (lf em F2)) (kf : w32 b < w32 a → qJ l G y cc mL rt d (pc + 3) L st (lay μ) (lf em F1)) : qJ l G y cc mL rt d pc L (.int (iI b) :: .int (iI a) :: st) (lay μ) (lf em (if w32 b < w32 a then F1 else F2)) := by
  rw [show lf em (if w32 b < w32 a then F1 else F2) = if w32 b < w32 a then lf em F1 else lf em F2 by split <;> rfl]
  exact J_icmp_le hd ht kt kf
theorem T_icmp_le_same {a b : Int} {off : Int} {tgt : Nat} (hd : decode cc pc = .ok (.if_icmp .le off, 3)) (ht : (pc : Int) + off = (tgt : Int)) (kt : ¬ w32 b < w32 a → qJ l G y cc mL rt d tgt L st (lay μ) (lf em F)) (kf : w32 b < w32 a → qJ l G y cc mL rt d (pc + 3) L st (lay μ) (lf em F)) : qJ l G y cc mL rt d pc L (.int (iI b) :: .int (iI a) :: st) (lay μ) (lf em F) := by
  have h := T_icmp_le hd ht kt kf
  rw [ite_self] at h
  exact h
theorem T_if_eq {a : Int} {off : Int} {tgt : Nat} (hd : decode cc pc = .ok (.ifCond .eq off, 3)) (ht : (pc : Int) + off = (tgt : Int)) (kt : w32 a = 0 → qJ l G y cc mL rt d tgt L st (lay μ) (lf em F1)) (kf : ¬ w32 a = 0 → qJ l G y cc mL rt d (pc + 3) L st (lay μ) (lf em F2)) : qJ l G y cc mL rt d pc L (.int (iI a) :: st) (lay μ) (lf em (if w32 a = 0 then F1 else F2)) := by
  rw [show lf em (if w32 a = 0 then F1 else F2) = if w32 a = 0 then lf em F1 else lf em F2 by split <;> rfl]
  exact J_if_eq hd ht kt kf
theorem T_if_eq_same {a : Int} {off : Int} {tgt : Nat} (hd : decode cc pc = .ok (.ifCond .eq off, 3)) (ht : (pc : Int) + off = (tgt : Int)) (kt : w32 a = 0 → qJ l G y cc mL rt d tgt L st (lay μ) (lf em F)) (kf : ¬ w32 a = 0 → qJ l G y cc mL rt d (pc + 3) L st (lay μ) (lf em F)) : qJ l G y cc mL rt d pc L (.int (iI a) :: st) (lay μ) (lf em F) := by
  have h := T_if_eq hd ht kt kf
  rw [ite_self] at h
  exact h
theorem T_if_ne {a : Int} {off : Int} {tgt : Nat} (hd : decode cc pc = .ok (.ifCond .ne off, 3)) (ht : (pc : Int) + off = (tgt : Int)) (kt : ¬ w32 a = 0 → qJ l G y cc mL rt d tgt L st (lay μ) (lf em F2)) (kf : w32 a = 0 → qJ l G y cc mL rt d (pc + 3) L st (lay μ) (lf em F1)) : qJ l G y cc mL rt d pc L (.int (iI a) :: st) (lay μ) (lf em (if w32 a = 0 then F1 else F2)) := by
  rw [show lf em (if w32 a = 0 then F1 else F2) = if w32 a = 0 then lf em F1 else lf em F2 by split <;> rfl]
  exact J_if_ne hd ht kt kf
theorem T_if_ne_same {a : Int} {off : Int} {tgt : Nat} (hd : decode cc pc = .ok (.ifCond .ne off, 3)) (ht : (pc : Int) + off = (tgt : Int)) (kt : ¬ w32 a = 0 → qJ l G y cc mL rt d tgt L st (lay μ) (lf em F)) (kf : w32 a = 0 → qJ l G y cc mL rt d (pc + 3) L st (lay μ) (lf em F)) : qJ l G y cc mL rt d pc L (.int (iI a) :: st) (lay μ) (lf em F) := by
  have h := T_if_ne hd ht kt kf
  rw [ite_self] at h
  exact h
theorem T_if_lt {a : Int} {off : Int} {tgt : Nat} (hd : decode cc pc = .ok (.ifCond .lt off, 3)) (ht : (pc : Int) + off = (tgt : Int)) (kt : w32 a < 0 → qJ l G y cc mL rt d tgt L st (lay μ) (lf em F1)) (kf : ¬ w32 a < 0 → qJ l G y cc mL rt d (pc + 3) L st (lay μ) (lf em F2)) : qJ l G y cc mL rt d pc L (.int (iI a) :: st) (lay μ) (lf em (if w32 a < 0 then F1 else F2)) := by
  rw [show lf em (if w32 a < 0 then F1 else F2) = if w32 a < 0 then lf em F1 else lf em F2 by split <;> rfl]
  exact J_if_lt hd ht kt kf
theorem T_if_lt_same {a : Int} {off : Int} {tgt : Nat} (hd : decode cc pc = .ok (.ifCond .lt off, 3)) (ht : (pc : Int) + off = (tgt : Int)) (kt : w32 a < 0 → qJ l G y cc mL rt d tgt L st (lay μ) (lf em F)) (kf : ¬ w32 a < 0 → qJ l G y cc mL rt d (pc + 3) L st (lay μ) (lf em F)) : qJ l G y cc mL rt d pc L (.int (iI a) :: st) (lay μ) (lf em F) := by
  have h := T_if_lt hd ht kt kf
  rw [ite_self] at h
  exact h
theorem T_if_ge {a : Int} {off : Int} {tgt : Nat} (hd : decode cc pc = .ok (.ifCond .ge off, 3)) (ht : (pc : Int) + off = (tgt : Int)) (kt : ¬ w32 a < 0 → qJ l G y cc mL rt d tgt L st (lay μ) (lf em F2)) (kf : w32 a < 0 → qJ l G y cc mL rt d (pc + 3) L st (lay μ) (lf em F1)) : qJ l G y cc mL rt d pc L (.int (iI a) :: st) (lay μ) (lf em (if w32 a < 0 then F1 else F2)) := by
  rw [show lf em (if w32 a < 0 then F1 else F2) = if w32 a < 0 then lf em F1 else lf em F2 by split <;> rfl]
  exact J_if_ge hd ht kt kf
theorem T_if_ge_same {a : Int} {off : Int} {tgt : Nat} (hd : decode cc pc = .ok (.ifCond .ge off, 3)) (ht : (pc : Int) + off = (tgt : Int)) (kt : ¬ w32 a < 0 → qJ l G y cc mL rt d tgt L st (lay μ) (lf em F)) (kf : w32 a < 0 → qJ l G y cc mL rt d (pc + 3) L st (lay μ) (lf em F)) : qJ l G y cc mL rt d pc L (.int (iI a) :: st) (lay μ) (lf em F) := by
  have h := T_if_ge hd ht kt kf
  rw [ite_self] at h
  exact h
theorem T_if_gt {a : Int} {off : Int} {tgt : Nat} (hd : decode cc pc = .ok (.ifCond .gt off, 3)) (ht : (pc : Int) + off = (tgt : Int)) (kt : 0 < w32 a → qJ l G y cc mL rt d tgt L st (lay μ) (lf em F1)) (kf : ¬ 0 < w32 a → qJ l G y cc mL rt d (pc + 3) L st (lay μ) (lf em F2)) : qJ l G y cc mL rt d pc L (.int (iI a) :: st) (lay μ) (lf em (if 0 < w32 a then F1 else F2)) := by
  rw [show lf em (if 0 < w32 a then F1 else F2) = if 0 < w32 a then lf em F1 else lf em F2 by split <;> rfl]
  exact J_if_gt hd ht kt kf
theorem T_if_gt_same {a : Int} {off : Int} {tgt : Nat} (hd : decode cc pc = .ok (.ifCond .gt off, 3)) (ht : (pc : Int) + off = (tgt : Int)) (kt : 0 < w32 a → qJ l G y cc mL rt d tgt L st (lay μ) (lf em F)) (kf : ¬ 0 < w32 a → qJ l G y cc mL rt d (pc + 3) L st (lay μ) (lf em F)) : qJ l G y cc mL rt d pc L (.int (iI a) :: st) (lay μ) (lf em F) := by
  have h := T_if_gt hd ht kt kf
  rw [ite_self] at h
  exact h
theorem T_if_le {a : Int} {off : Int} {tgt : Nat} (hd : decode cc pc = .ok (.ifCond .le off, 3)) (ht : (pc : Int) + off = (tgt : Int)) (kt : ¬ 0 < w32 a → qJ l G y cc mL rt d tgt L st (lay μ) (lf em F2)) (kf : 0 < w32 a → qJ l G y cc mL rt d (pc + 3) L st (lay μ) (lf em F1)) : qJ l G y cc mL rt d pc L (.int (iI a) :: st) (lay μ) (lf em (if 0 < w32 a then F1 else F2)) := by
  rw [show lf em (if 0 < w32 a then F1 else F2) = if 0 < w32 a then lf em F1 else lf em F2 by split <;> rfl]
  exact J_if_le hd ht kt kf
theorem T_if_le_same {a : Int} {off : Int} {tgt : Nat} (hd : decode cc pc = .ok (.ifCond .le off, 3)) (ht : (pc : Int) + off = (tgt : Int)) (kt : ¬ 0 < w32 a → qJ l G y cc mL rt d tgt L st (lay μ) (lf em F)) (kf : 0 < w32 a → qJ l G y cc mL rt d (pc + 3) L st (lay μ) (lf em F)) : qJ l G y cc mL rt d pc L (.int (iI a) :: st) (lay μ) (lf em F) := by
  have h := T_if_le hd ht kt kf
  rw [ite_self] at h
  exact h
theorem T_idiv {a b : Int} (hd : decode cc pc = .ok (.idiv, 1)) (kk : qJ l G y cc mL rt d (pc + 1) L (.int (iI (zdiv a b)) :: st) (lay μ) (lf em F)) : qJ l G y cc mL rt d pc L (.int (iI b) :: .int (iI a) :: st) (lay μ) (lf em (ckz b F)) := by
  unfold ckz
  rw [show lf em (if w32 b = 0 then none else F) = if w32 b = 0 then none else lf em F by split <;> rfl]
  exact J_idiv hd kk
theorem T_irem {a b : Int} (hd : decode cc pc = .ok (.irem, 1)) (kk : qJ l G y cc mL rt d (pc + 1) L (.int (iI (zrem a b)) :: st) (lay μ) (lf em F)) : qJ l G y cc mL rt d pc L (.int (iI b) :: .int (iI a) :: st) (lay μ) (lf em (ckz b F)) := by
  unfold ckz
  rw [show lf em (if w32 b = 0 then none else F) = if w32 b = 0 then none else lf em F by split <;> rfl]
  exact J_irem hd kk
theorem T_ldiv {a b : Int} (hd : decode cc pc = .ok (.ldiv, 1)) (kk : qJ l G y cc mL rt d (pc + 1) L (.long (iL (ydiv a b)) :: st) (lay μ) (lf em F)) : qJ l G y cc mL rt d pc L (.long (iL b) :: .long (iL a) :: st) (lay μ) (lf em (ckl b F)) := by
  unfold ckl
  rw [show lf em (if w64 b = 0 then none else F) = if w64 b = 0 then none else lf em F by split <;> rfl]
  exact J_ldiv hd kk
theorem T_lrem {a b : Int} (hd : decode cc pc = .ok (.lrem, 1)) (kk : qJ l G y cc mL rt d (pc + 1) L (.long (iL (yrem a b)) :: st) (lay μ) (lf em F)) : qJ l G y cc mL rt d pc L (.long (iL b) :: .long (iL a) :: st) (lay μ) (lf em (ckl b F)) := by
  unfold ckl
  rw [show lf em (if w64 b = 0 then none else F) = if w64 b = 0 then none else lf em F by split <;> rfl]
  exact J_lrem hd kk
theorem T_vlI {V : Int} {T : Int → Option (ρ × Mem)} (k : ∀ v, v = V → qJ l G y cc mL rt d pc L (.int (iI v) :: st) (lay μ) (lf em (T v))) : qJ l G y cc mL rt d pc L (.int (iI V) :: st) (lay μ) (lf em (vl V T)) := k V rfl
theorem T_vlL {V : Int} {T : Int → Option (ρ × Mem)} (k : ∀ v, v = V → qJ l G y cc mL rt d pc L (.long (iL v) :: st) (lay μ) (lf em (T v))) : qJ l G y cc mL rt d pc L (.long (iL V) :: st) (lay μ) (lf em (vl V T)) := k V rfl
theorem T_vl {V : Int} {T : Int → Option (ρ × Mem)} (k : ∀ v, v = V → qJ l G y cc mL rt d pc L st (lay μ) (lf em (T v))) : qJ l G y cc mL rt d pc L st (lay μ) (lf em (vl V T)) := k V rfl
theorem T_vm {M : Mem} {T : Mem → Option (ρ × Mem)} (k : ∀ m, m = M → qJ l G y cc mL rt d pc L st (lay m) (lf em (T m))) : qJ l G y cc mL rt d pc L st (lay M) (lf em (vm M T)) := k M rfl
theorem T_top {a v : Int} (h : v = a) (k : qJ l G y cc mL rt d pc L (.int (iI v) :: st) (lay μ) (lf em F)) : qJ l G y cc mL rt d pc L (.int (iI a) :: st) (lay μ) (lf em F) := h ▸ k
theorem T_dia {j : Nat} {v : Int} {L2 : List (Option Value)} {s2 : List Value} (k : qJ l G y cc mL rt d j L2 (.int (iI v) :: s2) (lay μ) (lf em F)) (h : qJ l G y cc mL rt d j L2 (.int (iI v) :: s2) (lay μ) (lf em F) → qJ l G y cc mL rt d pc L st (lay μ) (lf em F)) : qJ l G y cc mL rt d pc L st (lay μ) (lf em F) := h k
theorem T_jn {κ : Type} {K : κ} {body : κ → Option (ρ × Mem)} (P : κ → Prop) (hK : P K) (hb : ∀ k, P k → qJ l G y cc mL rt d pc L st (lay μ) (lf em (body k))) : qJ l G y cc mL rt d pc L st (lay μ) (lf em (jn K body)) := hb K hK
def dropL : List (Option Value) → List Bool → List (Option Value)
  | [], _ => []
  | _, [] => []
  | v :: vs, b :: bs => (if b = true then v else none) :: dropL vs bs
theorem dropL_sub : ∀ (L : List (Option Value)) (bs : List Bool) (i : Nat) (v : Value), (dropL L bs)[i]? = some (some v) → L[i]? = some (some v)
  | [], _, i, v, h => by simp [dropL] at h
  | _ :: _, [], i, v, h => by simp [dropL] at h
  | w :: ws, b :: bs, 0, v, h => by
    cases b with
    | true => simpa [dropL] using h
    | false => simp [dropL] at h
  | w :: ws, b :: bs, i + 1, v, h => by
    have h2 : (dropL ws bs)[i]? = some (some v) := by simpa [dropL] using h
    simpa using dropL_sub ws bs i v h2
theorem J_dropf {A : qH} {F : Option (Option Value × qH)} (fl : List Bool) (h : dropL L fl = L') (kk : qJ l G y cc mL rt d pc L' st A F) : qJ l G y cc mL rt d pc L st A F := by
  subst h
  exact J_drop (dropL_sub L fl) kk
theorem T_getI {ci k N idx j : Nat} {C : String} {T : u_T} {ks : List Nat} (hc : qcl[ci]? = some (C, T, N)) (hin : ∀ w ∈ u_ws C T N, w ∈ qws) (hk : k < N) (hw : Cond.fieldLink y.cls idx (T k).1 (T k).2.1 (T k).2.2.1 ∈ qws) (hj : j < qN) (hs : shp j = .inl (ci, ks)) (hq : ks[k]? = some 0) (hd : decode cc pc = .ok (.getfield idx, 3)) (kk : qJ l G y cc mL rt d (pc + 3) L (.int (iI (μ j k)) :: st) (lay μ) (lf em F)) : qJ l G y cc mL rt d pc L (.ref j :: st) (lay μ) (lf em F) :=
  J_getfield hc hin hk hw hd (by rw [lay_get hj, hs]; rfl) (by rw [List.getElem?_mapIdx, hq]; rfl) kk
theorem T_getL {ci k N idx j : Nat} {C : String} {T : u_T} {ks : List Nat} (hc : qcl[ci]? = some (C, T, N)) (hin : ∀ w ∈ u_ws C T N, w ∈ qws) (hk : k < N) (hw : Cond.fieldLink y.cls idx (T k).1 (T k).2.1 (T k).2.2.1 ∈ qws) (hj : j < qN) (hs : shp j = .inl (ci, ks)) (hq : ks[k]? = some 1) (hd : decode cc pc = .ok (.getfield idx, 3)) (kk : qJ l G y cc mL rt d (pc + 3) L (.long (iL (μ j k)) :: st) (lay μ) (lf em F)) : qJ l G y cc mL rt d pc L (.ref j :: st) (lay μ) (lf em F) :=
  J_getfield hc hin hk hw hd (by rw [lay_get hj, hs]; rfl) (by rw [List.getElem?_mapIdx, hq]; rfl) kk
theorem T_getR {ci k N idx j r : Nat} {C : String} {T : u_T} {ks : List Nat} (hc : qcl[ci]? = some (C, T, N)) (hin : ∀ w ∈ u_ws C T N, w ∈ qws) (hk : k < N) (hw : Cond.fieldLink y.cls idx (T k).1 (T k).2.1 (T k).2.2.1 ∈ qws) (hj : j < qN) (hs : shp j = .inl (ci, ks)) (hq : ks[k]? = some (r + 2)) (hd : decode cc pc = .ok (.getfield idx, 3)) (kk : qJ l G y cc mL rt d (pc + 3) L (.ref r :: st) (lay μ) (lf em F)) : qJ l G y cc mL rt d pc L (.ref j :: st) (lay μ) (lf em F) :=
  J_getfield hc hin hk hw hd (by rw [lay_get hj, hs]; rfl) (by rw [List.getElem?_mapIdx, hq]; rfl) kk
theorem T_putI {ci k N idx j : Nat} {C : String} {T : u_T} {ks : List Nat} {z : Int} (hc : qcl[ci]? = some (C, T, N)) (hin : ∀ w ∈ u_ws C T N, w ∈ qws) (hk : k < N) (hw : Cond.fieldLink y.cls idx (T k).1 (T k).2.1 (T k).2.2.1 ∈ qws) (ty0 : Nat → FieldType) (hty : ∀ k, k < N → parseFieldDescriptor (T k).2.2.1 = some (ty0 k)) (hnm : ∀ a, a < N → ∀ b, b < N → a ≠ b → (T a).2.1 ≠ (T b).2.1) (hfin : (T k).2.2.2 = false) (hft : ty0 k = .int) (hj : j < qN) (hs : shp j = .inl (ci, ks)) (hq : ks[k]? = some 0) (hd : decode cc pc = .ok (.putfield idx, 3)) (kk : qJ l G y cc mL rt d (pc + 3) L st (lay (wr μ j k z)) (lf em F)) : qJ l G y cc mL rt d pc L (.int (iI z) :: .ref j :: st) (lay μ) (lf em F) := by
  refine J_putfield (fs := ks.mapIdx (fun p q => mkv q (μ j p))) hc hin hk hw ty0 hty hnm hfin hd (by rw [lay_get hj, hs]; rfl) (by rw [List.length_mapIdx]; exact (List.getElem?_eq_some_iff.mp hq).1) (by rw [hft]; rfl) (by rw [hft]; rfl) ?_
  rw [lay_set (μ' := wr μ j k z) hj ?_ (fun i hi => wr_off hi)]
  · exact kk
  · rw [hs, wr_row]
    show Sum.inr _ = Sum.inr _
    rw [show Value.int (iI z) = mkv 0 z from rfl, mapIdx_put hq]
theorem T_putL {ci k N idx j : Nat} {C : String} {T : u_T} {ks : List Nat} {z : Int} (hc : qcl[ci]? = some (C, T, N)) (hin : ∀ w ∈ u_ws C T N, w ∈ qws) (hk : k < N) (hw : Cond.fieldLink y.cls idx (T k).1 (T k).2.1 (T k).2.2.1 ∈ qws) (ty0 : Nat → FieldType) (hty : ∀ k, k < N → parseFieldDescriptor (T k).2.2.1 = some (ty0 k)) (hnm : ∀ a, a < N → ∀ b, b < N → a ≠ b → (T a).2.1 ≠ (T b).2.1) (hfin : (T k).2.2.2 = false) (hft : ty0 k = .long) (hj : j < qN) (hs : shp j = .inl (ci, ks)) (hq : ks[k]? = some 1) (hd : decode cc pc = .ok (.putfield idx, 3)) (kk : qJ l G y cc mL rt d (pc + 3) L st (lay (wr μ j k z)) (lf em F)) : qJ l G y cc mL rt d pc L (.long (iL z) :: .ref j :: st) (lay μ) (lf em F) := by
  refine J_putfield (fs := ks.mapIdx (fun p q => mkv q (μ j p))) hc hin hk hw ty0 hty hnm hfin hd (by rw [lay_get hj, hs]; rfl) (by rw [List.length_mapIdx]; exact (List.getElem?_eq_some_iff.mp hq).1) (by rw [hft]; rfl) (by rw [hft]; rfl) ?_
  rw [lay_set (μ' := wr μ j k z) hj ?_ (fun i hi => wr_off hi)]
  · exact kk
  · rw [hs, wr_row]
    show Sum.inr _ = Sum.inr _
    rw [show Value.long (iL z) = mkv 1 z from rfl, mapIdx_put hq]
theorem T_iaload {j n : Nat} {a : Int} (hj : j < qN) (hs : shp j = .inr (.inl (0, n))) (hd : decode cc pc = .ok (.iaload, 1)) (kk : (0 ≤ w32 a ∧ w32 a < (n : Int)) → qJ l G y cc mL rt d (pc + 1) L (.int (iI (μ j (w32 a).toNat)) :: st) (lay μ) (lf em F)) : qJ l G y cc mL rt d pc L (.int (iI a) :: .ref j :: st) (lay μ) (lf em (ck a n F)) := by
  by_cases h : 0 ≤ w32 a ∧ w32 a < (n : Int)
  · rw [ck, if_pos h]
    exact J_iaload (f := fun i => iI (μ j i)) hd (by rw [lay_get hj, hs]; rfl) h rfl (kk h)
  · rw [ck, if_neg h]; exact T_none
theorem T_baload {j n : Nat} {a : Int} (hj : j < qN) (hs : shp j = .inr (.inl (1, n))) (hd : decode cc pc = .ok (.baload, 1)) (kk : (0 ≤ w32 a ∧ w32 a < (n : Int)) → qJ l G y cc mL rt d (pc + 1) L (.int (iI (μ j (w32 a).toNat)) :: st) (lay μ) (lf em F)) : qJ l G y cc mL rt d pc L (.int (iI a) :: .ref j :: st) (lay μ) (lf em (ck a n F)) := by
  by_cases h : 0 ≤ w32 a ∧ w32 a < (n : Int)
  · rw [ck, if_pos h]
    exact J_baload (f := fun i => iI (μ j i)) hd (by rw [lay_get hj, hs]; rfl) h rfl (kk h)
  · rw [ck, if_neg h]; exact T_none
theorem T_letters {a : Int} (hd : decode cc pc = .ok (.iaload, 1)) (kk : (0 ≤ w32 a ∧ w32 a < 6) → qJ l G y cc mL rt d (pc + 1) L (.int (iI (letZ (w32 a).toNat)) :: st) (lay μ) (lf em F)) : qJ l G y cc mL rt d pc L (.int (iI a) :: .retAddr 1 :: st) (lay μ) (lf em (ck a 6 F)) := by
  by_cases h : 0 ≤ w32 a ∧ w32 a < ((6 : Nat) : Int)
  · rw [ck, if_pos h]
    exact J_roload (j := 1) hd (by decide) h rfl (kk h)
  · rw [ck, if_neg h]; exact T_none
theorem T_above {a : Int} (hd : decode cc pc = .ok (.iaload, 1)) (kk : (0 ≤ w32 a ∧ w32 a < 6) → qJ l G y cc mL rt d (pc + 1) L (.int (iI (abvZ (w32 a).toNat)) :: st) (lay μ) (lf em F)) : qJ l G y cc mL rt d pc L (.int (iI a) :: .retAddr 2 :: st) (lay μ) (lf em (ck a 6 F)) := by
  by_cases h : 0 ≤ w32 a ∧ w32 a < ((6 : Nat) : Int)
  · rw [ck, if_pos h]
    exact J_roload (j := 2) hd (by decide) h rfl (kk h)
  · rw [ck, if_neg h]; exact T_none
theorem T_script {a : Int} (hd : decode cc pc = .ok (.iaload, 1)) (kk : (0 ≤ w32 a ∧ w32 a < ((G.2.2.1 0).1 : Int)) → qJ l G y cc mL rt d (pc + 1) L (.int (iI ((G.2.2.1 0).2 (w32 a).toNat).toInt) :: st) (lay μ) (lf em F)) : qJ l G y cc mL rt d pc L (.int (iI a) :: .retAddr 0 :: st) (lay μ) (lf em (ck a (G.2.2.1 0).1 F)) := by
  by_cases h : 0 ≤ w32 a ∧ w32 a < ((G.2.2.1 0).1 : Int)
  · rw [ck, if_pos h]
    exact J_roload (j := 0) hd (by decide) h (iI_w _).symm (kk h)
  · rw [ck, if_neg h]; exact T_none
theorem T_scriptlen (hd : decode cc pc = .ok (.arraylength, 1)) (kk : qJ l G y cc mL rt d (pc + 1) L (.int (iI ((G.2.2.1 0).1 : Int)) :: st) (lay μ) (lf em F)) : qJ l G y cc mL rt d pc L (.retAddr 0 :: st) (lay μ) (lf em F) :=
  J_rolen (j := 0) hd (by decide) (by show Int32.ofNat _ = Int32.ofInt _; rw [Int32.ofInt_eq_ofNat]; rfl) kk
theorem T_alen {j t n : Nat} {ty : FieldType} (hj : j < qN) (hs : shp j = .inr (.inl (t, n))) (ht : (qty G)[t]? = some (G.2.2.2.2 t, ty)) (hd : decode cc pc = .ok (.arraylength, 1)) (kk : qJ l G y cc mL rt d (pc + 1) L (.int (iI (n : Int)) :: st) (lay μ) (lf em F)) : qJ l G y cc mL rt d pc L (.ref j :: st) (lay μ) (lf em F) :=
  J_alen (x := .inl (fun i => iI (μ j i))) hd (by rw [lay_get hj, hs]; rfl) ht (by show Int32.ofNat _ = Int32.ofInt _; rw [Int32.ofInt_eq_ofNat]) kk
theorem T_aaload {j t n b s : Nat} {C : String} {a : Int} (hj : j < qN) (hs : shp j = .inr (.inr (t, n, b, s))) (ht : (qty G)[t]? = some (G.2.2.2.2 t, .object C)) (hd : decode cc pc = .ok (.aaload, 1)) (kk : (0 ≤ w32 a ∧ w32 a < (n : Int)) → qJ l G y cc mL rt d (pc + 1) L (.ref (b + s * (w32 a).toNat) :: st) (lay μ) (lf em F)) : qJ l G y cc mL rt d pc L (.int (iI a) :: .ref j :: st) (lay μ) (lf em (ck a n F)) := by
  by_cases h : 0 ≤ w32 a ∧ w32 a < (n : Int)
  · rw [ck, if_pos h]
    exact J_aaload (f := fun i => some (b + s * i)) hd (by rw [lay_get hj, hs]; rfl) ht h rfl (kk h)
  · rw [ck, if_neg h]; exact T_none
theorem upd_iI (f : Nat → Int) (k : Nat) (z : Int) : upd (fun i => iI (f i)) k (iI z) = fun i => iI (if i = k then z else f i) := by
  funext i
  by_cases h : i = k <;> simp [upd, h]
theorem T_iastore {j n : Nat} {a z : Int} (hj : j < qN) (hs : shp j = .inr (.inl (0, n))) (hd : decode cc pc = .ok (.iastore, 1)) (kk : (0 ≤ w32 a ∧ w32 a < (n : Int)) → qJ l G y cc mL rt d (pc + 1) L st (lay (wr μ j (w32 a).toNat z)) (lf em F)) : qJ l G y cc mL rt d pc L (.int (iI z) :: .int (iI a) :: .ref j :: st) (lay μ) (lf em (ck a n F)) := by
  by_cases h : 0 ≤ w32 a ∧ w32 a < (n : Int)
  · rw [ck, if_pos h]
    refine J_iastore (f := fun i => iI (μ j i)) hd (by rw [lay_get hj, hs]; rfl) h ?_
    rw [lay_set (μ' := wr μ j (w32 a).toNat z) hj ?_ (fun i hi => wr_off hi)]
    · exact kk h
    · rw [hs, wr_row, upd_iI]; rfl
  · rw [ck, if_neg h]; exact T_none
theorem T_bastore {j n : Nat} {a z : Int} (hj : j < qN) (hs : shp j = .inr (.inl (1, n))) (hd : decode cc pc = .ok (.bastore, 1)) (kk : (0 ≤ w32 a ∧ w32 a < (n : Int)) → qJ l G y cc mL rt d (pc + 1) L st (lay (wr μ j (w32 a).toNat (zi2b z))) (lf em F)) : qJ l G y cc mL rt d pc L (.int (iI z) :: .int (iI a) :: .ref j :: st) (lay μ) (lf em (ck a n F)) := by
  by_cases h : 0 ≤ w32 a ∧ w32 a < (n : Int)
  · rw [ck, if_pos h]
    refine J_bastore (f := fun i => iI (μ j i)) (Nat.le_of_eq lay_len.symm) hd (by rw [lay_get hj, hs]; rfl) h ?_
    rw [lay_set (μ' := wr μ j (w32 a).toNat (zi2b z)) hj ?_ (fun i hi => wr_off hi)]
    · exact kk h
    · rw [hs, wr_row, upd_iI]; rfl
  · rw [ck, if_neg h]; exact T_none
theorem T_copy {idx j j' n n' : Nat} {sp dp m : Int} (hd1 : 1 ≤ d) (hw : Cond.methodLink y.cls idx arraycopyName ∈ qws) (hst : (st.map Value.category).sum ≤ 8) (hj : j < qN) (hs : shp j = .inr (.inl (0, n))) (hj' : j' < qN) (hs' : shp j' = .inr (.inl (0, n'))) (hd : decode cc pc = .ok (.invokestatic idx, 3)) (kk : qJ l G y cc mL rt d (pc + 3) L st (lay (cpy μ j j' (w32 sp).toNat (w32 dp).toNat (w32 m).toNat)) (lf em F)) : qJ l G y cc mL rt d pc L (.int (iI m) :: .int (iI dp) :: .ref j' :: .int (iI sp) :: .ref j :: st) (lay μ) (lf em (ckc sp dp m n n' F)) := by
  unfold ckc
  split
  · next h =>
    obtain ⟨h1, h2, h3, h4, h5⟩ := h
    refine J_copy (f := fun i => iI (μ j i)) (f' := fun i => iI (μ j' i)) (Nat.le_of_eq lay_len.symm) hd1 hw hst hd (by rw [lay_get hj, hs]; rfl) (by rw [lay_get hj', hs']; rfl) h1 h2 h3 h4 h5 ?_
    rw [lay_set (μ' := cpy μ j j' (w32 sp).toNat (w32 dp).toNat (w32 m).toNat) hj' ?_ ?_]
    · exact kk
    · rw [hs']
      show Sum.inl _ = Sum.inl _
      congr 3
      show Sum.inl _ = Sum.inl _
      congr 1
      funext q
      unfold va_cpy cpy
      by_cases hq : (w32 dp).toNat ≤ q ∧ q < (w32 dp).toNat + (w32 m).toNat
      · rw [if_pos hq, if_pos ⟨rfl, hq⟩]
      · rw [if_neg hq, if_neg (fun z => hq z.2)]
    · intro i hi
      funext q
      simp [cpy, hi]
  · exact T_none
theorem nb {v : Int} (h : v = 0 ∨ v = 1) : narrow .boolean (.int (iI v)) = .int (iI v) := by rcases h with rfl | rfl <;> decide +kernel
theorem T_retI {x : Int} (hr : rt = some .int) (hd : decode cc pc = .ok (.ireturn, 1)) : qJ l G y cc mL rt d pc L [.int (iI x)] (lay μ) (lf eI (some (x, μ))) := J_ret (r := some (.int (iI x))) hd (Or.inl ⟨rfl, iI x, .int, rfl, hr, rfl⟩) rfl
theorem T_retZ {x : Int} (hr : rt = some .boolean) (hx : x = 0 ∨ x = 1) (hd : decode cc pc = .ok (.ireturn, 1)) : qJ l G y cc mL rt d pc L [.int (iI x)] (lay μ) (lf eI (some (x, μ))) := J_ret (r := some (.int (iI x))) hd (Or.inl ⟨rfl, iI x, .boolean, rfl, hr, nb hx⟩) rfl
theorem T_retB {x : Int} (hr : rt = some .boolean) (hd : decode cc pc = .ok (.ireturn, 1)) : qJ l G y cc mL rt d pc L [.int (iI x)] (lay μ) (lf eI (ckb x (some (x, μ)))) := by
  unfold ckb
  split
  · next h => exact T_retZ hr h hd
  · exact T_none
theorem T_retL {x : Int} (hr : rt = some .long) (hd : decode cc pc = .ok (.lreturn, 1)) : qJ l G y cc mL rt d pc L [.long (iL x)] (lay μ) (lf eL (some (x, μ))) := J_ret (r := some (.long (iL x))) hd (Or.inr (Or.inl ⟨rfl, hr, iL x, rfl⟩)) rfl
theorem T_retV (hr : rt = none) (hd : decode cc pc = .ok (.return_, 1)) : qJ l G y cc mL rt d pc L [] (lay μ) (lf eU (some ((), μ))) := J_ret (r := none) hd (Or.inr (Or.inr ⟨rfl, hr, rfl⟩)) rfl
def okV (y' : MethodName) (cc' : ByteArray) (mL' : Nat) (rt' : Option FieldType) (n : Nat) : Prop := Cond.instanceMethod y' ∈ qws ∧ Cond.selects y'.cls y' y' ∈ qws ∧ Cond.initialized y'.cls ∈ qws ∧ Cond.code y' cc' mL' rt' ∈ qws ∧ mL' ≤ 45 ∧ (y'.cls ≠ "java/lang/invoke/MethodHandle" ∧ y'.cls ≠ "java/lang/invoke/VarHandle" ∧ (parseMethodDescriptor y'.desc).map (fun d => d.parameters.length) = some n)
def okT (y' : MethodName) (cc' : ByteArray) (mL' : Nat) (rt' : Option FieldType) (n : Nat) : Prop := Cond.static y' ∈ qws ∧ Cond.initialized y'.cls ∈ qws ∧ Cond.code y' cc' mL' rt' ∈ qws ∧ mL' ≤ 45 ∧ (y'.cls ≠ "java/lang/invoke/MethodHandle" ∧ y'.cls ≠ "java/lang/invoke/VarHandle" ∧ (parseMethodDescriptor y'.desc).map (fun d => d.parameters.length) = some n)
theorem T_callVI {y' : MethodName} {cc' : ByteArray} {mL' d' idx k ci : Nat} {rt' : Option FieldType} {As : List Value} {ks : List Nat} {fc : Option (Int × Mem)} {K : Int → Mem → Option (ρ × Mem)} (ok : okV y' cc' mL' rt' As.length) (hw : Cond.methodLink y.cls idx y' ∈ qws) (hd : decode cc pc = .ok (.invokevirtual idx, 3)) (hk : k < qN) (hs : shp k = .inl (ci, ks)) (hq : (qcl[ci]?).map (fun q => q.1) = some y'.cls) (hdep : d' < d) (hst : (st.map Value.category).sum ≤ 8) (hM : qM l G d' y' cc' mL' rt' (.ref k :: As) (lay μ) (lf eI fc)) (kk : ∀ (x : Int) (m : Mem), fc = some (x, m) → qJ l G y cc mL rt d (pc + 3) L (.int (iI x) :: st) (lay m) (lf em (K x m))) : qJ l G y cc mL rt d pc L (As.reverse ++ .ref k :: st) (lay μ) (lf em (bd fc K)) := by
  have hne : lf eI fc = none → lf em (bd fc K) = none := by
    intro h
    cases hf : fc with
    | none => rfl
    | some q => rw [hf] at h; cases h
  have hkk : ∀ r A1, lf eI fc = some (r, A1) → qJ l G y cc mL rt d (pc + 3) L (r.toList ++ st) A1 (lf em (bd fc K)) := by
    intro r A1 h
    cases hf : fc with
    | none => rw [hf] at h; cases h
    | some q =>
      obtain ⟨x, m⟩ := q
      rw [hf] at h
      cases h
      exact kk x m hf
  obtain ⟨h1, h2, h3, h4, h5, h6⟩ := ok
  cases hc : qcl[ci]? with
  | none => rw [hc] at hq; cases hq
  | some q =>
    rw [hc] at hq
    exact J_callV h1 h2 h3 h4 h5 h6 hw hd hc (Option.some.inj hq) (by rw [lay_get hk, hs]; rfl) hdep hst hM hne hkk
theorem T_callSI {y' : MethodName} {cc' : ByteArray} {mL' d' idx : Nat} {rt' : Option FieldType} {As : List Value} {fc : Option (Int × Mem)} {K : Int → Mem → Option (ρ × Mem)} (ok : okT y' cc' mL' rt' As.length) (hw : Cond.methodLink y.cls idx y' ∈ qws) (hd : decode cc pc = .ok (.invokestatic idx, 3)) (hdep : d' < d) (hst : (st.map Value.category).sum ≤ 8) (hM : qM l G d' y' cc' mL' rt' As (lay μ) (lf eI fc)) (kk : ∀ (x : Int) (m : Mem), fc = some (x, m) → qJ l G y cc mL rt d (pc + 3) L (.int (iI x) :: st) (lay m) (lf em (K x m))) : qJ l G y cc mL rt d pc L (As.reverse ++ st) (lay μ) (lf em (bd fc K)) := by
  have hne : lf eI fc = none → lf em (bd fc K) = none := by
    intro h
    cases hf : fc with
    | none => rfl
    | some q => rw [hf] at h; cases h
  have hkk : ∀ r A1, lf eI fc = some (r, A1) → qJ l G y cc mL rt d (pc + 3) L (r.toList ++ st) A1 (lf em (bd fc K)) := by
    intro r A1 h
    cases hf : fc with
    | none => rw [hf] at h; cases h
    | some q =>
      obtain ⟨x, m⟩ := q
      rw [hf] at h
      cases h
      exact kk x m hf
  obtain ⟨h1, h3, h4, h5, h6⟩ := ok
  exact J_callS h1 h3 h4 h5 h6 hw hd hdep hst hM hne hkk
theorem T_callVL {y' : MethodName} {cc' : ByteArray} {mL' d' idx k ci : Nat} {rt' : Option FieldType} {As : List Value} {ks : List Nat} {fc : Option (Int × Mem)} {K : Int → Mem → Option (ρ × Mem)} (ok : okV y' cc' mL' rt' As.length) (hw : Cond.methodLink y.cls idx y' ∈ qws) (hd : decode cc pc = .ok (.invokevirtual idx, 3)) (hk : k < qN) (hs : shp k = .inl (ci, ks)) (hq : (qcl[ci]?).map (fun q => q.1) = some y'.cls) (hdep : d' < d) (hst : (st.map Value.category).sum ≤ 8) (hM : qM l G d' y' cc' mL' rt' (.ref k :: As) (lay μ) (lf eL fc)) (kk : ∀ (x : Int) (m : Mem), fc = some (x, m) → qJ l G y cc mL rt d (pc + 3) L (.long (iL x) :: st) (lay m) (lf em (K x m))) : qJ l G y cc mL rt d pc L (As.reverse ++ .ref k :: st) (lay μ) (lf em (bd fc K)) := by
  have hne : lf eL fc = none → lf em (bd fc K) = none := by
    intro h
    cases hf : fc with
    | none => rfl
    | some q => rw [hf] at h; cases h
  have hkk : ∀ r A1, lf eL fc = some (r, A1) → qJ l G y cc mL rt d (pc + 3) L (r.toList ++ st) A1 (lf em (bd fc K)) := by
    intro r A1 h
    cases hf : fc with
    | none => rw [hf] at h; cases h
    | some q =>
      obtain ⟨x, m⟩ := q
      rw [hf] at h
      cases h
      exact kk x m hf
  obtain ⟨h1, h2, h3, h4, h5, h6⟩ := ok
  cases hc : qcl[ci]? with
  | none => rw [hc] at hq; cases hq
  | some q =>
    rw [hc] at hq
    exact J_callV h1 h2 h3 h4 h5 h6 hw hd hc (Option.some.inj hq) (by rw [lay_get hk, hs]; rfl) hdep hst hM hne hkk
theorem T_callSL {y' : MethodName} {cc' : ByteArray} {mL' d' idx : Nat} {rt' : Option FieldType} {As : List Value} {fc : Option (Int × Mem)} {K : Int → Mem → Option (ρ × Mem)} (ok : okT y' cc' mL' rt' As.length) (hw : Cond.methodLink y.cls idx y' ∈ qws) (hd : decode cc pc = .ok (.invokestatic idx, 3)) (hdep : d' < d) (hst : (st.map Value.category).sum ≤ 8) (hM : qM l G d' y' cc' mL' rt' As (lay μ) (lf eL fc)) (kk : ∀ (x : Int) (m : Mem), fc = some (x, m) → qJ l G y cc mL rt d (pc + 3) L (.long (iL x) :: st) (lay m) (lf em (K x m))) : qJ l G y cc mL rt d pc L (As.reverse ++ st) (lay μ) (lf em (bd fc K)) := by
  have hne : lf eL fc = none → lf em (bd fc K) = none := by
    intro h
    cases hf : fc with
    | none => rfl
    | some q => rw [hf] at h; cases h
  have hkk : ∀ r A1, lf eL fc = some (r, A1) → qJ l G y cc mL rt d (pc + 3) L (r.toList ++ st) A1 (lf em (bd fc K)) := by
    intro r A1 h
    cases hf : fc with
    | none => rw [hf] at h; cases h
    | some q =>
      obtain ⟨x, m⟩ := q
      rw [hf] at h
      cases h
      exact kk x m hf
  obtain ⟨h1, h3, h4, h5, h6⟩ := ok
  exact J_callS h1 h3 h4 h5 h6 hw hd hdep hst hM hne hkk
theorem T_callVU {y' : MethodName} {cc' : ByteArray} {mL' d' idx k ci : Nat} {rt' : Option FieldType} {As : List Value} {ks : List Nat} {fc : Option (Unit × Mem)} {K : Unit → Mem → Option (ρ × Mem)} (ok : okV y' cc' mL' rt' As.length) (hw : Cond.methodLink y.cls idx y' ∈ qws) (hd : decode cc pc = .ok (.invokevirtual idx, 3)) (hk : k < qN) (hs : shp k = .inl (ci, ks)) (hq : (qcl[ci]?).map (fun q => q.1) = some y'.cls) (hdep : d' < d) (hst : (st.map Value.category).sum ≤ 8) (hM : qM l G d' y' cc' mL' rt' (.ref k :: As) (lay μ) (lf eU fc)) (kk : ∀ (x : Unit) (m : Mem), fc = some (x, m) → qJ l G y cc mL rt d (pc + 3) L st (lay m) (lf em (K x m))) : qJ l G y cc mL rt d pc L (As.reverse ++ .ref k :: st) (lay μ) (lf em (bd fc K)) := by
  have hne : lf eU fc = none → lf em (bd fc K) = none := by
    intro h
    cases hf : fc with
    | none => rfl
    | some q => rw [hf] at h; cases h
  have hkk : ∀ r A1, lf eU fc = some (r, A1) → qJ l G y cc mL rt d (pc + 3) L (r.toList ++ st) A1 (lf em (bd fc K)) := by
    intro r A1 h
    cases hf : fc with
    | none => rw [hf] at h; cases h
    | some q =>
      obtain ⟨x, m⟩ := q
      rw [hf] at h
      cases h
      exact kk x m hf
  obtain ⟨h1, h2, h3, h4, h5, h6⟩ := ok
  cases hc : qcl[ci]? with
  | none => rw [hc] at hq; cases hq
  | some q =>
    rw [hc] at hq
    exact J_callV h1 h2 h3 h4 h5 h6 hw hd hc (Option.some.inj hq) (by rw [lay_get hk, hs]; rfl) hdep hst hM hne hkk
theorem T_callSU {y' : MethodName} {cc' : ByteArray} {mL' d' idx : Nat} {rt' : Option FieldType} {As : List Value} {fc : Option (Unit × Mem)} {K : Unit → Mem → Option (ρ × Mem)} (ok : okT y' cc' mL' rt' As.length) (hw : Cond.methodLink y.cls idx y' ∈ qws) (hd : decode cc pc = .ok (.invokestatic idx, 3)) (hdep : d' < d) (hst : (st.map Value.category).sum ≤ 8) (hM : qM l G d' y' cc' mL' rt' As (lay μ) (lf eU fc)) (kk : ∀ (x : Unit) (m : Mem), fc = some (x, m) → qJ l G y cc mL rt d (pc + 3) L st (lay m) (lf em (K x m))) : qJ l G y cc mL rt d pc L (As.reverse ++ st) (lay μ) (lf em (bd fc K)) := by
  have hne : lf eU fc = none → lf em (bd fc K) = none := by
    intro h
    cases hf : fc with
    | none => rfl
    | some q => rw [hf] at h; cases h
  have hkk : ∀ r A1, lf eU fc = some (r, A1) → qJ l G y cc mL rt d (pc + 3) L (r.toList ++ st) A1 (lf em (bd fc K)) := by
    intro r A1 h
    cases hf : fc with
    | none => rw [hf] at h; cases h
    | some q =>
      obtain ⟨x, m⟩ := q
      rw [hf] at h
      cases h
      exact kk x m hf
  obtain ⟨h1, h3, h4, h5, h6⟩ := ok
  exact J_callS h1 h3 h4 h5 h6 hw hd hdep hst hM hne hkk
end JT
def oRow (t : Nat) : Prop := t = 38 ∨ t = 40 ∨ t = 42 ∨ t = 44 ∨ t = 46 ∨ t = 48
theorem oRow_o {t : Nat} (h : oRow t) : shp t = .inl (5, [t + 1 + 2, 0]) := by rcases h with rfl | rfl | rfl | rfl | rfl | rfl <;> rfl
theorem oRow_l {t : Nat} (h : oRow t) : t < qN := by rcases h with rfl | rfl | rfl | rfl | rfl | rfl <;> decide
theorem oRow_a1 {t : Nat} (h : oRow t) : shp (t + 1) = .inr (.inl (0, 40)) := by rcases h with rfl | rfl | rfl | rfl | rfl | rfl <;> rfl
theorem oRow_l1 {t : Nat} (h : oRow t) : t + 1 < qN := by rcases h with rfl | rfl | rfl | rfl | rfl | rfl <;> decide
def oText (t : Nat) : Prop := t = 50 ∨ t = 52 ∨ t = 54 ∨ t = 56
theorem oText_o {t : Nat} (h : oText t) : shp t = .inl (7, [t + 1 + 2, 0]) := by rcases h with rfl | rfl | rfl | rfl <;> rfl
theorem oText_l {t : Nat} (h : oText t) : t < qN := by rcases h with rfl | rfl | rfl | rfl <;> decide
theorem oText_a1 {t : Nat} (h : oText t) : shp (t + 1) = .inr (.inl (1, 60)) := by rcases h with rfl | rfl | rfl | rfl <;> rfl
theorem oText_l1 {t : Nat} (h : oText t) : t + 1 < qN := by rcases h with rfl | rfl | rfl | rfl <;> decide
def oDay (t : Nat) : Prop := t = 13 ∨ t = 20 ∨ t = 26 ∨ t = 28 ∨ t = 30 ∨ t = 33
theorem oDay_o {t : Nat} (h : oDay t) : shp t = .inl (1, [t + 1 + 2, 0, 0, 0, 0]) := by rcases h with rfl | rfl | rfl | rfl | rfl | rfl <;> rfl
theorem oDay_l {t : Nat} (h : oDay t) : t < qN := by rcases h with rfl | rfl | rfl | rfl | rfl | rfl <;> decide
theorem oDay_a1 {t : Nat} (h : oDay t) : shp (t + 1) = .inr (.inl (0, 16)) := by rcases h with rfl | rfl | rfl | rfl | rfl | rfl <;> rfl
theorem oDay_l1 {t : Nat} (h : oDay t) : t + 1 < qN := by rcases h with rfl | rfl | rfl | rfl | rfl | rfl <;> decide
def oDiary (t : Nat) : Prop := t = 15 ∨ t = 58 ∨ t = 61 ∨ t = 64
theorem oDiary_o {t : Nat} (h : oDiary t) : shp t = .inl (2, [t + 1 + 2, t + 2 + 2, 0]) := by rcases h with rfl | rfl | rfl | rfl <;> rfl
theorem oDiary_l {t : Nat} (h : oDiary t) : t < qN := by rcases h with rfl | rfl | rfl | rfl <;> decide
theorem oDiary_a1 {t : Nat} (h : oDiary t) : shp (t + 1) = .inr (.inl (0, 976)) := by rcases h with rfl | rfl | rfl | rfl <;> rfl
theorem oDiary_l1 {t : Nat} (h : oDiary t) : t + 1 < qN := by rcases h with rfl | rfl | rfl | rfl <;> decide
theorem oDiary_a2 {t : Nat} (h : oDiary t) : shp (t + 2) = .inr (.inl (0, 4)) := by rcases h with rfl | rfl | rfl | rfl <;> rfl
theorem oDiary_l2 {t : Nat} (h : oDiary t) : t + 2 < qN := by rcases h with rfl | rfl | rfl | rfl <;> decide
theorem oRow_e {a : Int} (h : 0 ≤ w32 a ∧ w32 a < 6) : oRow (38 + 2 * (w32 a).toNat) := by
  unfold oRow
  omega
theorem oText_e {a : Int} (h : 0 ≤ w32 a ∧ w32 a < 4) : oText (50 + 2 * (w32 a).toNat) := by
  unfold oText
  omega
theorem oDiary_e {a : Int} (h : 0 ≤ w32 a ∧ w32 a < 3) : oDiary (58 + 3 * (w32 a).toNat) := by
  unfold oDiary
  omega
theorem oDay_e {a : Int} (h : 0 ≤ w32 a ∧ w32 a < 3) : oDay (26 + 2 * (w32 a).toNat) := by
  unfold oDay
  omega
end
section
section PL
variable {l : Launch} {G : qG} {y : MethodName} {cc : ByteArray} {mL d : Nat} {rt : Option FieldType} {pc : Nat} {L : List (Option Value)} {st : List Value} {μ : Mem} {ρ : Type} {em : ρ → Option Value} {F : Option (ρ × Mem)}
theorem tg_X4_9 (hy : y.cls = RX4) (hd : decode cc pc = .ok (.getfield 9, 3)) (kk : qJ l G y cc mL rt d (pc + 3) L (.ref 4 :: st) (lay μ) (lf em F)) : qJ l G y cc mL rt d pc L (.ref 3 :: st) (lay μ) (lf em F) := T_getR (ci := 4) (k := 0) rfl inX4 (by decide) (by rw [hy]; exact lf_X4_9) (by decide) rfl rfl hd kk
theorem tg_X1_39 (hy : y.cls = RX1) (hd : decode cc pc = .ok (.getfield 39, 3)) (kk : qJ l G y cc mL rt d (pc + 3) L (.ref 4 :: st) (lay μ) (lf em F)) : qJ l G y cc mL rt d pc L (.ref 3 :: st) (lay μ) (lf em F) := T_getR (ci := 4) (k := 0) rfl inX4 (by decide) (by rw [hy]; exact lf_X1_39) (by decide) rfl rfl hd kk
theorem tg_X8_47 (hy : y.cls = RX8) (hd : decode cc pc = .ok (.getfield 47, 3)) (kk : qJ l G y cc mL rt d (pc + 3) L (.ref 4 :: st) (lay μ) (lf em F)) : qJ l G y cc mL rt d pc L (.ref 3 :: st) (lay μ) (lf em F) := T_getR (ci := 4) (k := 0) rfl inX4 (by decide) (by rw [hy]; exact lf_X8_47) (by decide) rfl rfl hd kk
theorem tg_X4_15 (hy : y.cls = RX4) (hd : decode cc pc = .ok (.getfield 15, 3)) (kk : qJ l G y cc mL rt d (pc + 3) L (.ref 5 :: st) (lay μ) (lf em F)) : qJ l G y cc mL rt d pc L (.ref 3 :: st) (lay μ) (lf em F) := T_getR (ci := 4) (k := 1) rfl inX4 (by decide) (by rw [hy]; exact lf_X4_15) (by decide) rfl rfl hd kk
theorem tg_X8_53 (hy : y.cls = RX8) (hd : decode cc pc = .ok (.getfield 53, 3)) (kk : qJ l G y cc mL rt d (pc + 3) L (.ref 5 :: st) (lay μ) (lf em F)) : qJ l G y cc mL rt d pc L (.ref 3 :: st) (lay μ) (lf em F) := T_getR (ci := 4) (k := 1) rfl inX4 (by decide) (by rw [hy]; exact lf_X8_53) (by decide) rfl rfl hd kk
theorem tg_X4_18 (hy : y.cls = RX4) (hd : decode cc pc = .ok (.getfield 18, 3)) (kk : qJ l G y cc mL rt d (pc + 3) L (.int (iI (μ 3 2)) :: st) (lay μ) (lf em F)) : qJ l G y cc mL rt d pc L (.ref 3 :: st) (lay μ) (lf em F) := T_getI (ci := 4) (k := 2) rfl inX4 (by decide) (by rw [hy]; exact lf_X4_18) (by decide) rfl rfl hd kk
theorem tp_X4_18 {z : Int} (hy : y.cls = RX4) (hd : decode cc pc = .ok (.putfield 18, 3)) (kk : qJ l G y cc mL rt d (pc + 3) L st (lay (wr μ 3 2 z)) (lf em F)) : qJ l G y cc mL rt d pc L (.int (iI z) :: .ref 3 :: st) (lay μ) (lf em F) := T_putI (ci := 4) (k := 2) rfl inX4 (by decide) (by rw [hy]; exact lf_X4_18) tyX4 tyX4_ok nmX4 rfl rfl (by decide) rfl rfl hd kk
theorem tg_X8_37 (hy : y.cls = RX8) (hd : decode cc pc = .ok (.getfield 37, 3)) (kk : qJ l G y cc mL rt d (pc + 3) L (.int (iI (μ 3 2)) :: st) (lay μ) (lf em F)) : qJ l G y cc mL rt d pc L (.ref 3 :: st) (lay μ) (lf em F) := T_getI (ci := 4) (k := 2) rfl inX4 (by decide) (by rw [hy]; exact lf_X8_37) (by decide) rfl rfl hd kk
theorem tp_X8_37 {z : Int} (hy : y.cls = RX8) (hd : decode cc pc = .ok (.putfield 37, 3)) (kk : qJ l G y cc mL rt d (pc + 3) L st (lay (wr μ 3 2 z)) (lf em F)) : qJ l G y cc mL rt d pc L (.int (iI z) :: .ref 3 :: st) (lay μ) (lf em F) := T_putI (ci := 4) (k := 2) rfl inX4 (by decide) (by rw [hy]; exact lf_X8_37) tyX4 tyX4_ok nmX4 rfl rfl (by decide) rfl rfl hd kk
theorem tg_X1_34 (hy : y.cls = RX1) (hd : decode cc pc = .ok (.getfield 34, 3)) (kk : qJ l G y cc mL rt d (pc + 3) L (.int (iI (μ 3 2)) :: st) (lay μ) (lf em F)) : qJ l G y cc mL rt d pc L (.ref 3 :: st) (lay μ) (lf em F) := T_getI (ci := 4) (k := 2) rfl inX4 (by decide) (by rw [hy]; exact lf_X1_34) (by decide) rfl rfl hd kk
theorem tp_X1_34 {z : Int} (hy : y.cls = RX1) (hd : decode cc pc = .ok (.putfield 34, 3)) (kk : qJ l G y cc mL rt d (pc + 3) L st (lay (wr μ 3 2 z)) (lf em F)) : qJ l G y cc mL rt d pc L (.int (iI z) :: .ref 3 :: st) (lay μ) (lf em F) := T_putI (ci := 4) (k := 2) rfl inX4 (by decide) (by rw [hy]; exact lf_X1_34) tyX4 tyX4_ok nmX4 rfl rfl (by decide) rfl rfl hd kk
theorem tg_X4_22 (hy : y.cls = RX4) (hd : decode cc pc = .ok (.getfield 22, 3)) (kk : qJ l G y cc mL rt d (pc + 3) L (.int (iI (μ 3 3)) :: st) (lay μ) (lf em F)) : qJ l G y cc mL rt d pc L (.ref 3 :: st) (lay μ) (lf em F) := T_getI (ci := 4) (k := 3) rfl inX4 (by decide) (by rw [hy]; exact lf_X4_22) (by decide) rfl rfl hd kk
theorem tp_X4_22 {z : Int} (hy : y.cls = RX4) (hd : decode cc pc = .ok (.putfield 22, 3)) (kk : qJ l G y cc mL rt d (pc + 3) L st (lay (wr μ 3 3 z)) (lf em F)) : qJ l G y cc mL rt d pc L (.int (iI z) :: .ref 3 :: st) (lay μ) (lf em F) := T_putI (ci := 4) (k := 3) rfl inX4 (by decide) (by rw [hy]; exact lf_X4_22) tyX4 tyX4_ok nmX4 rfl rfl (by decide) rfl rfl hd kk
theorem tg_X8_40 (hy : y.cls = RX8) (hd : decode cc pc = .ok (.getfield 40, 3)) (kk : qJ l G y cc mL rt d (pc + 3) L (.int (iI (μ 3 3)) :: st) (lay μ) (lf em F)) : qJ l G y cc mL rt d pc L (.ref 3 :: st) (lay μ) (lf em F) := T_getI (ci := 4) (k := 3) rfl inX4 (by decide) (by rw [hy]; exact lf_X8_40) (by decide) rfl rfl hd kk
theorem tp_X8_40 {z : Int} (hy : y.cls = RX8) (hd : decode cc pc = .ok (.putfield 40, 3)) (kk : qJ l G y cc mL rt d (pc + 3) L st (lay (wr μ 3 3 z)) (lf em F)) : qJ l G y cc mL rt d pc L (.int (iI z) :: .ref 3 :: st) (lay μ) (lf em F) := T_putI (ci := 4) (k := 3) rfl inX4 (by decide) (by rw [hy]; exact lf_X8_40) tyX4 tyX4_ok nmX4 rfl rfl (by decide) rfl rfl hd kk
theorem tg_X8_9 (hy : y.cls = RX8) (hd : decode cc pc = .ok (.getfield 9, 3)) (kk : qJ l G y cc mL rt d (pc + 3) L (.ref 7 :: st) (lay μ) (lf em F)) : qJ l G y cc mL rt d pc L (.ref 6 :: st) (lay μ) (lf em F) := T_getR (ci := 8) (k := 0) rfl inX8 (by decide) (by rw [hy]; exact lf_X8_9) (by decide) rfl rfl hd kk
theorem tg_X9_333 (hy : y.cls = RX9) (hd : decode cc pc = .ok (.getfield 333, 3)) (kk : qJ l G y cc mL rt d (pc + 3) L (.ref 7 :: st) (lay μ) (lf em F)) : qJ l G y cc mL rt d pc L (.ref 6 :: st) (lay μ) (lf em F) := T_getR (ci := 8) (k := 0) rfl inX8 (by decide) (by rw [hy]; exact lf_X9_333) (by decide) rfl rfl hd kk
theorem tg_X8_15 (hy : y.cls = RX8) (hd : decode cc pc = .ok (.getfield 15, 3)) (kk : qJ l G y cc mL rt d (pc + 3) L (.ref 8 :: st) (lay μ) (lf em F)) : qJ l G y cc mL rt d pc L (.ref 6 :: st) (lay μ) (lf em F) := T_getR (ci := 8) (k := 1) rfl inX8 (by decide) (by rw [hy]; exact lf_X8_15) (by decide) rfl rfl hd kk
theorem tg_X1_55 (hy : y.cls = RX1) (hd : decode cc pc = .ok (.getfield 55, 3)) (kk : qJ l G y cc mL rt d (pc + 3) L (.ref 8 :: st) (lay μ) (lf em F)) : qJ l G y cc mL rt d pc L (.ref 6 :: st) (lay μ) (lf em F) := T_getR (ci := 8) (k := 1) rfl inX8 (by decide) (by rw [hy]; exact lf_X1_55) (by decide) rfl rfl hd kk
theorem tg_X9_171 (hy : y.cls = RX9) (hd : decode cc pc = .ok (.getfield 171, 3)) (kk : qJ l G y cc mL rt d (pc + 3) L (.ref 8 :: st) (lay μ) (lf em F)) : qJ l G y cc mL rt d pc L (.ref 6 :: st) (lay μ) (lf em F) := T_getR (ci := 8) (k := 1) rfl inX8 (by decide) (by rw [hy]; exact lf_X9_171) (by decide) rfl rfl hd kk
theorem tg_X8_18 (hy : y.cls = RX8) (hd : decode cc pc = .ok (.getfield 18, 3)) (kk : qJ l G y cc mL rt d (pc + 3) L (.ref 9 :: st) (lay μ) (lf em F)) : qJ l G y cc mL rt d pc L (.ref 6 :: st) (lay μ) (lf em F) := T_getR (ci := 8) (k := 2) rfl inX8 (by decide) (by rw [hy]; exact lf_X8_18) (by decide) rfl rfl hd kk
theorem tg_X9_342 (hy : y.cls = RX9) (hd : decode cc pc = .ok (.getfield 342, 3)) (kk : qJ l G y cc mL rt d (pc + 3) L (.ref 9 :: st) (lay μ) (lf em F)) : qJ l G y cc mL rt d pc L (.ref 6 :: st) (lay μ) (lf em F) := T_getR (ci := 8) (k := 2) rfl inX8 (by decide) (by rw [hy]; exact lf_X9_342) (by decide) rfl rfl hd kk
theorem tg_X8_21 (hy : y.cls = RX8) (hd : decode cc pc = .ok (.getfield 21, 3)) (kk : qJ l G y cc mL rt d (pc + 3) L (.ref 10 :: st) (lay μ) (lf em F)) : qJ l G y cc mL rt d pc L (.ref 6 :: st) (lay μ) (lf em F) := T_getR (ci := 8) (k := 3) rfl inX8 (by decide) (by rw [hy]; exact lf_X8_21) (by decide) rfl rfl hd kk
theorem tg_X9_345 (hy : y.cls = RX9) (hd : decode cc pc = .ok (.getfield 345, 3)) (kk : qJ l G y cc mL rt d (pc + 3) L (.ref 10 :: st) (lay μ) (lf em F)) : qJ l G y cc mL rt d pc L (.ref 6 :: st) (lay μ) (lf em F) := T_getR (ci := 8) (k := 3) rfl inX8 (by decide) (by rw [hy]; exact lf_X9_345) (by decide) rfl rfl hd kk
theorem tg_X8_24 (hy : y.cls = RX8) (hd : decode cc pc = .ok (.getfield 24, 3)) (kk : qJ l G y cc mL rt d (pc + 3) L (.ref 11 :: st) (lay μ) (lf em F)) : qJ l G y cc mL rt d pc L (.ref 6 :: st) (lay μ) (lf em F) := T_getR (ci := 8) (k := 4) rfl inX8 (by decide) (by rw [hy]; exact lf_X8_24) (by decide) rfl rfl hd kk
theorem tg_X9_348 (hy : y.cls = RX9) (hd : decode cc pc = .ok (.getfield 348, 3)) (kk : qJ l G y cc mL rt d (pc + 3) L (.ref 11 :: st) (lay μ) (lf em F)) : qJ l G y cc mL rt d pc L (.ref 6 :: st) (lay μ) (lf em F) := T_getR (ci := 8) (k := 4) rfl inX8 (by decide) (by rw [hy]; exact lf_X9_348) (by decide) rfl rfl hd kk
theorem tg_X8_27 (hy : y.cls = RX8) (hd : decode cc pc = .ok (.getfield 27, 3)) (kk : qJ l G y cc mL rt d (pc + 3) L (.ref 12 :: st) (lay μ) (lf em F)) : qJ l G y cc mL rt d pc L (.ref 6 :: st) (lay μ) (lf em F) := T_getR (ci := 8) (k := 5) rfl inX8 (by decide) (by rw [hy]; exact lf_X8_27) (by decide) rfl rfl hd kk
theorem tg_X9_177 (hy : y.cls = RX9) (hd : decode cc pc = .ok (.getfield 177, 3)) (kk : qJ l G y cc mL rt d (pc + 3) L (.ref 12 :: st) (lay μ) (lf em F)) : qJ l G y cc mL rt d pc L (.ref 6 :: st) (lay μ) (lf em F) := T_getR (ci := 8) (k := 5) rfl inX8 (by decide) (by rw [hy]; exact lf_X9_177) (by decide) rfl rfl hd kk
theorem tg_X8_30 (hy : y.cls = RX8) (hd : decode cc pc = .ok (.getfield 30, 3)) (kk : qJ l G y cc mL rt d (pc + 3) L (.int (iI (μ 6 6)) :: st) (lay μ) (lf em F)) : qJ l G y cc mL rt d pc L (.ref 6 :: st) (lay μ) (lf em F) := T_getI (ci := 8) (k := 6) rfl inX8 (by decide) (by rw [hy]; exact lf_X8_30) (by decide) rfl rfl hd kk
theorem tp_X8_30 {z : Int} (hy : y.cls = RX8) (hd : decode cc pc = .ok (.putfield 30, 3)) (kk : qJ l G y cc mL rt d (pc + 3) L st (lay (wr μ 6 6 z)) (lf em F)) : qJ l G y cc mL rt d pc L (.int (iI z) :: .ref 6 :: st) (lay μ) (lf em F) := T_putI (ci := 8) (k := 6) rfl inX8 (by decide) (by rw [hy]; exact lf_X8_30) tyX8 tyX8_ok nmX8 rfl rfl (by decide) rfl rfl hd kk
theorem tg_X3_48 (hy : y.cls = RX3) (hd : decode cc pc = .ok (.getfield 48, 3)) (kk : qJ l G y cc mL rt d (pc + 3) L (.int (iI (μ 6 6)) :: st) (lay μ) (lf em F)) : qJ l G y cc mL rt d pc L (.ref 6 :: st) (lay μ) (lf em F) := T_getI (ci := 8) (k := 6) rfl inX8 (by decide) (by rw [hy]; exact lf_X3_48) (by decide) rfl rfl hd kk
theorem tp_X3_48 {z : Int} (hy : y.cls = RX3) (hd : decode cc pc = .ok (.putfield 48, 3)) (kk : qJ l G y cc mL rt d (pc + 3) L st (lay (wr μ 6 6 z)) (lf em F)) : qJ l G y cc mL rt d pc L (.int (iI z) :: .ref 6 :: st) (lay μ) (lf em F) := T_putI (ci := 8) (k := 6) rfl inX8 (by decide) (by rw [hy]; exact lf_X3_48) tyX8 tyX8_ok nmX8 rfl rfl (by decide) rfl rfl hd kk
theorem tg_X1_52 (hy : y.cls = RX1) (hd : decode cc pc = .ok (.getfield 52, 3)) (kk : qJ l G y cc mL rt d (pc + 3) L (.int (iI (μ 6 6)) :: st) (lay μ) (lf em F)) : qJ l G y cc mL rt d pc L (.ref 6 :: st) (lay μ) (lf em F) := T_getI (ci := 8) (k := 6) rfl inX8 (by decide) (by rw [hy]; exact lf_X1_52) (by decide) rfl rfl hd kk
theorem tp_X1_52 {z : Int} (hy : y.cls = RX1) (hd : decode cc pc = .ok (.putfield 52, 3)) (kk : qJ l G y cc mL rt d (pc + 3) L st (lay (wr μ 6 6 z)) (lf em F)) : qJ l G y cc mL rt d pc L (.int (iI z) :: .ref 6 :: st) (lay μ) (lf em F) := T_putI (ci := 8) (k := 6) rfl inX8 (by decide) (by rw [hy]; exact lf_X1_52) tyX8 tyX8_ok nmX8 rfl rfl (by decide) rfl rfl hd kk
theorem tg_X9_156 (hy : y.cls = RX9) (hd : decode cc pc = .ok (.getfield 156, 3)) (kk : qJ l G y cc mL rt d (pc + 3) L (.int (iI (μ 6 6)) :: st) (lay μ) (lf em F)) : qJ l G y cc mL rt d pc L (.ref 6 :: st) (lay μ) (lf em F) := T_getI (ci := 8) (k := 6) rfl inX8 (by decide) (by rw [hy]; exact lf_X9_156) (by decide) rfl rfl hd kk
theorem tp_X9_156 {z : Int} (hy : y.cls = RX9) (hd : decode cc pc = .ok (.putfield 156, 3)) (kk : qJ l G y cc mL rt d (pc + 3) L st (lay (wr μ 6 6 z)) (lf em F)) : qJ l G y cc mL rt d pc L (.int (iI z) :: .ref 6 :: st) (lay μ) (lf em F) := T_putI (ci := 8) (k := 6) rfl inX8 (by decide) (by rw [hy]; exact lf_X9_156) tyX8 tyX8_ok nmX8 rfl rfl (by decide) rfl rfl hd kk
theorem tg_X8_34 (hy : y.cls = RX8) (hd : decode cc pc = .ok (.getfield 34, 3)) (kk : qJ l G y cc mL rt d (pc + 3) L (.int (iI (μ 6 7)) :: st) (lay μ) (lf em F)) : qJ l G y cc mL rt d pc L (.ref 6 :: st) (lay μ) (lf em F) := T_getI (ci := 8) (k := 7) rfl inX8 (by decide) (by rw [hy]; exact lf_X8_34) (by decide) rfl rfl hd kk
theorem tp_X8_34 {z : Int} (hy : y.cls = RX8) (hd : decode cc pc = .ok (.putfield 34, 3)) (kk : qJ l G y cc mL rt d (pc + 3) L st (lay (wr μ 6 7 z)) (lf em F)) : qJ l G y cc mL rt d pc L (.int (iI z) :: .ref 6 :: st) (lay μ) (lf em F) := T_putI (ci := 8) (k := 7) rfl inX8 (by decide) (by rw [hy]; exact lf_X8_34) tyX8 tyX8_ok nmX8 rfl rfl (by decide) rfl rfl hd kk
theorem tg_X0_43 (hy : y.cls = RX0) (hd : decode cc pc = .ok (.getfield 43, 3)) (kk : qJ l G y cc mL rt d (pc + 3) L (.int (iI (μ 6 7)) :: st) (lay μ) (lf em F)) : qJ l G y cc mL rt d pc L (.ref 6 :: st) (lay μ) (lf em F) := T_getI (ci := 8) (k := 7) rfl inX8 (by decide) (by rw [hy]; exact lf_X0_43) (by decide) rfl rfl hd kk
theorem tp_X0_43 {z : Int} (hy : y.cls = RX0) (hd : decode cc pc = .ok (.putfield 43, 3)) (kk : qJ l G y cc mL rt d (pc + 3) L st (lay (wr μ 6 7 z)) (lf em F)) : qJ l G y cc mL rt d pc L (.int (iI z) :: .ref 6 :: st) (lay μ) (lf em F) := T_putI (ci := 8) (k := 7) rfl inX8 (by decide) (by rw [hy]; exact lf_X0_43) tyX8 tyX8_ok nmX8 rfl rfl (by decide) rfl rfl hd kk
theorem tg_X1_76 (hy : y.cls = RX1) (hd : decode cc pc = .ok (.getfield 76, 3)) (kk : qJ l G y cc mL rt d (pc + 3) L (.int (iI (μ 6 7)) :: st) (lay μ) (lf em F)) : qJ l G y cc mL rt d pc L (.ref 6 :: st) (lay μ) (lf em F) := T_getI (ci := 8) (k := 7) rfl inX8 (by decide) (by rw [hy]; exact lf_X1_76) (by decide) rfl rfl hd kk
theorem tp_X1_76 {z : Int} (hy : y.cls = RX1) (hd : decode cc pc = .ok (.putfield 76, 3)) (kk : qJ l G y cc mL rt d (pc + 3) L st (lay (wr μ 6 7 z)) (lf em F)) : qJ l G y cc mL rt d pc L (.int (iI z) :: .ref 6 :: st) (lay μ) (lf em F) := T_putI (ci := 8) (k := 7) rfl inX8 (by decide) (by rw [hy]; exact lf_X1_76) tyX8 tyX8_ok nmX8 rfl rfl (by decide) rfl rfl hd kk
theorem tg_X9_208 (hy : y.cls = RX9) (hd : decode cc pc = .ok (.getfield 208, 3)) (kk : qJ l G y cc mL rt d (pc + 3) L (.int (iI (μ 6 7)) :: st) (lay μ) (lf em F)) : qJ l G y cc mL rt d pc L (.ref 6 :: st) (lay μ) (lf em F) := T_getI (ci := 8) (k := 7) rfl inX8 (by decide) (by rw [hy]; exact lf_X9_208) (by decide) rfl rfl hd kk
theorem tp_X9_208 {z : Int} (hy : y.cls = RX9) (hd : decode cc pc = .ok (.putfield 208, 3)) (kk : qJ l G y cc mL rt d (pc + 3) L st (lay (wr μ 6 7 z)) (lf em F)) : qJ l G y cc mL rt d pc L (.int (iI z) :: .ref 6 :: st) (lay μ) (lf em F) := T_putI (ci := 8) (k := 7) rfl inX8 (by decide) (by rw [hy]; exact lf_X9_208) tyX8 tyX8_ok nmX8 rfl rfl (by decide) rfl rfl hd kk
theorem tg_X1_9 {t : Nat} (ht : oDay t) (hy : y.cls = RX1) (hd : decode cc pc = .ok (.getfield 9, 3)) (kk : qJ l G y cc mL rt d (pc + 3) L (.ref (t + 1) :: st) (lay μ) (lf em F)) : qJ l G y cc mL rt d pc L (.ref t :: st) (lay μ) (lf em F) := T_getR (ci := 1) (k := 0) rfl inX1 (by decide) (by rw [hy]; exact lf_X1_9) (oDay_l ht) (oDay_o ht) rfl hd kk
theorem tg_X2_22 {t : Nat} (ht : oDay t) (hy : y.cls = RX2) (hd : decode cc pc = .ok (.getfield 22, 3)) (kk : qJ l G y cc mL rt d (pc + 3) L (.ref (t + 1) :: st) (lay μ) (lf em F)) : qJ l G y cc mL rt d pc L (.ref t :: st) (lay μ) (lf em F) := T_getR (ci := 1) (k := 0) rfl inX1 (by decide) (by rw [hy]; exact lf_X2_22) (oDay_l ht) (oDay_o ht) rfl hd kk
theorem tg_X0_30 {t : Nat} (ht : oDay t) (hy : y.cls = RX0) (hd : decode cc pc = .ok (.getfield 30, 3)) (kk : qJ l G y cc mL rt d (pc + 3) L (.ref (t + 1) :: st) (lay μ) (lf em F)) : qJ l G y cc mL rt d pc L (.ref t :: st) (lay μ) (lf em F) := T_getR (ci := 1) (k := 0) rfl inX1 (by decide) (by rw [hy]; exact lf_X0_30) (oDay_l ht) (oDay_o ht) rfl hd kk
theorem tg_X3_31 {t : Nat} (ht : oDay t) (hy : y.cls = RX3) (hd : decode cc pc = .ok (.getfield 31, 3)) (kk : qJ l G y cc mL rt d (pc + 3) L (.ref (t + 1) :: st) (lay μ) (lf em F)) : qJ l G y cc mL rt d pc L (.ref t :: st) (lay μ) (lf em F) := T_getR (ci := 1) (k := 0) rfl inX1 (by decide) (by rw [hy]; exact lf_X3_31) (oDay_l ht) (oDay_o ht) rfl hd kk
theorem tg_X6_60 {t : Nat} (ht : oDay t) (hy : y.cls = RX6) (hd : decode cc pc = .ok (.getfield 60, 3)) (kk : qJ l G y cc mL rt d (pc + 3) L (.ref (t + 1) :: st) (lay μ) (lf em F)) : qJ l G y cc mL rt d pc L (.ref t :: st) (lay μ) (lf em F) := T_getR (ci := 1) (k := 0) rfl inX1 (by decide) (by rw [hy]; exact lf_X6_60) (oDay_l ht) (oDay_o ht) rfl hd kk
theorem tg_X9_193 {t : Nat} (ht : oDay t) (hy : y.cls = RX9) (hd : decode cc pc = .ok (.getfield 193, 3)) (kk : qJ l G y cc mL rt d (pc + 3) L (.ref (t + 1) :: st) (lay μ) (lf em F)) : qJ l G y cc mL rt d pc L (.ref t :: st) (lay μ) (lf em F) := T_getR (ci := 1) (k := 0) rfl inX1 (by decide) (by rw [hy]; exact lf_X9_193) (oDay_l ht) (oDay_o ht) rfl hd kk
theorem tg_X1_15 {t : Nat} (ht : oDay t) (hy : y.cls = RX1) (hd : decode cc pc = .ok (.getfield 15, 3)) (kk : qJ l G y cc mL rt d (pc + 3) L (.int (iI (μ t 1)) :: st) (lay μ) (lf em F)) : qJ l G y cc mL rt d pc L (.ref t :: st) (lay μ) (lf em F) := T_getI (ci := 1) (k := 1) rfl inX1 (by decide) (by rw [hy]; exact lf_X1_15) (oDay_l ht) (oDay_o ht) rfl hd kk
theorem tp_X1_15 {t : Nat} (ht : oDay t) {z : Int} (hy : y.cls = RX1) (hd : decode cc pc = .ok (.putfield 15, 3)) (kk : qJ l G y cc mL rt d (pc + 3) L st (lay (wr μ t 1 z)) (lf em F)) : qJ l G y cc mL rt d pc L (.int (iI z) :: .ref t :: st) (lay μ) (lf em F) := T_putI (ci := 1) (k := 1) rfl inX1 (by decide) (by rw [hy]; exact lf_X1_15) tyX1 tyX1_ok nmX1 rfl rfl (oDay_l ht) (oDay_o ht) rfl hd kk
theorem tg_X6_57 {t : Nat} (ht : oDay t) (hy : y.cls = RX6) (hd : decode cc pc = .ok (.getfield 57, 3)) (kk : qJ l G y cc mL rt d (pc + 3) L (.int (iI (μ t 1)) :: st) (lay μ) (lf em F)) : qJ l G y cc mL rt d pc L (.ref t :: st) (lay μ) (lf em F) := T_getI (ci := 1) (k := 1) rfl inX1 (by decide) (by rw [hy]; exact lf_X6_57) (oDay_l ht) (oDay_o ht) rfl hd kk
theorem tp_X6_57 {t : Nat} (ht : oDay t) {z : Int} (hy : y.cls = RX6) (hd : decode cc pc = .ok (.putfield 57, 3)) (kk : qJ l G y cc mL rt d (pc + 3) L st (lay (wr μ t 1 z)) (lf em F)) : qJ l G y cc mL rt d pc L (.int (iI z) :: .ref t :: st) (lay μ) (lf em F) := T_putI (ci := 1) (k := 1) rfl inX1 (by decide) (by rw [hy]; exact lf_X6_57) tyX1 tyX1_ok nmX1 rfl rfl (oDay_l ht) (oDay_o ht) rfl hd kk
theorem tg_X9_339 {t : Nat} (ht : oDay t) (hy : y.cls = RX9) (hd : decode cc pc = .ok (.getfield 339, 3)) (kk : qJ l G y cc mL rt d (pc + 3) L (.int (iI (μ t 1)) :: st) (lay μ) (lf em F)) : qJ l G y cc mL rt d pc L (.ref t :: st) (lay μ) (lf em F) := T_getI (ci := 1) (k := 1) rfl inX1 (by decide) (by rw [hy]; exact lf_X9_339) (oDay_l ht) (oDay_o ht) rfl hd kk
theorem tp_X9_339 {t : Nat} (ht : oDay t) {z : Int} (hy : y.cls = RX9) (hd : decode cc pc = .ok (.putfield 339, 3)) (kk : qJ l G y cc mL rt d (pc + 3) L st (lay (wr μ t 1 z)) (lf em F)) : qJ l G y cc mL rt d pc L (.int (iI z) :: .ref t :: st) (lay μ) (lf em F) := T_putI (ci := 1) (k := 1) rfl inX1 (by decide) (by rw [hy]; exact lf_X9_339) tyX1 tyX1_ok nmX1 rfl rfl (oDay_l ht) (oDay_o ht) rfl hd kk
theorem tg_X1_19 {t : Nat} (ht : oDay t) (hy : y.cls = RX1) (hd : decode cc pc = .ok (.getfield 19, 3)) (kk : qJ l G y cc mL rt d (pc + 3) L (.int (iI (μ t 2)) :: st) (lay μ) (lf em F)) : qJ l G y cc mL rt d pc L (.ref t :: st) (lay μ) (lf em F) := T_getI (ci := 1) (k := 2) rfl inX1 (by decide) (by rw [hy]; exact lf_X1_19) (oDay_l ht) (oDay_o ht) rfl hd kk
theorem tp_X1_19 {t : Nat} (ht : oDay t) {z : Int} (hy : y.cls = RX1) (hd : decode cc pc = .ok (.putfield 19, 3)) (kk : qJ l G y cc mL rt d (pc + 3) L st (lay (wr μ t 2 z)) (lf em F)) : qJ l G y cc mL rt d pc L (.int (iI z) :: .ref t :: st) (lay μ) (lf em F) := T_putI (ci := 1) (k := 2) rfl inX1 (by decide) (by rw [hy]; exact lf_X1_19) tyX1 tyX1_ok nmX1 rfl rfl (oDay_l ht) (oDay_o ht) rfl hd kk
theorem tg_X6_78 {t : Nat} (ht : oDay t) (hy : y.cls = RX6) (hd : decode cc pc = .ok (.getfield 78, 3)) (kk : qJ l G y cc mL rt d (pc + 3) L (.int (iI (μ t 2)) :: st) (lay μ) (lf em F)) : qJ l G y cc mL rt d pc L (.ref t :: st) (lay μ) (lf em F) := T_getI (ci := 1) (k := 2) rfl inX1 (by decide) (by rw [hy]; exact lf_X6_78) (oDay_l ht) (oDay_o ht) rfl hd kk
theorem tp_X6_78 {t : Nat} (ht : oDay t) {z : Int} (hy : y.cls = RX6) (hd : decode cc pc = .ok (.putfield 78, 3)) (kk : qJ l G y cc mL rt d (pc + 3) L st (lay (wr μ t 2 z)) (lf em F)) : qJ l G y cc mL rt d pc L (.int (iI z) :: .ref t :: st) (lay μ) (lf em F) := T_putI (ci := 1) (k := 2) rfl inX1 (by decide) (by rw [hy]; exact lf_X6_78) tyX1 tyX1_ok nmX1 rfl rfl (oDay_l ht) (oDay_o ht) rfl hd kk
theorem tg_X1_22 {t : Nat} (ht : oDay t) (hy : y.cls = RX1) (hd : decode cc pc = .ok (.getfield 22, 3)) (kk : qJ l G y cc mL rt d (pc + 3) L (.int (iI (μ t 3)) :: st) (lay μ) (lf em F)) : qJ l G y cc mL rt d pc L (.ref t :: st) (lay μ) (lf em F) := T_getI (ci := 1) (k := 3) rfl inX1 (by decide) (by rw [hy]; exact lf_X1_22) (oDay_l ht) (oDay_o ht) rfl hd kk
theorem tp_X1_22 {t : Nat} (ht : oDay t) {z : Int} (hy : y.cls = RX1) (hd : decode cc pc = .ok (.putfield 22, 3)) (kk : qJ l G y cc mL rt d (pc + 3) L st (lay (wr μ t 3 z)) (lf em F)) : qJ l G y cc mL rt d pc L (.int (iI z) :: .ref t :: st) (lay μ) (lf em F) := T_putI (ci := 1) (k := 3) rfl inX1 (by decide) (by rw [hy]; exact lf_X1_22) tyX1 tyX1_ok nmX1 rfl rfl (oDay_l ht) (oDay_o ht) rfl hd kk
theorem tg_X9_186 {t : Nat} (ht : oDay t) (hy : y.cls = RX9) (hd : decode cc pc = .ok (.getfield 186, 3)) (kk : qJ l G y cc mL rt d (pc + 3) L (.int (iI (μ t 3)) :: st) (lay μ) (lf em F)) : qJ l G y cc mL rt d pc L (.ref t :: st) (lay μ) (lf em F) := T_getI (ci := 1) (k := 3) rfl inX1 (by decide) (by rw [hy]; exact lf_X9_186) (oDay_l ht) (oDay_o ht) rfl hd kk
theorem tp_X9_186 {t : Nat} (ht : oDay t) {z : Int} (hy : y.cls = RX9) (hd : decode cc pc = .ok (.putfield 186, 3)) (kk : qJ l G y cc mL rt d (pc + 3) L st (lay (wr μ t 3 z)) (lf em F)) : qJ l G y cc mL rt d pc L (.int (iI z) :: .ref t :: st) (lay μ) (lf em F) := T_putI (ci := 1) (k := 3) rfl inX1 (by decide) (by rw [hy]; exact lf_X9_186) tyX1 tyX1_ok nmX1 rfl rfl (oDay_l ht) (oDay_o ht) rfl hd kk
theorem tg_X1_25 {t : Nat} (ht : oDay t) (hy : y.cls = RX1) (hd : decode cc pc = .ok (.getfield 25, 3)) (kk : qJ l G y cc mL rt d (pc + 3) L (.int (iI (μ t 4)) :: st) (lay μ) (lf em F)) : qJ l G y cc mL rt d pc L (.ref t :: st) (lay μ) (lf em F) := T_getI (ci := 1) (k := 4) rfl inX1 (by decide) (by rw [hy]; exact lf_X1_25) (oDay_l ht) (oDay_o ht) rfl hd kk
theorem tp_X1_25 {t : Nat} (ht : oDay t) {z : Int} (hy : y.cls = RX1) (hd : decode cc pc = .ok (.putfield 25, 3)) (kk : qJ l G y cc mL rt d (pc + 3) L st (lay (wr μ t 4 z)) (lf em F)) : qJ l G y cc mL rt d pc L (.int (iI z) :: .ref t :: st) (lay μ) (lf em F) := T_putI (ci := 1) (k := 4) rfl inX1 (by decide) (by rw [hy]; exact lf_X1_25) tyX1 tyX1_ok nmX1 rfl rfl (oDay_l ht) (oDay_o ht) rfl hd kk
theorem tg_X3_51 {t : Nat} (ht : oDay t) (hy : y.cls = RX3) (hd : decode cc pc = .ok (.getfield 51, 3)) (kk : qJ l G y cc mL rt d (pc + 3) L (.int (iI (μ t 4)) :: st) (lay μ) (lf em F)) : qJ l G y cc mL rt d pc L (.ref t :: st) (lay μ) (lf em F) := T_getI (ci := 1) (k := 4) rfl inX1 (by decide) (by rw [hy]; exact lf_X3_51) (oDay_l ht) (oDay_o ht) rfl hd kk
theorem tp_X3_51 {t : Nat} (ht : oDay t) {z : Int} (hy : y.cls = RX3) (hd : decode cc pc = .ok (.putfield 51, 3)) (kk : qJ l G y cc mL rt d (pc + 3) L st (lay (wr μ t 4 z)) (lf em F)) : qJ l G y cc mL rt d pc L (.int (iI z) :: .ref t :: st) (lay μ) (lf em F) := T_putI (ci := 1) (k := 4) rfl inX1 (by decide) (by rw [hy]; exact lf_X3_51) tyX1 tyX1_ok nmX1 rfl rfl (oDay_l ht) (oDay_o ht) rfl hd kk
theorem tg_X2_9 {t : Nat} (ht : oDiary t) (hy : y.cls = RX2) (hd : decode cc pc = .ok (.getfield 9, 3)) (kk : qJ l G y cc mL rt d (pc + 3) L (.ref (t + 1) :: st) (lay μ) (lf em F)) : qJ l G y cc mL rt d pc L (.ref t :: st) (lay μ) (lf em F) := T_getR (ci := 2) (k := 0) rfl inX2 (by decide) (by rw [hy]; exact lf_X2_9) (oDiary_l ht) (oDiary_o ht) rfl hd kk
theorem tg_X2_15 {t : Nat} (ht : oDiary t) (hy : y.cls = RX2) (hd : decode cc pc = .ok (.getfield 15, 3)) (kk : qJ l G y cc mL rt d (pc + 3) L (.ref (t + 2) :: st) (lay μ) (lf em F)) : qJ l G y cc mL rt d pc L (.ref t :: st) (lay μ) (lf em F) := T_getR (ci := 2) (k := 1) rfl inX2 (by decide) (by rw [hy]; exact lf_X2_15) (oDiary_l ht) (oDiary_o ht) rfl hd kk
theorem tg_X9_221 {t : Nat} (ht : oDiary t) (hy : y.cls = RX9) (hd : decode cc pc = .ok (.getfield 221, 3)) (kk : qJ l G y cc mL rt d (pc + 3) L (.ref (t + 2) :: st) (lay μ) (lf em F)) : qJ l G y cc mL rt d pc L (.ref t :: st) (lay μ) (lf em F) := T_getR (ci := 2) (k := 1) rfl inX2 (by decide) (by rw [hy]; exact lf_X9_221) (oDiary_l ht) (oDiary_o ht) rfl hd kk
theorem tg_X2_18 {t : Nat} (ht : oDiary t) (hy : y.cls = RX2) (hd : decode cc pc = .ok (.getfield 18, 3)) (kk : qJ l G y cc mL rt d (pc + 3) L (.int (iI (μ t 2)) :: st) (lay μ) (lf em F)) : qJ l G y cc mL rt d pc L (.ref t :: st) (lay μ) (lf em F) := T_getI (ci := 2) (k := 2) rfl inX2 (by decide) (by rw [hy]; exact lf_X2_18) (oDiary_l ht) (oDiary_o ht) rfl hd kk
theorem tp_X2_18 {t : Nat} (ht : oDiary t) {z : Int} (hy : y.cls = RX2) (hd : decode cc pc = .ok (.putfield 18, 3)) (kk : qJ l G y cc mL rt d (pc + 3) L st (lay (wr μ t 2 z)) (lf em F)) : qJ l G y cc mL rt d pc L (.int (iI z) :: .ref t :: st) (lay μ) (lf em F) := T_putI (ci := 2) (k := 2) rfl inX2 (by decide) (by rw [hy]; exact lf_X2_18) tyX2 tyX2_ok nmX2 rfl rfl (oDiary_l ht) (oDiary_o ht) rfl hd kk
theorem tg_X9_97 {t : Nat} (ht : oDiary t) (hy : y.cls = RX9) (hd : decode cc pc = .ok (.getfield 97, 3)) (kk : qJ l G y cc mL rt d (pc + 3) L (.int (iI (μ t 2)) :: st) (lay μ) (lf em F)) : qJ l G y cc mL rt d pc L (.ref t :: st) (lay μ) (lf em F) := T_getI (ci := 2) (k := 2) rfl inX2 (by decide) (by rw [hy]; exact lf_X9_97) (oDiary_l ht) (oDiary_o ht) rfl hd kk
theorem tp_X9_97 {t : Nat} (ht : oDiary t) {z : Int} (hy : y.cls = RX9) (hd : decode cc pc = .ok (.putfield 97, 3)) (kk : qJ l G y cc mL rt d (pc + 3) L st (lay (wr μ t 2 z)) (lf em F)) : qJ l G y cc mL rt d pc L (.int (iI z) :: .ref t :: st) (lay μ) (lf em F) := T_putI (ci := 2) (k := 2) rfl inX2 (by decide) (by rw [hy]; exact lf_X9_97) tyX2 tyX2_ok nmX2 rfl rfl (oDiary_l ht) (oDiary_o ht) rfl hd kk
theorem tg_X3_12 (hy : y.cls = RX3) (hd : decode cc pc = .ok (.getfield 12, 3)) (kk : qJ l G y cc mL rt d (pc + 3) L (.ref 20 :: st) (lay μ) (lf em F)) : qJ l G y cc mL rt d pc L (.ref 19 :: st) (lay μ) (lf em F) := T_getR (ci := 3) (k := 0) rfl inX3 (by decide) (by rw [hy]; exact lf_X3_12) (by decide) rfl rfl hd kk
theorem tg_X3_18 (hy : y.cls = RX3) (hd : decode cc pc = .ok (.getfield 18, 3)) (kk : qJ l G y cc mL rt d (pc + 3) L (.int (iI (μ 19 1)) :: st) (lay μ) (lf em F)) : qJ l G y cc mL rt d pc L (.ref 19 :: st) (lay μ) (lf em F) := T_getI (ci := 3) (k := 1) rfl inX3 (by decide) (by rw [hy]; exact lf_X3_18) (by decide) rfl rfl hd kk
theorem tp_X3_18 {z : Int} (hy : y.cls = RX3) (hd : decode cc pc = .ok (.putfield 18, 3)) (kk : qJ l G y cc mL rt d (pc + 3) L st (lay (wr μ 19 1 z)) (lf em F)) : qJ l G y cc mL rt d pc L (.int (iI z) :: .ref 19 :: st) (lay μ) (lf em F) := T_putI (ci := 3) (k := 1) rfl inX3 (by decide) (by rw [hy]; exact lf_X3_18) tyX3 tyX3_ok nmX3 rfl rfl (by decide) rfl rfl hd kk
theorem tg_X9_229 (hy : y.cls = RX9) (hd : decode cc pc = .ok (.getfield 229, 3)) (kk : qJ l G y cc mL rt d (pc + 3) L (.int (iI (μ 19 1)) :: st) (lay μ) (lf em F)) : qJ l G y cc mL rt d pc L (.ref 19 :: st) (lay μ) (lf em F) := T_getI (ci := 3) (k := 1) rfl inX3 (by decide) (by rw [hy]; exact lf_X9_229) (by decide) rfl rfl hd kk
theorem tp_X9_229 {z : Int} (hy : y.cls = RX9) (hd : decode cc pc = .ok (.putfield 229, 3)) (kk : qJ l G y cc mL rt d (pc + 3) L st (lay (wr μ 19 1 z)) (lf em F)) : qJ l G y cc mL rt d pc L (.int (iI z) :: .ref 19 :: st) (lay μ) (lf em F) := T_putI (ci := 3) (k := 1) rfl inX3 (by decide) (by rw [hy]; exact lf_X9_229) tyX3 tyX3_ok nmX3 rfl rfl (by decide) rfl rfl hd kk
theorem tg_X6_11 (hy : y.cls = RX6) (hd : decode cc pc = .ok (.getfield 11, 3)) (kk : qJ l G y cc mL rt d (pc + 3) L (.ref 23 :: st) (lay μ) (lf em F)) : qJ l G y cc mL rt d pc L (.ref 22 :: st) (lay μ) (lf em F) := T_getR (ci := 6) (k := 0) rfl inX6 (by decide) (by rw [hy]; exact lf_X6_11) (by decide) rfl rfl hd kk
theorem tg_X6_17 (hy : y.cls = RX6) (hd : decode cc pc = .ok (.getfield 17, 3)) (kk : qJ l G y cc mL rt d (pc + 3) L (.ref 24 :: st) (lay μ) (lf em F)) : qJ l G y cc mL rt d pc L (.ref 22 :: st) (lay μ) (lf em F) := T_getR (ci := 6) (k := 1) rfl inX6 (by decide) (by rw [hy]; exact lf_X6_17) (by decide) rfl rfl hd kk
theorem tg_X6_21 (hy : y.cls = RX6) (hd : decode cc pc = .ok (.getfield 21, 3)) (kk : qJ l G y cc mL rt d (pc + 3) L (.ref 25 :: st) (lay μ) (lf em F)) : qJ l G y cc mL rt d pc L (.ref 22 :: st) (lay μ) (lf em F) := T_getR (ci := 6) (k := 2) rfl inX6 (by decide) (by rw [hy]; exact lf_X6_21) (by decide) rfl rfl hd kk
theorem tg_X9_240 (hy : y.cls = RX9) (hd : decode cc pc = .ok (.getfield 240, 3)) (kk : qJ l G y cc mL rt d (pc + 3) L (.ref 25 :: st) (lay μ) (lf em F)) : qJ l G y cc mL rt d pc L (.ref 22 :: st) (lay μ) (lf em F) := T_getR (ci := 6) (k := 2) rfl inX6 (by decide) (by rw [hy]; exact lf_X9_240) (by decide) rfl rfl hd kk
theorem tg_X6_24 (hy : y.cls = RX6) (hd : decode cc pc = .ok (.getfield 24, 3)) (kk : qJ l G y cc mL rt d (pc + 3) L (.int (iI (μ 22 3)) :: st) (lay μ) (lf em F)) : qJ l G y cc mL rt d pc L (.ref 22 :: st) (lay μ) (lf em F) := T_getI (ci := 6) (k := 3) rfl inX6 (by decide) (by rw [hy]; exact lf_X6_24) (by decide) rfl rfl hd kk
theorem tp_X6_24 {z : Int} (hy : y.cls = RX6) (hd : decode cc pc = .ok (.putfield 24, 3)) (kk : qJ l G y cc mL rt d (pc + 3) L st (lay (wr μ 22 3 z)) (lf em F)) : qJ l G y cc mL rt d pc L (.int (iI z) :: .ref 22 :: st) (lay μ) (lf em F) := T_putI (ci := 6) (k := 3) rfl inX6 (by decide) (by rw [hy]; exact lf_X6_24) tyX6 tyX6_ok nmX6 rfl rfl (by decide) rfl rfl hd kk
theorem tg_X6_28 (hy : y.cls = RX6) (hd : decode cc pc = .ok (.getfield 28, 3)) (kk : qJ l G y cc mL rt d (pc + 3) L (.int (iI (μ 22 4)) :: st) (lay μ) (lf em F)) : qJ l G y cc mL rt d pc L (.ref 22 :: st) (lay μ) (lf em F) := T_getI (ci := 6) (k := 4) rfl inX6 (by decide) (by rw [hy]; exact lf_X6_28) (by decide) rfl rfl hd kk
theorem tp_X6_28 {z : Int} (hy : y.cls = RX6) (hd : decode cc pc = .ok (.putfield 28, 3)) (kk : qJ l G y cc mL rt d (pc + 3) L st (lay (wr μ 22 4 z)) (lf em F)) : qJ l G y cc mL rt d pc L (.int (iI z) :: .ref 22 :: st) (lay μ) (lf em F) := T_putI (ci := 6) (k := 4) rfl inX6 (by decide) (by rw [hy]; exact lf_X6_28) tyX6 tyX6_ok nmX6 rfl rfl (by decide) rfl rfl hd kk
theorem tg_X6_31 (hy : y.cls = RX6) (hd : decode cc pc = .ok (.getfield 31, 3)) (kk : qJ l G y cc mL rt d (pc + 3) L (.int (iI (μ 22 5)) :: st) (lay μ) (lf em F)) : qJ l G y cc mL rt d pc L (.ref 22 :: st) (lay μ) (lf em F) := T_getI (ci := 6) (k := 5) rfl inX6 (by decide) (by rw [hy]; exact lf_X6_31) (by decide) rfl rfl hd kk
theorem tp_X6_31 {z : Int} (hy : y.cls = RX6) (hd : decode cc pc = .ok (.putfield 31, 3)) (kk : qJ l G y cc mL rt d (pc + 3) L st (lay (wr μ 22 5 z)) (lf em F)) : qJ l G y cc mL rt d pc L (.int (iI z) :: .ref 22 :: st) (lay μ) (lf em F) := T_putI (ci := 6) (k := 5) rfl inX6 (by decide) (by rw [hy]; exact lf_X6_31) tyX6 tyX6_ok nmX6 rfl rfl (by decide) rfl rfl hd kk
theorem tg_X6_34 (hy : y.cls = RX6) (hd : decode cc pc = .ok (.getfield 34, 3)) (kk : qJ l G y cc mL rt d (pc + 3) L (.int (iI (μ 22 6)) :: st) (lay μ) (lf em F)) : qJ l G y cc mL rt d pc L (.ref 22 :: st) (lay μ) (lf em F) := T_getI (ci := 6) (k := 6) rfl inX6 (by decide) (by rw [hy]; exact lf_X6_34) (by decide) rfl rfl hd kk
theorem tp_X6_34 {z : Int} (hy : y.cls = RX6) (hd : decode cc pc = .ok (.putfield 34, 3)) (kk : qJ l G y cc mL rt d (pc + 3) L st (lay (wr μ 22 6 z)) (lf em F)) : qJ l G y cc mL rt d pc L (.int (iI z) :: .ref 22 :: st) (lay μ) (lf em F) := T_putI (ci := 6) (k := 6) rfl inX6 (by decide) (by rw [hy]; exact lf_X6_34) tyX6 tyX6_ok nmX6 rfl rfl (by decide) rfl rfl hd kk
theorem tg_X6_37 (hy : y.cls = RX6) (hd : decode cc pc = .ok (.getfield 37, 3)) (kk : qJ l G y cc mL rt d (pc + 3) L (.int (iI (μ 22 7)) :: st) (lay μ) (lf em F)) : qJ l G y cc mL rt d pc L (.ref 22 :: st) (lay μ) (lf em F) := T_getI (ci := 6) (k := 7) rfl inX6 (by decide) (by rw [hy]; exact lf_X6_37) (by decide) rfl rfl hd kk
theorem tp_X6_37 {z : Int} (hy : y.cls = RX6) (hd : decode cc pc = .ok (.putfield 37, 3)) (kk : qJ l G y cc mL rt d (pc + 3) L st (lay (wr μ 22 7 z)) (lf em F)) : qJ l G y cc mL rt d pc L (.int (iI z) :: .ref 22 :: st) (lay μ) (lf em F) := T_putI (ci := 6) (k := 7) rfl inX6 (by decide) (by rw [hy]; exact lf_X6_37) tyX6 tyX6_ok nmX6 rfl rfl (by decide) rfl rfl hd kk
theorem tg_X9_296 (hy : y.cls = RX9) (hd : decode cc pc = .ok (.getfield 296, 3)) (kk : qJ l G y cc mL rt d (pc + 3) L (.int (iI (μ 22 7)) :: st) (lay μ) (lf em F)) : qJ l G y cc mL rt d pc L (.ref 22 :: st) (lay μ) (lf em F) := T_getI (ci := 6) (k := 7) rfl inX6 (by decide) (by rw [hy]; exact lf_X9_296) (by decide) rfl rfl hd kk
theorem tp_X9_296 {z : Int} (hy : y.cls = RX9) (hd : decode cc pc = .ok (.putfield 296, 3)) (kk : qJ l G y cc mL rt d (pc + 3) L st (lay (wr μ 22 7 z)) (lf em F)) : qJ l G y cc mL rt d pc L (.int (iI z) :: .ref 22 :: st) (lay μ) (lf em F) := T_putI (ci := 6) (k := 7) rfl inX6 (by decide) (by rw [hy]; exact lf_X9_296) tyX6 tyX6_ok nmX6 rfl rfl (by decide) rfl rfl hd kk
theorem tg_X0_12 (hy : y.cls = RX0) (hd : decode cc pc = .ok (.getfield 12, 3)) (kk : qJ l G y cc mL rt d (pc + 3) L (.ref 33 :: st) (lay μ) (lf em F)) : qJ l G y cc mL rt d pc L (.ref 32 :: st) (lay μ) (lf em F) := T_getR (ci := 0) (k := 0) rfl inX0 (by decide) (by rw [hy]; exact lf_X0_12) (by decide) rfl rfl hd kk
theorem tg_X0_18 (hy : y.cls = RX0) (hd : decode cc pc = .ok (.getfield 18, 3)) (kk : qJ l G y cc mL rt d (pc + 3) L (.ref 35 :: st) (lay μ) (lf em F)) : qJ l G y cc mL rt d pc L (.ref 32 :: st) (lay μ) (lf em F) := T_getR (ci := 0) (k := 1) rfl inX0 (by decide) (by rw [hy]; exact lf_X0_18) (by decide) rfl rfl hd kk
theorem tg_X5_9 {t : Nat} (ht : oRow t) (hy : y.cls = RX5) (hd : decode cc pc = .ok (.getfield 9, 3)) (kk : qJ l G y cc mL rt d (pc + 3) L (.ref (t + 1) :: st) (lay μ) (lf em F)) : qJ l G y cc mL rt d pc L (.ref t :: st) (lay μ) (lf em F) := T_getR (ci := 5) (k := 0) rfl inX5 (by decide) (by rw [hy]; exact lf_X5_9) (oRow_l ht) (oRow_o ht) rfl hd kk
theorem tg_X3_41 {t : Nat} (ht : oRow t) (hy : y.cls = RX3) (hd : decode cc pc = .ok (.getfield 41, 3)) (kk : qJ l G y cc mL rt d (pc + 3) L (.ref (t + 1) :: st) (lay μ) (lf em F)) : qJ l G y cc mL rt d pc L (.ref t :: st) (lay μ) (lf em F) := T_getR (ci := 5) (k := 0) rfl inX5 (by decide) (by rw [hy]; exact lf_X3_41) (oRow_l ht) (oRow_o ht) rfl hd kk
theorem tg_X9_116 {t : Nat} (ht : oRow t) (hy : y.cls = RX9) (hd : decode cc pc = .ok (.getfield 116, 3)) (kk : qJ l G y cc mL rt d (pc + 3) L (.ref (t + 1) :: st) (lay μ) (lf em F)) : qJ l G y cc mL rt d pc L (.ref t :: st) (lay μ) (lf em F) := T_getR (ci := 5) (k := 0) rfl inX5 (by decide) (by rw [hy]; exact lf_X9_116) (oRow_l ht) (oRow_o ht) rfl hd kk
theorem tg_X0_65 {t : Nat} (ht : oRow t) (hy : y.cls = RX0) (hd : decode cc pc = .ok (.getfield 65, 3)) (kk : qJ l G y cc mL rt d (pc + 3) L (.ref (t + 1) :: st) (lay μ) (lf em F)) : qJ l G y cc mL rt d pc L (.ref t :: st) (lay μ) (lf em F) := T_getR (ci := 5) (k := 0) rfl inX5 (by decide) (by rw [hy]; exact lf_X0_65) (oRow_l ht) (oRow_o ht) rfl hd kk
theorem tg_X6_94 {t : Nat} (ht : oRow t) (hy : y.cls = RX6) (hd : decode cc pc = .ok (.getfield 94, 3)) (kk : qJ l G y cc mL rt d (pc + 3) L (.ref (t + 1) :: st) (lay μ) (lf em F)) : qJ l G y cc mL rt d pc L (.ref t :: st) (lay μ) (lf em F) := T_getR (ci := 5) (k := 0) rfl inX5 (by decide) (by rw [hy]; exact lf_X6_94) (oRow_l ht) (oRow_o ht) rfl hd kk
theorem tg_X5_15 {t : Nat} (ht : oRow t) (hy : y.cls = RX5) (hd : decode cc pc = .ok (.getfield 15, 3)) (kk : qJ l G y cc mL rt d (pc + 3) L (.int (iI (μ t 1)) :: st) (lay μ) (lf em F)) : qJ l G y cc mL rt d pc L (.ref t :: st) (lay μ) (lf em F) := T_getI (ci := 5) (k := 1) rfl inX5 (by decide) (by rw [hy]; exact lf_X5_15) (oRow_l ht) (oRow_o ht) rfl hd kk
theorem tp_X5_15 {t : Nat} (ht : oRow t) {z : Int} (hy : y.cls = RX5) (hd : decode cc pc = .ok (.putfield 15, 3)) (kk : qJ l G y cc mL rt d (pc + 3) L st (lay (wr μ t 1 z)) (lf em F)) : qJ l G y cc mL rt d pc L (.int (iI z) :: .ref t :: st) (lay μ) (lf em F) := T_putI (ci := 5) (k := 1) rfl inX5 (by decide) (by rw [hy]; exact lf_X5_15) tyX5 tyX5_ok nmX5 rfl rfl (oRow_l ht) (oRow_o ht) rfl hd kk
theorem tg_X3_26 {t : Nat} (ht : oRow t) (hy : y.cls = RX3) (hd : decode cc pc = .ok (.getfield 26, 3)) (kk : qJ l G y cc mL rt d (pc + 3) L (.int (iI (μ t 1)) :: st) (lay μ) (lf em F)) : qJ l G y cc mL rt d pc L (.ref t :: st) (lay μ) (lf em F) := T_getI (ci := 5) (k := 1) rfl inX5 (by decide) (by rw [hy]; exact lf_X3_26) (oRow_l ht) (oRow_o ht) rfl hd kk
theorem tp_X3_26 {t : Nat} (ht : oRow t) {z : Int} (hy : y.cls = RX3) (hd : decode cc pc = .ok (.putfield 26, 3)) (kk : qJ l G y cc mL rt d (pc + 3) L st (lay (wr μ t 1 z)) (lf em F)) : qJ l G y cc mL rt d pc L (.int (iI z) :: .ref t :: st) (lay μ) (lf em F) := T_putI (ci := 5) (k := 1) rfl inX5 (by decide) (by rw [hy]; exact lf_X3_26) tyX5 tyX5_ok nmX5 rfl rfl (oRow_l ht) (oRow_o ht) rfl hd kk
theorem tg_X9_123 {t : Nat} (ht : oRow t) (hy : y.cls = RX9) (hd : decode cc pc = .ok (.getfield 123, 3)) (kk : qJ l G y cc mL rt d (pc + 3) L (.int (iI (μ t 1)) :: st) (lay μ) (lf em F)) : qJ l G y cc mL rt d pc L (.ref t :: st) (lay μ) (lf em F) := T_getI (ci := 5) (k := 1) rfl inX5 (by decide) (by rw [hy]; exact lf_X9_123) (oRow_l ht) (oRow_o ht) rfl hd kk
theorem tp_X9_123 {t : Nat} (ht : oRow t) {z : Int} (hy : y.cls = RX9) (hd : decode cc pc = .ok (.putfield 123, 3)) (kk : qJ l G y cc mL rt d (pc + 3) L st (lay (wr μ t 1 z)) (lf em F)) : qJ l G y cc mL rt d pc L (.int (iI z) :: .ref t :: st) (lay μ) (lf em F) := T_putI (ci := 5) (k := 1) rfl inX5 (by decide) (by rw [hy]; exact lf_X9_123) tyX5 tyX5_ok nmX5 rfl rfl (oRow_l ht) (oRow_o ht) rfl hd kk
theorem tg_X6_85 {t : Nat} (ht : oRow t) (hy : y.cls = RX6) (hd : decode cc pc = .ok (.getfield 85, 3)) (kk : qJ l G y cc mL rt d (pc + 3) L (.int (iI (μ t 1)) :: st) (lay μ) (lf em F)) : qJ l G y cc mL rt d pc L (.ref t :: st) (lay μ) (lf em F) := T_getI (ci := 5) (k := 1) rfl inX5 (by decide) (by rw [hy]; exact lf_X6_85) (oRow_l ht) (oRow_o ht) rfl hd kk
theorem tp_X6_85 {t : Nat} (ht : oRow t) {z : Int} (hy : y.cls = RX6) (hd : decode cc pc = .ok (.putfield 85, 3)) (kk : qJ l G y cc mL rt d (pc + 3) L st (lay (wr μ t 1 z)) (lf em F)) : qJ l G y cc mL rt d pc L (.int (iI z) :: .ref t :: st) (lay μ) (lf em F) := T_putI (ci := 5) (k := 1) rfl inX5 (by decide) (by rw [hy]; exact lf_X6_85) tyX5 tyX5_ok nmX5 rfl rfl (oRow_l ht) (oRow_o ht) rfl hd kk
theorem tg_X7_9 {t : Nat} (ht : oText t) (hy : y.cls = RX7) (hd : decode cc pc = .ok (.getfield 9, 3)) (kk : qJ l G y cc mL rt d (pc + 3) L (.ref (t + 1) :: st) (lay μ) (lf em F)) : qJ l G y cc mL rt d pc L (.ref t :: st) (lay μ) (lf em F) := T_getR (ci := 7) (k := 0) rfl inX7 (by decide) (by rw [hy]; exact lf_X7_9) (oText_l ht) (oText_o ht) rfl hd kk
theorem tg_X4_30 {t : Nat} (ht : oText t) (hy : y.cls = RX4) (hd : decode cc pc = .ok (.getfield 30, 3)) (kk : qJ l G y cc mL rt d (pc + 3) L (.ref (t + 1) :: st) (lay μ) (lf em F)) : qJ l G y cc mL rt d pc L (.ref t :: st) (lay μ) (lf em F) := T_getR (ci := 7) (k := 0) rfl inX7 (by decide) (by rw [hy]; exact lf_X4_30) (oText_l ht) (oText_o ht) rfl hd kk
theorem tg_X9_144 {t : Nat} (ht : oText t) (hy : y.cls = RX9) (hd : decode cc pc = .ok (.getfield 144, 3)) (kk : qJ l G y cc mL rt d (pc + 3) L (.ref (t + 1) :: st) (lay μ) (lf em F)) : qJ l G y cc mL rt d pc L (.ref t :: st) (lay μ) (lf em F) := T_getR (ci := 7) (k := 0) rfl inX7 (by decide) (by rw [hy]; exact lf_X9_144) (oText_l ht) (oText_o ht) rfl hd kk
theorem tg_X7_15 {t : Nat} (ht : oText t) (hy : y.cls = RX7) (hd : decode cc pc = .ok (.getfield 15, 3)) (kk : qJ l G y cc mL rt d (pc + 3) L (.int (iI (μ t 1)) :: st) (lay μ) (lf em F)) : qJ l G y cc mL rt d pc L (.ref t :: st) (lay μ) (lf em F) := T_getI (ci := 7) (k := 1) rfl inX7 (by decide) (by rw [hy]; exact lf_X7_15) (oText_l ht) (oText_o ht) rfl hd kk
theorem tp_X7_15 {t : Nat} (ht : oText t) {z : Int} (hy : y.cls = RX7) (hd : decode cc pc = .ok (.putfield 15, 3)) (kk : qJ l G y cc mL rt d (pc + 3) L st (lay (wr μ t 1 z)) (lf em F)) : qJ l G y cc mL rt d pc L (.int (iI z) :: .ref t :: st) (lay μ) (lf em F) := T_putI (ci := 7) (k := 1) rfl inX7 (by decide) (by rw [hy]; exact lf_X7_15) tyX7 tyX7_ok nmX7 rfl rfl (oText_l ht) (oText_o ht) rfl hd kk
theorem tg_X4_25 {t : Nat} (ht : oText t) (hy : y.cls = RX4) (hd : decode cc pc = .ok (.getfield 25, 3)) (kk : qJ l G y cc mL rt d (pc + 3) L (.int (iI (μ t 1)) :: st) (lay μ) (lf em F)) : qJ l G y cc mL rt d pc L (.ref t :: st) (lay μ) (lf em F) := T_getI (ci := 7) (k := 1) rfl inX7 (by decide) (by rw [hy]; exact lf_X4_25) (oText_l ht) (oText_o ht) rfl hd kk
theorem tp_X4_25 {t : Nat} (ht : oText t) {z : Int} (hy : y.cls = RX4) (hd : decode cc pc = .ok (.putfield 25, 3)) (kk : qJ l G y cc mL rt d (pc + 3) L st (lay (wr μ t 1 z)) (lf em F)) : qJ l G y cc mL rt d pc L (.int (iI z) :: .ref t :: st) (lay μ) (lf em F) := T_putI (ci := 7) (k := 1) rfl inX7 (by decide) (by rw [hy]; exact lf_X4_25) tyX7 tyX7_ok nmX7 rfl rfl (oText_l ht) (oText_o ht) rfl hd kk
theorem tg_X9_143 {t : Nat} (ht : oText t) (hy : y.cls = RX9) (hd : decode cc pc = .ok (.getfield 143, 3)) (kk : qJ l G y cc mL rt d (pc + 3) L (.int (iI (μ t 1)) :: st) (lay μ) (lf em F)) : qJ l G y cc mL rt d pc L (.ref t :: st) (lay μ) (lf em F) := T_getI (ci := 7) (k := 1) rfl inX7 (by decide) (by rw [hy]; exact lf_X9_143) (oText_l ht) (oText_o ht) rfl hd kk
theorem tp_X9_143 {t : Nat} (ht : oText t) {z : Int} (hy : y.cls = RX9) (hd : decode cc pc = .ok (.putfield 143, 3)) (kk : qJ l G y cc mL rt d (pc + 3) L st (lay (wr μ t 1 z)) (lf em F)) : qJ l G y cc mL rt d pc L (.int (iI z) :: .ref t :: st) (lay μ) (lf em F) := T_putI (ci := 7) (k := 1) rfl inX7 (by decide) (by rw [hy]; exact lf_X9_143) tyX7 tyX7_ok nmX7 rfl rfl (oText_l ht) (oText_o ht) rfl hd kk
theorem tg_X9_11 (hy : y.cls = RX9) (hd : decode cc pc = .ok (.getfield 11, 3)) (kk : qJ l G y cc mL rt d (pc + 3) L (.ref 1 :: st) (lay μ) (lf em F)) : qJ l G y cc mL rt d pc L (.ref 0 :: st) (lay μ) (lf em F) := T_getR (ci := 9) (k := 0) rfl inX9 (by decide) (by rw [hy]; exact lf_X9_11) (by decide) rfl rfl hd kk
theorem tg_X9_17 (hy : y.cls = RX9) (hd : decode cc pc = .ok (.getfield 17, 3)) (kk : qJ l G y cc mL rt d (pc + 3) L (.ref 2 :: st) (lay μ) (lf em F)) : qJ l G y cc mL rt d pc L (.ref 0 :: st) (lay μ) (lf em F) := T_getR (ci := 9) (k := 1) rfl inX9 (by decide) (by rw [hy]; exact lf_X9_17) (by decide) rfl rfl hd kk
theorem tg_X9_24 (hy : y.cls = RX9) (hd : decode cc pc = .ok (.getfield 24, 3)) (kk : qJ l G y cc mL rt d (pc + 3) L (.ref 3 :: st) (lay μ) (lf em F)) : qJ l G y cc mL rt d pc L (.ref 0 :: st) (lay μ) (lf em F) := T_getR (ci := 9) (k := 2) rfl inX9 (by decide) (by rw [hy]; exact lf_X9_24) (by decide) rfl rfl hd kk
theorem tg_X9_31 (hy : y.cls = RX9) (hd : decode cc pc = .ok (.getfield 31, 3)) (kk : qJ l G y cc mL rt d (pc + 3) L (.ref 6 :: st) (lay μ) (lf em F)) : qJ l G y cc mL rt d pc L (.ref 0 :: st) (lay μ) (lf em F) := T_getR (ci := 9) (k := 3) rfl inX9 (by decide) (by rw [hy]; exact lf_X9_31) (by decide) rfl rfl hd kk
theorem tg_X9_38 (hy : y.cls = RX9) (hd : decode cc pc = .ok (.getfield 38, 3)) (kk : qJ l G y cc mL rt d (pc + 3) L (.ref 13 :: st) (lay μ) (lf em F)) : qJ l G y cc mL rt d pc L (.ref 0 :: st) (lay μ) (lf em F) := T_getR (ci := 9) (k := 4) rfl inX9 (by decide) (by rw [hy]; exact lf_X9_38) (by decide) rfl rfl hd kk
theorem tg_X9_45 (hy : y.cls = RX9) (hd : decode cc pc = .ok (.getfield 45, 3)) (kk : qJ l G y cc mL rt d (pc + 3) L (.ref 15 :: st) (lay μ) (lf em F)) : qJ l G y cc mL rt d pc L (.ref 0 :: st) (lay μ) (lf em F) := T_getR (ci := 9) (k := 5) rfl inX9 (by decide) (by rw [hy]; exact lf_X9_45) (by decide) rfl rfl hd kk
theorem tg_X9_49 (hy : y.cls = RX9) (hd : decode cc pc = .ok (.getfield 49, 3)) (kk : qJ l G y cc mL rt d (pc + 3) L (.ref 18 :: st) (lay μ) (lf em F)) : qJ l G y cc mL rt d pc L (.ref 0 :: st) (lay μ) (lf em F) := T_getR (ci := 9) (k := 6) rfl inX9 (by decide) (by rw [hy]; exact lf_X9_49) (by decide) rfl rfl hd kk
theorem tg_X9_56 (hy : y.cls = RX9) (hd : decode cc pc = .ok (.getfield 56, 3)) (kk : qJ l G y cc mL rt d (pc + 3) L (.ref 19 :: st) (lay μ) (lf em F)) : qJ l G y cc mL rt d pc L (.ref 0 :: st) (lay μ) (lf em F) := T_getR (ci := 9) (k := 7) rfl inX9 (by decide) (by rw [hy]; exact lf_X9_56) (by decide) rfl rfl hd kk
theorem tg_X9_63 (hy : y.cls = RX9) (hd : decode cc pc = .ok (.getfield 63, 3)) (kk : qJ l G y cc mL rt d (pc + 3) L (.ref 22 :: st) (lay μ) (lf em F)) : qJ l G y cc mL rt d pc L (.ref 0 :: st) (lay μ) (lf em F) := T_getR (ci := 9) (k := 8) rfl inX9 (by decide) (by rw [hy]; exact lf_X9_63) (by decide) rfl rfl hd kk
theorem tg_X9_70 (hy : y.cls = RX9) (hd : decode cc pc = .ok (.getfield 70, 3)) (kk : qJ l G y cc mL rt d (pc + 3) L (.ref 32 :: st) (lay μ) (lf em F)) : qJ l G y cc mL rt d pc L (.ref 0 :: st) (lay μ) (lf em F) := T_getR (ci := 9) (k := 9) rfl inX9 (by decide) (by rw [hy]; exact lf_X9_70) (by decide) rfl rfl hd kk
theorem tg_X9_74 (hy : y.cls = RX9) (hd : decode cc pc = .ok (.getfield 74, 3)) (kk : qJ l G y cc mL rt d (pc + 3) L (.ref 36 :: st) (lay μ) (lf em F)) : qJ l G y cc mL rt d pc L (.ref 0 :: st) (lay μ) (lf em F) := T_getR (ci := 9) (k := 10) rfl inX9 (by decide) (by rw [hy]; exact lf_X9_74) (by decide) rfl rfl hd kk
theorem tg_X9_78 (hy : y.cls = RX9) (hd : decode cc pc = .ok (.getfield 78, 3)) (kk : qJ l G y cc mL rt d (pc + 3) L (.ref 37 :: st) (lay μ) (lf em F)) : qJ l G y cc mL rt d pc L (.ref 0 :: st) (lay μ) (lf em F) := T_getR (ci := 9) (k := 11) rfl inX9 (by decide) (by rw [hy]; exact lf_X9_78) (by decide) rfl rfl hd kk
theorem tg_X9_81 (hy : y.cls = RX9) (hd : decode cc pc = .ok (.getfield 81, 3)) (kk : qJ l G y cc mL rt d (pc + 3) L (.int (iI (μ 0 12)) :: st) (lay μ) (lf em F)) : qJ l G y cc mL rt d pc L (.ref 0 :: st) (lay μ) (lf em F) := T_getI (ci := 9) (k := 12) rfl inX9 (by decide) (by rw [hy]; exact lf_X9_81) (by decide) rfl rfl hd kk
theorem tp_X9_81 {z : Int} (hy : y.cls = RX9) (hd : decode cc pc = .ok (.putfield 81, 3)) (kk : qJ l G y cc mL rt d (pc + 3) L st (lay (wr μ 0 12 z)) (lf em F)) : qJ l G y cc mL rt d pc L (.int (iI z) :: .ref 0 :: st) (lay μ) (lf em F) := T_putI (ci := 9) (k := 12) rfl inX9 (by decide) (by rw [hy]; exact lf_X9_81) tyX9 tyX9_ok nmX9 rfl rfl (by decide) rfl rfl hd kk
theorem tg_X9_85 (hy : y.cls = RX9) (hd : decode cc pc = .ok (.getfield 85, 3)) (kk : qJ l G y cc mL rt d (pc + 3) L (.int (iI (μ 0 13)) :: st) (lay μ) (lf em F)) : qJ l G y cc mL rt d pc L (.ref 0 :: st) (lay μ) (lf em F) := T_getI (ci := 9) (k := 13) rfl inX9 (by decide) (by rw [hy]; exact lf_X9_85) (by decide) rfl rfl hd kk
theorem tp_X9_85 {z : Int} (hy : y.cls = RX9) (hd : decode cc pc = .ok (.putfield 85, 3)) (kk : qJ l G y cc mL rt d (pc + 3) L st (lay (wr μ 0 13 z)) (lf em F)) : qJ l G y cc mL rt d pc L (.int (iI z) :: .ref 0 :: st) (lay μ) (lf em F) := T_putI (ci := 9) (k := 13) rfl inX9 (by decide) (by rw [hy]; exact lf_X9_85) tyX9 tyX9_ok nmX9 rfl rfl (by decide) rfl rfl hd kk
theorem tg_X9_88 (hy : y.cls = RX9) (hd : decode cc pc = .ok (.getfield 88, 3)) (kk : qJ l G y cc mL rt d (pc + 3) L (.long (iL (μ 0 14)) :: st) (lay μ) (lf em F)) : qJ l G y cc mL rt d pc L (.ref 0 :: st) (lay μ) (lf em F) := T_getL (ci := 9) (k := 14) rfl inX9 (by decide) (by rw [hy]; exact lf_X9_88) (by decide) rfl rfl hd kk
theorem tp_X9_88 {z : Int} (hy : y.cls = RX9) (hd : decode cc pc = .ok (.putfield 88, 3)) (kk : qJ l G y cc mL rt d (pc + 3) L st (lay (wr μ 0 14 z)) (lf em F)) : qJ l G y cc mL rt d pc L (.long (iL z) :: .ref 0 :: st) (lay μ) (lf em F) := T_putL (ci := 9) (k := 14) rfl inX9 (by decide) (by rw [hy]; exact lf_X9_88) tyX9 tyX9_ok nmX9 rfl rfl (by decide) rfl rfl hd kk
theorem tg_X9_92 (hy : y.cls = RX9) (hd : decode cc pc = .ok (.getfield 92, 3)) (kk : qJ l G y cc mL rt d (pc + 3) L (.long (iL (μ 0 15)) :: st) (lay μ) (lf em F)) : qJ l G y cc mL rt d pc L (.ref 0 :: st) (lay μ) (lf em F) := T_getL (ci := 9) (k := 15) rfl inX9 (by decide) (by rw [hy]; exact lf_X9_92) (by decide) rfl rfl hd kk
theorem tp_X9_92 {z : Int} (hy : y.cls = RX9) (hd : decode cc pc = .ok (.putfield 92, 3)) (kk : qJ l G y cc mL rt d (pc + 3) L st (lay (wr μ 0 15 z)) (lf em F)) : qJ l G y cc mL rt d pc L (.long (iL z) :: .ref 0 :: st) (lay μ) (lf em F) := T_putL (ci := 9) (k := 15) rfl inX9 (by decide) (by rw [hy]; exact lf_X9_92) tyX9 tyX9_ok nmX9 rfl rfl (by decide) rfl rfl hd kk
theorem tg_X10_104 (hy : y.cls = RX10) (hd : decode cc pc = .ok (.getfield 104, 3)) (kk : qJ l G y cc mL rt d (pc + 3) L (.int (iI (μ 67 0)) :: st) (lay μ) (lf em F)) : qJ l G y cc mL rt d pc L (.ref 67 :: st) (lay μ) (lf em F) := T_getI (ci := 10) (k := 0) rfl inX10 (by decide) (by rw [hy]; exact lf_X10_104) (by decide) rfl rfl hd kk
theorem tp_X10_104 {z : Int} (hy : y.cls = RX10) (hd : decode cc pc = .ok (.putfield 104, 3)) (kk : qJ l G y cc mL rt d (pc + 3) L st (lay (wr μ 67 0 z)) (lf em F)) : qJ l G y cc mL rt d pc L (.int (iI z) :: .ref 67 :: st) (lay μ) (lf em F) := T_putI (ci := 10) (k := 0) rfl inX10 (by decide) (by rw [hy]; exact lf_X10_104) tyX10 tyX10_ok nmX10 rfl rfl (by decide) rfl rfl hd kk
theorem tg_X10_107 (hy : y.cls = RX10) (hd : decode cc pc = .ok (.getfield 107, 3)) (kk : qJ l G y cc mL rt d (pc + 3) L (.int (iI (μ 67 1)) :: st) (lay μ) (lf em F)) : qJ l G y cc mL rt d pc L (.ref 67 :: st) (lay μ) (lf em F) := T_getI (ci := 10) (k := 1) rfl inX10 (by decide) (by rw [hy]; exact lf_X10_107) (by decide) rfl rfl hd kk
theorem tp_X10_107 {z : Int} (hy : y.cls = RX10) (hd : decode cc pc = .ok (.putfield 107, 3)) (kk : qJ l G y cc mL rt d (pc + 3) L st (lay (wr μ 67 1 z)) (lf em F)) : qJ l G y cc mL rt d pc L (.int (iI z) :: .ref 67 :: st) (lay μ) (lf em F) := T_putI (ci := 10) (k := 1) rfl inX10 (by decide) (by rw [hy]; exact lf_X10_107) tyX10 tyX10_ok nmX10 rfl rfl (by decide) rfl rfl hd kk
theorem tg_X10_7 (hy : y.cls = RX10) (hd : decode cc pc = .ok (.getfield 7, 3)) (kk : qJ l G y cc mL rt d (pc + 3) L (.ref 68 :: st) (lay μ) (lf em F)) : qJ l G y cc mL rt d pc L (.ref 67 :: st) (lay μ) (lf em F) := T_getR (ci := 10) (k := 2) rfl inX10 (by decide) (by rw [hy]; exact lf_X10_7) (by decide) rfl rfl hd kk
theorem tg_X10_13 (hy : y.cls = RX10) (hd : decode cc pc = .ok (.getfield 13, 3)) (kk : qJ l G y cc mL rt d (pc + 3) L (.ref 69 :: st) (lay μ) (lf em F)) : qJ l G y cc mL rt d pc L (.ref 67 :: st) (lay μ) (lf em F) := T_getR (ci := 10) (k := 3) rfl inX10 (by decide) (by rw [hy]; exact lf_X10_13) (by decide) rfl rfl hd kk
theorem tg_X10_16 (hy : y.cls = RX10) (hd : decode cc pc = .ok (.getfield 16, 3)) (kk : qJ l G y cc mL rt d (pc + 3) L (.ref 70 :: st) (lay μ) (lf em F)) : qJ l G y cc mL rt d pc L (.ref 67 :: st) (lay μ) (lf em F) := T_getR (ci := 10) (k := 4) rfl inX10 (by decide) (by rw [hy]; exact lf_X10_16) (by decide) rfl rfl hd kk
theorem tg_X10_19 (hy : y.cls = RX10) (hd : decode cc pc = .ok (.getfield 19, 3)) (kk : qJ l G y cc mL rt d (pc + 3) L (.ref 71 :: st) (lay μ) (lf em F)) : qJ l G y cc mL rt d pc L (.ref 67 :: st) (lay μ) (lf em F) := T_getR (ci := 10) (k := 5) rfl inX10 (by decide) (by rw [hy]; exact lf_X10_19) (by decide) rfl rfl hd kk
theorem tg_X10_22 (hy : y.cls = RX10) (hd : decode cc pc = .ok (.getfield 22, 3)) (kk : qJ l G y cc mL rt d (pc + 3) L (.ref 72 :: st) (lay μ) (lf em F)) : qJ l G y cc mL rt d pc L (.ref 67 :: st) (lay μ) (lf em F) := T_getR (ci := 10) (k := 6) rfl inX10 (by decide) (by rw [hy]; exact lf_X10_22) (by decide) rfl rfl hd kk
theorem tg_X10_25 (hy : y.cls = RX10) (hd : decode cc pc = .ok (.getfield 25, 3)) (kk : qJ l G y cc mL rt d (pc + 3) L (.ref 73 :: st) (lay μ) (lf em F)) : qJ l G y cc mL rt d pc L (.ref 67 :: st) (lay μ) (lf em F) := T_getR (ci := 10) (k := 7) rfl inX10 (by decide) (by rw [hy]; exact lf_X10_25) (by decide) rfl rfl hd kk
theorem tg_X10_156 (hy : y.cls = RX10) (hd : decode cc pc = .ok (.getfield 156, 3)) (kk : qJ l G y cc mL rt d (pc + 3) L (.int (iI (μ 67 8)) :: st) (lay μ) (lf em F)) : qJ l G y cc mL rt d pc L (.ref 67 :: st) (lay μ) (lf em F) := T_getI (ci := 10) (k := 8) rfl inX10 (by decide) (by rw [hy]; exact lf_X10_156) (by decide) rfl rfl hd kk
theorem tp_X10_156 {z : Int} (hy : y.cls = RX10) (hd : decode cc pc = .ok (.putfield 156, 3)) (kk : qJ l G y cc mL rt d (pc + 3) L st (lay (wr μ 67 8 z)) (lf em F)) : qJ l G y cc mL rt d pc L (.int (iI z) :: .ref 67 :: st) (lay μ) (lf em F) := T_putI (ci := 10) (k := 8) rfl inX10 (by decide) (by rw [hy]; exact lf_X10_156) tyX10 tyX10_ok nmX10 rfl rfl (by decide) rfl rfl hd kk
theorem tg_X10_28 (hy : y.cls = RX10) (hd : decode cc pc = .ok (.getfield 28, 3)) (kk : qJ l G y cc mL rt d (pc + 3) L (.ref 74 :: st) (lay μ) (lf em F)) : qJ l G y cc mL rt d pc L (.ref 67 :: st) (lay μ) (lf em F) := T_getR (ci := 10) (k := 9) rfl inX10 (by decide) (by rw [hy]; exact lf_X10_28) (by decide) rfl rfl hd kk
theorem tg_X10_118 (hy : y.cls = RX10) (hd : decode cc pc = .ok (.getfield 118, 3)) (kk : qJ l G y cc mL rt d (pc + 3) L (.int (iI (μ 67 10)) :: st) (lay μ) (lf em F)) : qJ l G y cc mL rt d pc L (.ref 67 :: st) (lay μ) (lf em F) := T_getI (ci := 10) (k := 10) rfl inX10 (by decide) (by rw [hy]; exact lf_X10_118) (by decide) rfl rfl hd kk
theorem tp_X10_118 {z : Int} (hy : y.cls = RX10) (hd : decode cc pc = .ok (.putfield 118, 3)) (kk : qJ l G y cc mL rt d (pc + 3) L st (lay (wr μ 67 10 z)) (lf em F)) : qJ l G y cc mL rt d pc L (.int (iI z) :: .ref 67 :: st) (lay μ) (lf em F) := T_putI (ci := 10) (k := 10) rfl inX10 (by decide) (by rw [hy]; exact lf_X10_118) tyX10 tyX10_ok nmX10 rfl rfl (by decide) rfl rfl hd kk
theorem tg_X10_284 (hy : y.cls = RX10) (hd : decode cc pc = .ok (.getfield 284, 3)) (kk : qJ l G y cc mL rt d (pc + 3) L (.long (iL (μ 67 11)) :: st) (lay μ) (lf em F)) : qJ l G y cc mL rt d pc L (.ref 67 :: st) (lay μ) (lf em F) := T_getL (ci := 10) (k := 11) rfl inX10 (by decide) (by rw [hy]; exact lf_X10_284) (by decide) rfl rfl hd kk
theorem tp_X10_284 {z : Int} (hy : y.cls = RX10) (hd : decode cc pc = .ok (.putfield 284, 3)) (kk : qJ l G y cc mL rt d (pc + 3) L st (lay (wr μ 67 11 z)) (lf em F)) : qJ l G y cc mL rt d pc L (.long (iL z) :: .ref 67 :: st) (lay μ) (lf em F) := T_putL (ci := 10) (k := 11) rfl inX10 (by decide) (by rw [hy]; exact lf_X10_284) tyX10 tyX10_ok nmX10 rfl rfl (by decide) rfl rfl hd kk
theorem tg_X10_31 (hy : y.cls = RX10) (hd : decode cc pc = .ok (.getfield 31, 3)) (kk : qJ l G y cc mL rt d (pc + 3) L (.long (iL (μ 67 12)) :: st) (lay μ) (lf em F)) : qJ l G y cc mL rt d pc L (.ref 67 :: st) (lay μ) (lf em F) := T_getL (ci := 10) (k := 12) rfl inX10 (by decide) (by rw [hy]; exact lf_X10_31) (by decide) rfl rfl hd kk
theorem tp_X10_31 {z : Int} (hy : y.cls = RX10) (hd : decode cc pc = .ok (.putfield 31, 3)) (kk : qJ l G y cc mL rt d (pc + 3) L st (lay (wr μ 67 12 z)) (lf em F)) : qJ l G y cc mL rt d pc L (.long (iL z) :: .ref 67 :: st) (lay μ) (lf em F) := T_putL (ci := 10) (k := 12) rfl inX10 (by decide) (by rw [hy]; exact lf_X10_31) tyX10 tyX10_ok nmX10 rfl rfl (by decide) rfl rfl hd kk
theorem tg_X10_92 (hy : y.cls = RX10) (hd : decode cc pc = .ok (.getfield 92, 3)) (kk : qJ l G y cc mL rt d (pc + 3) L (.int (iI (μ 67 13)) :: st) (lay μ) (lf em F)) : qJ l G y cc mL rt d pc L (.ref 67 :: st) (lay μ) (lf em F) := T_getI (ci := 10) (k := 13) rfl inX10 (by decide) (by rw [hy]; exact lf_X10_92) (by decide) rfl rfl hd kk
theorem tp_X10_92 {z : Int} (hy : y.cls = RX10) (hd : decode cc pc = .ok (.putfield 92, 3)) (kk : qJ l G y cc mL rt d (pc + 3) L st (lay (wr μ 67 13 z)) (lf em F)) : qJ l G y cc mL rt d pc L (.int (iI z) :: .ref 67 :: st) (lay μ) (lf em F) := T_putI (ci := 10) (k := 13) rfl inX10 (by decide) (by rw [hy]; exact lf_X10_92) tyX10 tyX10_ok nmX10 rfl rfl (by decide) rfl rfl hd kk
theorem tg_X10_35 (hy : y.cls = RX10) (hd : decode cc pc = .ok (.getfield 35, 3)) (kk : qJ l G y cc mL rt d (pc + 3) L (.ref 75 :: st) (lay μ) (lf em F)) : qJ l G y cc mL rt d pc L (.ref 67 :: st) (lay μ) (lf em F) := T_getR (ci := 10) (k := 14) rfl inX10 (by decide) (by rw [hy]; exact lf_X10_35) (by decide) rfl rfl hd kk
theorem tg_X10_38 (hy : y.cls = RX10) (hd : decode cc pc = .ok (.getfield 38, 3)) (kk : qJ l G y cc mL rt d (pc + 3) L (.ref 76 :: st) (lay μ) (lf em F)) : qJ l G y cc mL rt d pc L (.ref 67 :: st) (lay μ) (lf em F) := T_getR (ci := 10) (k := 15) rfl inX10 (by decide) (by rw [hy]; exact lf_X10_38) (by decide) rfl rfl hd kk
theorem tg_X10_41 (hy : y.cls = RX10) (hd : decode cc pc = .ok (.getfield 41, 3)) (kk : qJ l G y cc mL rt d (pc + 3) L (.ref 77 :: st) (lay μ) (lf em F)) : qJ l G y cc mL rt d pc L (.ref 67 :: st) (lay μ) (lf em F) := T_getR (ci := 10) (k := 16) rfl inX10 (by decide) (by rw [hy]; exact lf_X10_41) (by decide) rfl rfl hd kk
theorem tg_X10_44 (hy : y.cls = RX10) (hd : decode cc pc = .ok (.getfield 44, 3)) (kk : qJ l G y cc mL rt d (pc + 3) L (.ref 78 :: st) (lay μ) (lf em F)) : qJ l G y cc mL rt d pc L (.ref 67 :: st) (lay μ) (lf em F) := T_getR (ci := 10) (k := 17) rfl inX10 (by decide) (by rw [hy]; exact lf_X10_44) (by decide) rfl rfl hd kk
theorem tg_X10_47 (hy : y.cls = RX10) (hd : decode cc pc = .ok (.getfield 47, 3)) (kk : qJ l G y cc mL rt d (pc + 3) L (.ref 79 :: st) (lay μ) (lf em F)) : qJ l G y cc mL rt d pc L (.ref 67 :: st) (lay μ) (lf em F) := T_getR (ci := 10) (k := 18) rfl inX10 (by decide) (by rw [hy]; exact lf_X10_47) (by decide) rfl rfl hd kk
theorem tg_X10_50 (hy : y.cls = RX10) (hd : decode cc pc = .ok (.getfield 50, 3)) (kk : qJ l G y cc mL rt d (pc + 3) L (.ref 80 :: st) (lay μ) (lf em F)) : qJ l G y cc mL rt d pc L (.ref 67 :: st) (lay μ) (lf em F) := T_getR (ci := 10) (k := 19) rfl inX10 (by decide) (by rw [hy]; exact lf_X10_50) (by decide) rfl rfl hd kk
theorem tg_X10_53 (hy : y.cls = RX10) (hd : decode cc pc = .ok (.getfield 53, 3)) (kk : qJ l G y cc mL rt d (pc + 3) L (.ref 81 :: st) (lay μ) (lf em F)) : qJ l G y cc mL rt d pc L (.ref 67 :: st) (lay μ) (lf em F) := T_getR (ci := 10) (k := 20) rfl inX10 (by decide) (by rw [hy]; exact lf_X10_53) (by decide) rfl rfl hd kk
theorem tg_X10_56 (hy : y.cls = RX10) (hd : decode cc pc = .ok (.getfield 56, 3)) (kk : qJ l G y cc mL rt d (pc + 3) L (.ref 82 :: st) (lay μ) (lf em F)) : qJ l G y cc mL rt d pc L (.ref 67 :: st) (lay μ) (lf em F) := T_getR (ci := 10) (k := 21) rfl inX10 (by decide) (by rw [hy]; exact lf_X10_56) (by decide) rfl rfl hd kk
theorem tg_X10_59 (hy : y.cls = RX10) (hd : decode cc pc = .ok (.getfield 59, 3)) (kk : qJ l G y cc mL rt d (pc + 3) L (.ref 83 :: st) (lay μ) (lf em F)) : qJ l G y cc mL rt d pc L (.ref 67 :: st) (lay μ) (lf em F) := T_getR (ci := 10) (k := 22) rfl inX10 (by decide) (by rw [hy]; exact lf_X10_59) (by decide) rfl rfl hd kk
theorem tg_X10_62 (hy : y.cls = RX10) (hd : decode cc pc = .ok (.getfield 62, 3)) (kk : qJ l G y cc mL rt d (pc + 3) L (.ref 84 :: st) (lay μ) (lf em F)) : qJ l G y cc mL rt d pc L (.ref 67 :: st) (lay μ) (lf em F) := T_getR (ci := 10) (k := 23) rfl inX10 (by decide) (by rw [hy]; exact lf_X10_62) (by decide) rfl rfl hd kk
theorem tg_X10_124 (hy : y.cls = RX10) (hd : decode cc pc = .ok (.getfield 124, 3)) (kk : qJ l G y cc mL rt d (pc + 3) L (.int (iI (μ 67 24)) :: st) (lay μ) (lf em F)) : qJ l G y cc mL rt d pc L (.ref 67 :: st) (lay μ) (lf em F) := T_getI (ci := 10) (k := 24) rfl inX10 (by decide) (by rw [hy]; exact lf_X10_124) (by decide) rfl rfl hd kk
theorem tp_X10_124 {z : Int} (hy : y.cls = RX10) (hd : decode cc pc = .ok (.putfield 124, 3)) (kk : qJ l G y cc mL rt d (pc + 3) L st (lay (wr μ 67 24 z)) (lf em F)) : qJ l G y cc mL rt d pc L (.int (iI z) :: .ref 67 :: st) (lay μ) (lf em F) := T_putI (ci := 10) (k := 24) rfl inX10 (by decide) (by rw [hy]; exact lf_X10_124) tyX10 tyX10_ok nmX10 rfl rfl (by decide) rfl rfl hd kk
theorem tg_X10_130 (hy : y.cls = RX10) (hd : decode cc pc = .ok (.getfield 130, 3)) (kk : qJ l G y cc mL rt d (pc + 3) L (.int (iI (μ 67 25)) :: st) (lay μ) (lf em F)) : qJ l G y cc mL rt d pc L (.ref 67 :: st) (lay μ) (lf em F) := T_getI (ci := 10) (k := 25) rfl inX10 (by decide) (by rw [hy]; exact lf_X10_130) (by decide) rfl rfl hd kk
theorem tp_X10_130 {z : Int} (hy : y.cls = RX10) (hd : decode cc pc = .ok (.putfield 130, 3)) (kk : qJ l G y cc mL rt d (pc + 3) L st (lay (wr μ 67 25 z)) (lf em F)) : qJ l G y cc mL rt d pc L (.int (iI z) :: .ref 67 :: st) (lay μ) (lf em F) := T_putI (ci := 10) (k := 25) rfl inX10 (by decide) (by rw [hy]; exact lf_X10_130) tyX10 tyX10_ok nmX10 rfl rfl (by decide) rfl rfl hd kk
theorem tg_X10_139 (hy : y.cls = RX10) (hd : decode cc pc = .ok (.getfield 139, 3)) (kk : qJ l G y cc mL rt d (pc + 3) L (.int (iI (μ 67 26)) :: st) (lay μ) (lf em F)) : qJ l G y cc mL rt d pc L (.ref 67 :: st) (lay μ) (lf em F) := T_getI (ci := 10) (k := 26) rfl inX10 (by decide) (by rw [hy]; exact lf_X10_139) (by decide) rfl rfl hd kk
theorem tp_X10_139 {z : Int} (hy : y.cls = RX10) (hd : decode cc pc = .ok (.putfield 139, 3)) (kk : qJ l G y cc mL rt d (pc + 3) L st (lay (wr μ 67 26 z)) (lf em F)) : qJ l G y cc mL rt d pc L (.int (iI z) :: .ref 67 :: st) (lay μ) (lf em F) := T_putI (ci := 10) (k := 26) rfl inX10 (by decide) (by rw [hy]; exact lf_X10_139) tyX10 tyX10_ok nmX10 rfl rfl (by decide) rfl rfl hd kk
theorem tg_X10_136 (hy : y.cls = RX10) (hd : decode cc pc = .ok (.getfield 136, 3)) (kk : qJ l G y cc mL rt d (pc + 3) L (.int (iI (μ 67 27)) :: st) (lay μ) (lf em F)) : qJ l G y cc mL rt d pc L (.ref 67 :: st) (lay μ) (lf em F) := T_getI (ci := 10) (k := 27) rfl inX10 (by decide) (by rw [hy]; exact lf_X10_136) (by decide) rfl rfl hd kk
theorem tp_X10_136 {z : Int} (hy : y.cls = RX10) (hd : decode cc pc = .ok (.putfield 136, 3)) (kk : qJ l G y cc mL rt d (pc + 3) L st (lay (wr μ 67 27 z)) (lf em F)) : qJ l G y cc mL rt d pc L (.int (iI z) :: .ref 67 :: st) (lay μ) (lf em F) := T_putI (ci := 10) (k := 27) rfl inX10 (by decide) (by rw [hy]; exact lf_X10_136) tyX10 tyX10_ok nmX10 rfl rfl (by decide) rfl rfl hd kk
theorem tg_X10_65 (hy : y.cls = RX10) (hd : decode cc pc = .ok (.getfield 65, 3)) (kk : qJ l G y cc mL rt d (pc + 3) L (.ref 85 :: st) (lay μ) (lf em F)) : qJ l G y cc mL rt d pc L (.ref 67 :: st) (lay μ) (lf em F) := T_getR (ci := 10) (k := 28) rfl inX10 (by decide) (by rw [hy]; exact lf_X10_65) (by decide) rfl rfl hd kk
theorem tg_X10_68 (hy : y.cls = RX10) (hd : decode cc pc = .ok (.getfield 68, 3)) (kk : qJ l G y cc mL rt d (pc + 3) L (.ref 86 :: st) (lay μ) (lf em F)) : qJ l G y cc mL rt d pc L (.ref 67 :: st) (lay μ) (lf em F) := T_getR (ci := 10) (k := 29) rfl inX10 (by decide) (by rw [hy]; exact lf_X10_68) (by decide) rfl rfl hd kk
theorem tg_X10_71 (hy : y.cls = RX10) (hd : decode cc pc = .ok (.getfield 71, 3)) (kk : qJ l G y cc mL rt d (pc + 3) L (.ref 87 :: st) (lay μ) (lf em F)) : qJ l G y cc mL rt d pc L (.ref 67 :: st) (lay μ) (lf em F) := T_getR (ci := 10) (k := 30) rfl inX10 (by decide) (by rw [hy]; exact lf_X10_71) (by decide) rfl rfl hd kk
theorem tg_X10_74 (hy : y.cls = RX10) (hd : decode cc pc = .ok (.getfield 74, 3)) (kk : qJ l G y cc mL rt d (pc + 3) L (.ref 88 :: st) (lay μ) (lf em F)) : qJ l G y cc mL rt d pc L (.ref 67 :: st) (lay μ) (lf em F) := T_getR (ci := 10) (k := 31) rfl inX10 (by decide) (by rw [hy]; exact lf_X10_74) (by decide) rfl rfl hd kk
theorem tg_X10_77 (hy : y.cls = RX10) (hd : decode cc pc = .ok (.getfield 77, 3)) (kk : qJ l G y cc mL rt d (pc + 3) L (.ref 89 :: st) (lay μ) (lf em F)) : qJ l G y cc mL rt d pc L (.ref 67 :: st) (lay μ) (lf em F) := T_getR (ci := 10) (k := 32) rfl inX10 (by decide) (by rw [hy]; exact lf_X10_77) (by decide) rfl rfl hd kk
theorem tg_X10_80 (hy : y.cls = RX10) (hd : decode cc pc = .ok (.getfield 80, 3)) (kk : qJ l G y cc mL rt d (pc + 3) L (.ref 90 :: st) (lay μ) (lf em F)) : qJ l G y cc mL rt d pc L (.ref 67 :: st) (lay μ) (lf em F) := T_getR (ci := 10) (k := 33) rfl inX10 (by decide) (by rw [hy]; exact lf_X10_80) (by decide) rfl rfl hd kk
theorem tg_X10_83 (hy : y.cls = RX10) (hd : decode cc pc = .ok (.getfield 83, 3)) (kk : qJ l G y cc mL rt d (pc + 3) L (.ref 91 :: st) (lay μ) (lf em F)) : qJ l G y cc mL rt d pc L (.ref 67 :: st) (lay μ) (lf em F) := T_getR (ci := 10) (k := 34) rfl inX10 (by decide) (by rw [hy]; exact lf_X10_83) (by decide) rfl rfl hd kk
theorem tg_X10_173 (hy : y.cls = RX10) (hd : decode cc pc = .ok (.getfield 173, 3)) (kk : qJ l G y cc mL rt d (pc + 3) L (.int (iI (μ 67 35)) :: st) (lay μ) (lf em F)) : qJ l G y cc mL rt d pc L (.ref 67 :: st) (lay μ) (lf em F) := T_getI (ci := 10) (k := 35) rfl inX10 (by decide) (by rw [hy]; exact lf_X10_173) (by decide) rfl rfl hd kk
theorem tp_X10_173 {z : Int} (hy : y.cls = RX10) (hd : decode cc pc = .ok (.putfield 173, 3)) (kk : qJ l G y cc mL rt d (pc + 3) L st (lay (wr μ 67 35 z)) (lf em F)) : qJ l G y cc mL rt d pc L (.int (iI z) :: .ref 67 :: st) (lay μ) (lf em F) := T_putI (ci := 10) (k := 35) rfl inX10 (by decide) (by rw [hy]; exact lf_X10_173) tyX10 tyX10_ok nmX10 rfl rfl (by decide) rfl rfl hd kk
theorem tg_X10_170 (hy : y.cls = RX10) (hd : decode cc pc = .ok (.getfield 170, 3)) (kk : qJ l G y cc mL rt d (pc + 3) L (.int (iI (μ 67 36)) :: st) (lay μ) (lf em F)) : qJ l G y cc mL rt d pc L (.ref 67 :: st) (lay μ) (lf em F) := T_getI (ci := 10) (k := 36) rfl inX10 (by decide) (by rw [hy]; exact lf_X10_170) (by decide) rfl rfl hd kk
theorem tp_X10_170 {z : Int} (hy : y.cls = RX10) (hd : decode cc pc = .ok (.putfield 170, 3)) (kk : qJ l G y cc mL rt d (pc + 3) L st (lay (wr μ 67 36 z)) (lf em F)) : qJ l G y cc mL rt d pc L (.int (iI z) :: .ref 67 :: st) (lay μ) (lf em F) := T_putI (ci := 10) (k := 36) rfl inX10 (by decide) (by rw [hy]; exact lf_X10_170) tyX10 tyX10_ok nmX10 rfl rfl (by decide) rfl rfl hd kk
theorem tg_X10_86 (hy : y.cls = RX10) (hd : decode cc pc = .ok (.getfield 86, 3)) (kk : qJ l G y cc mL rt d (pc + 3) L (.ref 92 :: st) (lay μ) (lf em F)) : qJ l G y cc mL rt d pc L (.ref 67 :: st) (lay μ) (lf em F) := T_getR (ci := 10) (k := 37) rfl inX10 (by decide) (by rw [hy]; exact lf_X10_86) (by decide) rfl rfl hd kk
theorem tg_X10_89 (hy : y.cls = RX10) (hd : decode cc pc = .ok (.getfield 89, 3)) (kk : qJ l G y cc mL rt d (pc + 3) L (.ref 93 :: st) (lay μ) (lf em F)) : qJ l G y cc mL rt d pc L (.ref 67 :: st) (lay μ) (lf em F) := T_getR (ci := 10) (k := 38) rfl inX10 (by decide) (by rw [hy]; exact lf_X10_89) (by decide) rfl rfl hd kk
end PL
theorem ok_yX9_row : okV yX9_row cX9_row 3 (some .int) 2 := ⟨im_yX9_row, se_yX9_row, ini_X9, cd_yX9_row, by decide, by decide +kernel⟩
theorem ok_yX9_isRow : okT yX9_isRow cX9_isRow 1 (some .boolean) 1 := ⟨sm_yX9_isRow, ini_X9, cd_yX9_isRow, by decide, by decide +kernel⟩
theorem ok_yX9_found : okV yX9_found cX9_found 2 (some .int) 1 := ⟨im_yX9_found, se_yX9_found, ini_X9, cd_yX9_found, by decide, by decide +kernel⟩
theorem ok_yX5_begin : okV yX5_begin cX5_begin 2 none 1 := ⟨im_yX5_begin, se_yX5_begin, ini_X5, cd_yX5_begin, by decide, by decide +kernel⟩
theorem ok_yJ7_fill_53178 : okT yJ7_fill_53178 cJ7_fill_53178 4 none 2 := ⟨sm_yJ7_fill_53178, ini_J7, cd_yJ7_fill_53178, by decide, by decide +kernel⟩
theorem ok_yX9_lay : okV yX9_lay cX9_lay 5 (some .int) 3 := ⟨im_yX9_lay, se_yX9_lay, ini_X9, cd_yX9_lay, by decide, by decide +kernel⟩
theorem ok_yX9_placeRefusal : okV yX9_placeRefusal cX9_placeRefusal 3 (some .int) 2 := ⟨im_yX9_placeRefusal, se_yX9_placeRefusal, ini_X9, cd_yX9_placeRefusal, by decide, by decide +kernel⟩
theorem ok_yX5_isThere : okV yX5_isThere cX5_isThere 1 (some .boolean) 0 := ⟨im_yX5_isThere, se_yX5_isThere, ini_X5, cd_yX5_isThere, by decide, by decide +kernel⟩
theorem ok_yX9_at : okV yX9_at cX9_at 4 (some .int) 2 := ⟨im_yX9_at, se_yX9_at, ini_X9, cd_yX9_at, by decide, by decide +kernel⟩
theorem ok_yX9_tear : okV yX9_tear cX9_tear 2 (some .int) 1 := ⟨im_yX9_tear, se_yX9_tear, ini_X9, cd_yX9_tear, by decide, by decide +kernel⟩
theorem ok_yX9_copy : okV yX9_copy cX9_copy 6 (some .int) 5 := ⟨im_yX9_copy, se_yX9_copy, ini_X9, cd_yX9_copy, by decide, by decide +kernel⟩
theorem ok_yX5_hasMany : okV yX5_hasMany cX5_hasMany 3 (some .boolean) 2 := ⟨im_yX5_hasMany, se_yX5_hasMany, ini_X5, cd_yX5_hasMany, by decide, by decide +kernel⟩
theorem ok_yX9_mean : okV yX9_mean cX9_mean 3 (some .int) 1 := ⟨im_yX9_mean, se_yX9_mean, ini_X9, cd_yX9_mean, by decide, by decide +kernel⟩
theorem ok_yX5_sum : okV yX5_sum cX5_sum 4 (some .long) 0 := ⟨im_yX5_sum, se_yX5_sum, ini_X5, cd_yX5_sum, by decide, by decide +kernel⟩
theorem ok_yX9_text : okV yX9_text cX9_text 3 (some .int) 2 := ⟨im_yX9_text, se_yX9_text, ini_X9, cd_yX9_text, by decide, by decide +kernel⟩
theorem ok_yX9_isText : okT yX9_isText cX9_isText 1 (some .boolean) 1 := ⟨sm_yX9_isText, ini_X9, cd_yX9_isText, by decide, by decide +kernel⟩
theorem ok_yX7_begin : okV yX7_begin cX7_begin 2 none 1 := ⟨im_yX7_begin, se_yX7_begin, ini_X7, cd_yX7_begin, by decide, by decide +kernel⟩
theorem ok_yJ7_fill_031fb : okT yJ7_fill_031fb cJ7_fill_031fb 4 none 2 := ⟨sm_yJ7_fill_031fb, ini_J7, cd_yJ7_fill_031fb, by decide, by decide +kernel⟩
theorem ok_yX9_put : okV yX9_put cX9_put 5 (some .int) 3 := ⟨im_yX9_put, se_yX9_put, ini_X9, cd_yX9_put, by decide, by decide +kernel⟩
theorem ok_yX7_isThere : okV yX7_isThere cX7_isThere 1 (some .boolean) 0 := ⟨im_yX7_isThere, se_yX7_isThere, ini_X7, cd_yX7_isThere, by decide, by decide +kernel⟩
theorem ok_yX9_fault : okV yX9_fault cX9_fault 2 (some .int) 1 := ⟨im_yX9_fault, se_yX9_fault, ini_X9, cd_yX9_fault, by decide, by decide +kernel⟩
theorem ok_yX4_faultIn : okV yX4_faultIn cX4_faultIn 6 (some .int) 1 := ⟨im_yX4_faultIn, se_yX4_faultIn, ini_X4, cd_yX4_faultIn, by decide, by decide +kernel⟩
theorem ok_yX4_kindOf : okT yX4_kindOf cX4_kindOf 2 (some .int) 1 := ⟨sm_yX4_kindOf, ini_X4, cd_yX4_kindOf, by decide, by decide +kernel⟩
theorem ok_yX4_faultInCape : okV yX4_faultInCape cX4_faultInCape 6 (some .int) 2 := ⟨im_yX4_faultInCape, se_yX4_faultInCape, ini_X4, cd_yX4_faultInCape, by decide, by decide +kernel⟩
theorem ok_yX4_figureAt : okT yX4_figureAt cX4_figureAt 3 (some .int) 2 := ⟨sm_yX4_figureAt, ini_X4, cd_yX4_figureAt, by decide, by decide +kernel⟩
theorem ok_yX4_faultInValley : okV yX4_faultInValley cX4_faultInValley 7 (some .int) 2 := ⟨im_yX4_faultInValley, se_yX4_faultInValley, ini_X4, cd_yX4_faultInValley, by decide, by decide +kernel⟩
theorem ok_yX4_leastFigure : okV yX4_leastFigure cX4_leastFigure 3 (some .int) 2 := ⟨im_yX4_leastFigure, se_yX4_leastFigure, ini_X4, cd_yX4_leastFigure, by decide, by decide +kernel⟩
theorem ok_yX9_year : okV yX9_year cX9_year 3 (some .int) 1 := ⟨im_yX9_year, se_yX9_year, ini_X9, cd_yX9_year, by decide, by decide +kernel⟩
theorem ok_yX8_begin : okV yX8_begin cX8_begin 4 none 1 := ⟨im_yX8_begin, se_yX8_begin, ini_X8, cd_yX8_begin, by decide, by decide +kernel⟩
theorem ok_yX1_begin : okV yX1_begin cX1_begin 3 none 1 := ⟨im_yX1_begin, se_yX1_begin, ini_X1, cd_yX1_begin, by decide, by decide +kernel⟩
theorem ok_yX9_cape : okV yX9_cape cX9_cape 3 (some .int) 2 := ⟨im_yX9_cape, se_yX9_cape, ini_X9, cd_yX9_cape, by decide, by decide +kernel⟩
theorem ok_yX8_hasCape : okV yX8_hasCape cX8_hasCape 2 (some .boolean) 1 := ⟨im_yX8_hasCape, se_yX8_hasCape, ini_X8, cd_yX8_hasCape, by decide, by decide +kernel⟩
theorem ok_yX9_factOfCape : okV yX9_factOfCape cX9_factOfCape 3 (some .int) 2 := ⟨im_yX9_factOfCape, se_yX9_factOfCape, ini_X9, cd_yX9_factOfCape, by decide, by decide +kernel⟩
theorem ok_yX1_look : okV yX1_look cX1_look 4 none 1 := ⟨im_yX1_look, se_yX1_look, ini_X1, cd_yX1_look, by decide, by decide +kernel⟩
theorem ok_yX1_isDown : okV yX1_isDown cX1_isDown 1 (some .boolean) 0 := ⟨im_yX1_isDown, se_yX1_isDown, ini_X1, cd_yX1_isDown, by decide, by decide +kernel⟩
theorem ok_yX1_isAtEvenPlace : okV yX1_isAtEvenPlace cX1_isAtEvenPlace 1 (some .boolean) 0 := ⟨im_yX1_isAtEvenPlace, se_yX1_isAtEvenPlace, ini_X1, cd_yX1_isAtEvenPlace, by decide, by decide +kernel⟩
theorem ok_yX8_pullOf : okV yX8_pullOf cX8_pullOf 2 (some .int) 1 := ⟨im_yX8_pullOf, se_yX8_pullOf, ini_X8, cd_yX8_pullOf, by decide, by decide +kernel⟩
theorem ok_yJ6_bitCount_0f7a4 : okT yJ6_bitCount_0f7a4 cJ6_bitCount_0f7a4 1 (some .int) 1 := ⟨sm_yJ6_bitCount_0f7a4, ini_J6, cd_yJ6_bitCount_0f7a4, by decide, by decide +kernel⟩
theorem ok_yX9_valley : okV yX9_valley cX9_valley 3 (some .int) 2 := ⟨im_yX9_valley, se_yX9_valley, ini_X9, cd_yX9_valley, by decide, by decide +kernel⟩
theorem ok_yX8_hasValley : okV yX8_hasValley cX8_hasValley 2 (some .boolean) 1 := ⟨im_yX8_hasValley, se_yX8_hasValley, ini_X8, cd_yX8_hasValley, by decide, by decide +kernel⟩
theorem ok_yX9_factOfValley : okV yX9_factOfValley cX9_factOfValley 3 (some .int) 2 := ⟨im_yX9_factOfValley, se_yX9_factOfValley, ini_X9, cd_yX9_factOfValley, by decide, by decide +kernel⟩
theorem ok_yX9_mark : okV yX9_mark cX9_mark 3 (some .int) 2 := ⟨im_yX9_mark, se_yX9_mark, ini_X9, cd_yX9_mark, by decide, by decide +kernel⟩
theorem ok_yX9_markOf : okV yX9_markOf cX9_markOf 3 (some .int) 2 := ⟨im_yX9_markOf, se_yX9_markOf, ini_X9, cd_yX9_markOf, by decide, by decide +kernel⟩
theorem ok_yJ9_max_7cf53 : okT yJ9_max_7cf53 cJ9_max_7cf53 2 (some .int) 2 := ⟨sm_yJ9_max_7cf53, ini_J9, cd_yJ9_max_7cf53, by decide, by decide +kernel⟩
theorem ok_yX9_price : okV yX9_price cX9_price 4 (some .int) 2 := ⟨im_yX9_price, se_yX9_price, ini_X9, cd_yX9_price, by decide, by decide +kernel⟩
theorem ok_yX9_hold : okV yX9_hold cX9_hold 3 (some .int) 1 := ⟨im_yX9_hold, se_yX9_hold, ini_X9, cd_yX9_hold, by decide, by decide +kernel⟩
theorem ok_yX8_hasSet : okV yX8_hasSet cX8_hasSet 2 (some .boolean) 1 := ⟨im_yX8_hasSet, se_yX8_hasSet, ini_X8, cd_yX8_hasSet, by decide, by decide +kernel⟩
theorem ok_yX8_allCapes : okV yX8_allCapes cX8_allCapes 1 (some .int) 0 := ⟨im_yX8_allCapes, se_yX8_allCapes, ini_X8, cd_yX8_allCapes, by decide, by decide +kernel⟩
theorem ok_yX9_trueHour : okV yX9_trueHour cX9_trueHour 2 (some .int) 1 := ⟨im_yX9_trueHour, se_yX9_trueHour, ini_X9, cd_yX9_trueHour, by decide, by decide +kernel⟩
theorem ok_yX2_write : okV yX2_write cX2_write 2 none 1 := ⟨im_yX2_write, se_yX2_write, ini_X2, cd_yX2_write, by decide, by decide +kernel⟩
theorem ok_yX2_writeLast : okV yX2_writeLast cX2_writeLast 2 none 1 := ⟨im_yX2_writeLast, se_yX2_writeLast, ini_X2, cd_yX2_writeLast, by decide, by decide +kernel⟩
theorem ok_yX1_collect : okV yX1_collect cX1_collect 3 none 1 := ⟨im_yX1_collect, se_yX1_collect, ini_X1, cd_yX1_collect, by decide, by decide +kernel⟩
theorem ok_yX8_gainOf : okV yX8_gainOf cX8_gainOf 5 (some .int) 2 := ⟨im_yX8_gainOf, se_yX8_gainOf, ini_X8, cd_yX8_gainOf, by decide, by decide +kernel⟩
theorem ok_yX1_goOn : okV yX1_goOn cX1_goOn 4 (some .int) 2 := ⟨im_yX1_goOn, se_yX1_goOn, ini_X1, cd_yX1_goOn, by decide, by decide +kernel⟩
theorem ok_yX1_minuteBehind : okV yX1_minuteBehind cX1_minuteBehind 5 (some .int) 2 := ⟨im_yX1_minuteBehind, se_yX1_minuteBehind, ini_X1, cd_yX1_minuteBehind, by decide, by decide +kernel⟩
theorem ok_yJ9_min_7cf53 : okT yJ9_min_7cf53 cJ9_min_7cf53 2 (some .int) 2 := ⟨sm_yJ9_min_7cf53, ini_J9, cd_yJ9_min_7cf53, by decide, by decide +kernel⟩
theorem ok_yX1_wearAndRest : okV yX1_wearAndRest cX1_wearAndRest 6 none 1 := ⟨im_yX1_wearAndRest, se_yX1_wearAndRest, ini_X1, cd_yX1_wearAndRest, by decide, by decide +kernel⟩
theorem ok_yX9_rope : okV yX9_rope cX9_rope 4 (some .int) 2 := ⟨im_yX9_rope, se_yX9_rope, ini_X9, cd_yX9_rope, by decide, by decide +kernel⟩
theorem ok_yX9_rise : okV yX9_rise cX9_rise 2 (some .int) 0 := ⟨im_yX9_rise, se_yX9_rise, ini_X9, cd_yX9_rise, by decide, by decide +kernel⟩
theorem ok_yX9_undo : okV yX9_undo cX9_undo 3 (some .int) 1 := ⟨im_yX9_undo, se_yX9_undo, ini_X9, cd_yX9_undo, by decide, by decide +kernel⟩
theorem ok_yX2_goBack : okV yX2_goBack cX2_goBack 3 none 2 := ⟨im_yX2_goBack, se_yX2_goBack, ini_X2, cd_yX2_goBack, by decide, by decide +kernel⟩
theorem ok_yX9_sun : okV yX9_sun cX9_sun 1 (some .int) 0 := ⟨im_yX9_sun, se_yX9_sun, ini_X9, cd_yX9_sun, by decide, by decide +kernel⟩
theorem ok_yX9_gained : okV yX9_gained cX9_gained 6 (some .int) 0 := ⟨im_yX9_gained, se_yX9_gained, ini_X9, cd_yX9_gained, by decide, by decide +kernel⟩
theorem ok_yX9_keep : okV yX9_keep cX9_keep 2 (some .int) 1 := ⟨im_yX9_keep, se_yX9_keep, ini_X9, cd_yX9_keep, by decide, by decide +kernel⟩
theorem ok_yX9_isKeptPlace : okT yX9_isKeptPlace cX9_isKeptPlace 1 (some .boolean) 1 := ⟨sm_yX9_isKeptPlace, ini_X9, cd_yX9_isKeptPlace, by decide, by decide +kernel⟩
theorem ok_yX2_take : okV yX2_take cX2_take 2 none 1 := ⟨im_yX2_take, se_yX2_take, ini_X2, cd_yX2_take, by decide, by decide +kernel⟩
theorem ok_yX9_on : okV yX9_on cX9_on 2 (some .int) 1 := ⟨im_yX9_on, se_yX9_on, ini_X9, cd_yX9_on, by decide, by decide +kernel⟩
theorem ok_yX9_run : okV yX9_run cX9_run 4 (some .int) 1 := ⟨im_yX9_run, se_yX9_run, ini_X9, cd_yX9_run, by decide, by decide +kernel⟩
theorem ok_yX9_planRefusal : okV yX9_planRefusal cX9_planRefusal 5 (some .int) 1 := ⟨im_yX9_planRefusal, se_yX9_planRefusal, ini_X9, cd_yX9_planRefusal, by decide, by decide +kernel⟩
theorem ok_yX9_rowRefusal : okV yX9_rowRefusal cX9_rowRefusal 2 (some .int) 1 := ⟨im_yX9_rowRefusal, se_yX9_rowRefusal, ini_X9, cd_yX9_rowRefusal, by decide, by decide +kernel⟩
theorem ok_yX3_gainOf : okV yX3_gainOf cX3_gainOf 6 (some .int) 3 := ⟨im_yX3_gainOf, se_yX3_gainOf, ini_X3, cd_yX3_gainOf, by decide, by decide +kernel⟩
theorem ok_yX1_take : okV yX1_take cX1_take 2 none 1 := ⟨im_yX1_take, se_yX1_take, ini_X1, cd_yX1_take, by decide, by decide +kernel⟩
theorem ok_yX8_gainOfAll : okV yX8_gainOfAll cX8_gainOfAll 4 (some .int) 1 := ⟨im_yX8_gainOfAll, se_yX8_gainOfAll, ini_X8, cd_yX8_gainOfAll, by decide, by decide +kernel⟩
theorem ok_yX9_burns : okV yX9_burns cX9_burns 4 (some .int) 1 := ⟨im_yX9_burns, se_yX9_burns, ini_X9, cd_yX9_burns, by decide, by decide +kernel⟩
theorem ok_yX3_firstLurch : okV yX3_firstLurch cX3_firstLurch 6 (some .int) 4 := ⟨im_yX3_firstLurch, se_yX3_firstLurch, ini_X3, cd_yX3_firstLurch, by decide, by decide +kernel⟩
theorem ok_yX9_best : okV yX9_best cX9_best 4 (some .int) 2 := ⟨im_yX9_best, se_yX9_best, ini_X9, cd_yX9_best, by decide, by decide +kernel⟩
theorem ok_yX6_mostGain : okV yX6_mostGain cX6_mostGain 4 (some .int) 3 := ⟨im_yX6_mostGain, se_yX6_mostGain, ini_X6, cd_yX6_mostGain, by decide, by decide +kernel⟩
theorem ok_yX6_begin : okV yX6_begin cX6_begin 3 none 2 := ⟨im_yX6_begin, se_yX6_begin, ini_X6, cd_yX6_begin, by decide, by decide +kernel⟩
theorem ok_yX6_seekMost : okV yX6_seekMost cX6_seekMost 8 none 3 := ⟨im_yX6_seekMost, se_yX6_seekMost, ini_X6, cd_yX6_seekMost, by decide, by decide +kernel⟩
theorem ok_yX6_setFirst : okV yX6_setFirst cX6_setFirst 2 none 1 := ⟨im_yX6_setFirst, se_yX6_setFirst, ini_X6, cd_yX6_setFirst, by decide, by decide +kernel⟩
theorem ok_yX6_step : okV yX6_step cX6_step 4 none 3 := ⟨im_yX6_step, se_yX6_step, ini_X6, cd_yX6_step, by decide, by decide +kernel⟩
theorem ok_yX5_take : okV yX5_take cX5_take 3 none 2 := ⟨im_yX5_take, se_yX5_take, ini_X5, cd_yX5_take, by decide, by decide +kernel⟩
theorem ok_yX9_slowest : okV yX9_slowest cX9_slowest 4 (some .int) 2 := ⟨im_yX9_slowest, se_yX9_slowest, ini_X9, cd_yX9_slowest, by decide, by decide +kernel⟩
theorem ok_yX6_leastMinute : okV yX6_leastMinute cX6_leastMinute 4 (some .int) 3 := ⟨im_yX6_leastMinute, se_yX6_leastMinute, ini_X6, cd_yX6_leastMinute, by decide, by decide +kernel⟩
theorem ok_yX6_seekSlowest : okV yX6_seekSlowest cX6_seekSlowest 7 none 3 := ⟨im_yX6_seekSlowest, se_yX6_seekSlowest, ini_X6, cd_yX6_seekSlowest, by decide, by decide +kernel⟩
theorem ok_yX9_down : okV yX9_down cX9_down 2 (some .int) 1 := ⟨im_yX9_down, se_yX9_down, ini_X9, cd_yX9_down, by decide, by decide +kernel⟩
theorem ok_yX3_hoursTillDown : okV yX3_hoursTillDown cX3_hoursTillDown 5 (some .int) 3 := ⟨im_yX3_hoursTillDown, se_yX3_hoursTillDown, ini_X3, cd_yX3_hoursTillDown, by decide, by decide +kernel⟩
theorem ok_yX9_longest : okV yX9_longest cX9_longest 5 (some .int) 0 := ⟨im_yX9_longest, se_yX9_longest, ini_X9, cd_yX9_longest, by decide, by decide +kernel⟩
theorem ok_yX9_ropes : okV yX9_ropes cX9_ropes 4 (some .int) 1 := ⟨im_yX9_ropes, se_yX9_ropes, ini_X9, cd_yX9_ropes, by decide, by decide +kernel⟩
theorem ok_yX3_fewestRopes : okV yX3_fewestRopes cX3_fewestRopes 8 (some .int) 3 := ⟨im_yX3_fewestRopes, se_yX3_fewestRopes, ini_X3, cd_yX3_fewestRopes, by decide, by decide +kernel⟩
theorem ok_yX9_loose : okV yX9_loose cX9_loose 7 (some .int) 2 := ⟨im_yX9_loose, se_yX9_loose, ini_X9, cd_yX9_loose, by decide, by decide +kernel⟩
theorem ok_yX9_orderFrom : okV yX9_orderFrom cX9_orderFrom 5 (some .int) 2 := ⟨im_yX9_orderFrom, se_yX9_orderFrom, ini_X9, cd_yX9_orderFrom, by decide, by decide +kernel⟩
theorem ok_yX9_votes : okV yX9_votes cX9_votes 3 (some .int) 2 := ⟨im_yX9_votes, se_yX9_votes, ini_X9, cd_yX9_votes, by decide, by decide +kernel⟩
theorem ok_yX0_weigh : okV yX0_weigh cX0_weigh 7 none 2 := ⟨im_yX0_weigh, se_yX0_weigh, ini_X0, cd_yX0_weigh, by decide, by decide +kernel⟩
theorem ok_yX0_votersFor : okV yX0_votersFor cX0_votersFor 6 (some .int) 3 := ⟨im_yX0_votersFor, se_yX0_votersFor, ini_X0, cd_yX0_votersFor, by decide, by decide +kernel⟩
theorem ok_yX9_choice : okV yX9_choice cX9_choice 1 (some .int) 0 := ⟨im_yX9_choice, se_yX9_choice, ini_X9, cd_yX9_choice, by decide, by decide +kernel⟩
theorem ok_yX0_firstUnbeaten : okV yX0_firstUnbeaten cX0_firstUnbeaten 3 (some .int) 1 := ⟨im_yX0_firstUnbeaten, se_yX0_firstUnbeaten, ini_X0, cd_yX0_firstUnbeaten, by decide, by decide +kernel⟩
theorem ok_yX0_isBeaten : okV yX0_isBeaten cX0_isBeaten 5 (some .boolean) 2 := ⟨im_yX0_isBeaten, se_yX0_isBeaten, ini_X0, cd_yX0_isBeaten, by decide, by decide +kernel⟩
theorem ok_yX9_parts : okV yX9_parts cX9_parts 3 (some .int) 1 := ⟨im_yX9_parts, se_yX9_parts, ini_X9, cd_yX9_parts, by decide, by decide +kernel⟩
theorem ok_yX0_firstLeaving : okV yX0_firstLeaving cX0_firstLeaving 7 (some .int) 2 := ⟨im_yX0_firstLeaving, se_yX0_firstLeaving, ini_X0, cd_yX0_firstLeaving, by decide, by decide +kernel⟩
theorem ok_yX0_mostOf : okV yX0_mostOf cX0_mostOf 7 (some .int) 2 := ⟨im_yX0_mostOf, se_yX0_mostOf, ini_X0, cd_yX0_mostOf, by decide, by decide +kernel⟩
theorem ok_yX9_fits : okV yX9_fits cX9_fits 7 (some .int) 3 := ⟨im_yX9_fits, se_yX9_fits, ini_X9, cd_yX9_fits, by decide, by decide +kernel⟩
theorem ok_yX9_minutesRefusal : okV yX9_minutesRefusal cX9_minutesRefusal 3 (some .int) 1 := ⟨im_yX9_minutesRefusal, se_yX9_minutesRefusal, ini_X9, cd_yX9_minutesRefusal, by decide, by decide +kernel⟩
theorem ok_yX6_waysThatFit : okV yX6_waysThatFit cX6_waysThatFit 5 (some .int) 4 := ⟨im_yX6_waysThatFit, se_yX6_waysThatFit, ini_X6, cd_yX6_waysThatFit, by decide, by decide +kernel⟩
theorem ok_yX6_seekFitting : okV yX6_seekFitting cX6_seekFitting 8 none 5 := ⟨im_yX6_seekFitting, se_yX6_seekFitting, ini_X6, cd_yX6_seekFitting, by decide, by decide +kernel⟩
theorem ok_yX9_slipped : okV yX9_slipped cX9_slipped 4 (some .int) 2 := ⟨im_yX9_slipped, se_yX9_slipped, ini_X9, cd_yX9_slipped, by decide, by decide +kernel⟩
theorem ok_yX9_odds : okV yX9_odds cX9_odds 4 (some .int) 3 := ⟨im_yX9_odds, se_yX9_odds, ini_X9, cd_yX9_odds, by decide, by decide +kernel⟩
theorem ok_yX6_waysTo : okV yX6_waysTo cX6_waysTo 6 (some .int) 5 := ⟨im_yX6_waysTo, se_yX6_waysTo, ini_X6, cd_yX6_waysTo, by decide, by decide +kernel⟩
theorem ok_yX6_waysFrom : okV yX6_waysFrom cX6_waysFrom 8 (some .int) 4 := ⟨im_yX6_waysFrom, se_yX6_waysFrom, ini_X6, cd_yX6_waysFrom, by decide, by decide +kernel⟩
theorem ok_yX9_tellChance : okV yX9_tellChance cX9_tellChance 4 none 2 := ⟨im_yX9_tellChance, se_yX9_tellChance, ini_X9, cd_yX9_tellChance, by decide, by decide +kernel⟩
theorem ok_yX9_lots : okV yX9_lots cX9_lots 7 (some .int) 2 := ⟨im_yX9_lots, se_yX9_lots, ini_X9, cd_yX9_lots, by decide, by decide +kernel⟩
theorem ok_yX9_asked : okV yX9_asked cX9_asked 1 (some .int) 0 := ⟨im_yX9_asked, se_yX9_asked, ini_X9, cd_yX9_asked, by decide, by decide +kernel⟩
theorem ok_yX9_upper : okV yX9_upper cX9_upper 1 (some .long) 0 := ⟨im_yX9_upper, se_yX9_upper, ini_X9, cd_yX9_upper, by decide, by decide +kernel⟩
theorem ok_yX9_lower : okV yX9_lower cX9_lower 1 (some .long) 0 := ⟨im_yX9_lower, se_yX9_lower, ini_X9, cd_yX9_lower, by decide, by decide +kernel⟩
theorem ok_yX9_count : okV yX9_count cX9_count 2 (some .int) 1 := ⟨im_yX9_count, se_yX9_count, ini_X9, cd_yX9_count, by decide, by decide +kernel⟩
theorem ok_yX9_countOf : okV yX9_countOf cX9_countOf 2 (some .int) 1 := ⟨im_yX9_countOf, se_yX9_countOf, ini_X9, cd_yX9_countOf, by decide, by decide +kernel⟩
theorem ok_yX9_rowsThere : okV yX9_rowsThere cX9_rowsThere 3 (some .int) 0 := ⟨im_yX9_rowsThere, se_yX9_rowsThere, ini_X9, cd_yX9_rowsThere, by decide, by decide +kernel⟩
theorem ok_yX9_textsThere : okV yX9_textsThere cX9_textsThere 3 (some .int) 0 := ⟨im_yX9_textsThere, se_yX9_textsThere, ini_X9, cd_yX9_textsThere, by decide, by decide +kernel⟩
theorem ok_yX9_yearsKept : okV yX9_yearsKept cX9_yearsKept 3 (some .int) 0 := ⟨im_yX9_yearsKept, se_yX9_yearsKept, ini_X9, cd_yX9_yearsKept, by decide, by decide +kernel⟩
theorem ok_yX9_finding : okV yX9_finding cX9_finding 1 (some .int) 0 := ⟨im_yX9_finding, se_yX9_finding, ini_X9, cd_yX9_finding, by decide, by decide +kernel⟩
theorem ok_yX9_findings : okV yX9_findings cX9_findings 2 (some .int) 1 := ⟨im_yX9_findings, se_yX9_findings, ini_X9, cd_yX9_findings, by decide, by decide +kernel⟩
theorem ok_yX9_digest : okV yX9_digest cX9_digest 5 (some .long) 0 := ⟨im_yX9_digest, se_yX9_digest, ini_X9, cd_yX9_digest, by decide, by decide +kernel⟩
theorem ok_yX5_digestFrom : okV yX5_digestFrom cX5_digestFrom 6 (some .long) 1 := ⟨im_yX5_digestFrom, se_yX5_digestFrom, ini_X5, cd_yX5_digestFrom, by decide, by decide +kernel⟩
theorem ok_yX7_digestFrom : okV yX7_digestFrom cX7_digestFrom 6 (some .long) 1 := ⟨im_yX7_digestFrom, se_yX7_digestFrom, ini_X7, cd_yX7_digestFrom, by decide, by decide +kernel⟩
theorem ok_yX10_row : okV yX10_row cX10_row 4 (some .int) 2 := ⟨im_yX10_row, se_yX10_row, ini_X10, cd_yX10_row, by decide, by decide +kernel⟩
theorem ok_yX10_isRow : okT yX10_isRow cX10_isRow 1 (some .boolean) 1 := ⟨sm_yX10_isRow, ini_X10, cd_yX10_isRow, by decide, by decide +kernel⟩
theorem ok_yX10_in : okT yX10_in cX10_in 6 (some .boolean) 3 := ⟨sm_yX10_in, ini_X10, cd_yX10_in, by decide, by decide +kernel⟩
theorem ok_yX10_finds : okV yX10_finds cX10_finds 2 (some .int) 1 := ⟨im_yX10_finds, se_yX10_finds, ini_X10, cd_yX10_finds, by decide, by decide +kernel⟩
theorem ok_yX10_lay : okV yX10_lay cX10_lay 4 (some .int) 3 := ⟨im_yX10_lay, se_yX10_lay, ini_X10, cd_yX10_lay, by decide, by decide +kernel⟩
theorem ok_yX10_at : okV yX10_at cX10_at 3 (some .int) 2 := ⟨im_yX10_at, se_yX10_at, ini_X10, cd_yX10_at, by decide, by decide +kernel⟩
theorem ok_yX10_tear : okV yX10_tear cX10_tear 2 (some .int) 1 := ⟨im_yX10_tear, se_yX10_tear, ini_X10, cd_yX10_tear, by decide, by decide +kernel⟩
theorem ok_yX10_copy : okV yX10_copy cX10_copy 7 (some .int) 5 := ⟨im_yX10_copy, se_yX10_copy, ini_X10, cd_yX10_copy, by decide, by decide +kernel⟩
theorem ok_yX10_mean : okV yX10_mean cX10_mean 5 (some .int) 1 := ⟨im_yX10_mean, se_yX10_mean, ini_X10, cd_yX10_mean, by decide, by decide +kernel⟩
theorem ok_yX10_text : okV yX10_text cX10_text 4 (some .int) 2 := ⟨im_yX10_text, se_yX10_text, ini_X10, cd_yX10_text, by decide, by decide +kernel⟩
theorem ok_yX10_isText : okT yX10_isText cX10_isText 1 (some .boolean) 1 := ⟨sm_yX10_isText, ini_X10, cd_yX10_isText, by decide, by decide +kernel⟩
theorem ok_yX10_put : okV yX10_put cX10_put 5 (some .int) 3 := ⟨im_yX10_put, se_yX10_put, ini_X10, cd_yX10_put, by decide, by decide +kernel⟩
theorem ok_yX10_fault : okV yX10_fault cX10_fault 2 (some .int) 1 := ⟨im_yX10_fault, se_yX10_fault, ini_X10, cd_yX10_fault, by decide, by decide +kernel⟩
theorem ok_yX10_readYear : okV yX10_readYear cX10_readYear 2 none 1 := ⟨im_yX10_readYear, se_yX10_readYear, ini_X10, cd_yX10_readYear, by decide, by decide +kernel⟩
theorem ok_yX10_skip : okV yX10_skip cX10_skip 2 none 1 := ⟨im_yX10_skip, se_yX10_skip, ini_X10, cd_yX10_skip, by decide, by decide +kernel⟩
theorem ok_yX10_byteOf : okV yX10_byteOf cX10_byteOf 2 (some .int) 1 := ⟨im_yX10_byteOf, se_yX10_byteOf, ini_X10, cd_yX10_byteOf, by decide, by decide +kernel⟩
theorem ok_yX10_readOne : okV yX10_readOne cX10_readOne 7 none 1 := ⟨im_yX10_readOne, se_yX10_readOne, ini_X10, cd_yX10_readOne, by decide, by decide +kernel⟩
theorem ok_yX10_kindOf : okT yX10_kindOf cX10_kindOf 1 (some .int) 1 := ⟨sm_yX10_kindOf, ini_X10, cd_yX10_kindOf, by decide, by decide +kernel⟩
theorem ok_yX10_figure : okV yX10_figure cX10_figure 5 (some .int) 3 := ⟨im_yX10_figure, se_yX10_figure, ini_X10, cd_yX10_figure, by decide, by decide +kernel⟩
theorem ok_yX10_year : okV yX10_year cX10_year 3 (some .int) 1 := ⟨im_yX10_year, se_yX10_year, ini_X10, cd_yX10_year, by decide, by decide +kernel⟩
theorem ok_yX10_cape : okV yX10_cape cX10_cape 3 (some .int) 2 := ⟨im_yX10_cape, se_yX10_cape, ini_X10, cd_yX10_cape, by decide, by decide +kernel⟩
theorem ok_yX10_isCape : okV yX10_isCape cX10_isCape 2 (some .boolean) 1 := ⟨im_yX10_isCape, se_yX10_isCape, ini_X10, cd_yX10_isCape, by decide, by decide +kernel⟩
theorem ok_yX10_capeOf : okV yX10_capeOf cX10_capeOf 3 (some .int) 2 := ⟨im_yX10_capeOf, se_yX10_capeOf, ini_X10, cd_yX10_capeOf, by decide, by decide +kernel⟩
theorem ok_yX10_canPull : okV yX10_canPull cX10_canPull 2 (some .boolean) 1 := ⟨im_yX10_canPull, se_yX10_canPull, ini_X10, cd_yX10_canPull, by decide, by decide +kernel⟩
theorem ok_yX10_isDown : okV yX10_isDown cX10_isDown 1 (some .boolean) 0 := ⟨im_yX10_isDown, se_yX10_isDown, ini_X10, cd_yX10_isDown, by decide, by decide +kernel⟩
theorem ok_yX10_isOf : okV yX10_isOf cX10_isOf 3 (some .boolean) 2 := ⟨im_yX10_isOf, se_yX10_isOf, ini_X10, cd_yX10_isOf, by decide, by decide +kernel⟩
theorem ok_yX10_pullBy : okV yX10_pullBy cX10_pullBy 2 (some .int) 1 := ⟨im_yX10_pullBy, se_yX10_pullBy, ini_X10, cd_yX10_pullBy, by decide, by decide +kernel⟩
theorem ok_yX10_valley : okV yX10_valley cX10_valley 3 (some .int) 2 := ⟨im_yX10_valley, se_yX10_valley, ini_X10, cd_yX10_valley, by decide, by decide +kernel⟩
theorem ok_yX10_isValley : okV yX10_isValley cX10_isValley 2 (some .boolean) 1 := ⟨im_yX10_isValley, se_yX10_isValley, ini_X10, cd_yX10_isValley, by decide, by decide +kernel⟩
theorem ok_yX10_valleyOf : okV yX10_valleyOf cX10_valleyOf 3 (some .int) 2 := ⟨im_yX10_valleyOf, se_yX10_valleyOf, ini_X10, cd_yX10_valleyOf, by decide, by decide +kernel⟩
theorem ok_yX10_mark : okV yX10_mark cX10_mark 3 (some .int) 2 := ⟨im_yX10_mark, se_yX10_mark, ini_X10, cd_yX10_mark, by decide, by decide +kernel⟩
theorem ok_yX10_weaker : okV yX10_weaker cX10_weaker 4 (some .int) 1 := ⟨im_yX10_weaker, se_yX10_weaker, ini_X10, cd_yX10_weaker, by decide, by decide +kernel⟩
theorem ok_yX10_price : okV yX10_price cX10_price 4 (some .int) 2 := ⟨im_yX10_price, se_yX10_price, ini_X10, cd_yX10_price, by decide, by decide +kernel⟩
theorem ok_yX10_hold : okV yX10_hold cX10_hold 3 (some .int) 1 := ⟨im_yX10_hold, se_yX10_hold, ini_X10, cd_yX10_hold, by decide, by decide +kernel⟩
theorem ok_yX10_isSet : okV yX10_isSet cX10_isSet 2 (some .boolean) 1 := ⟨im_yX10_isSet, se_yX10_isSet, ini_X10, cd_yX10_isSet, by decide, by decide +kernel⟩
theorem ok_yX10_remember : okV yX10_remember cX10_remember 2 none 0 := ⟨im_yX10_remember, se_yX10_remember, ini_X10, cd_yX10_remember, by decide, by decide +kernel⟩
theorem ok_yX10_goHour : okV yX10_goHour cX10_goHour 7 (some .int) 1 := ⟨im_yX10_goHour, se_yX10_goHour, ini_X10, cd_yX10_goHour, by decide, by decide +kernel⟩
theorem ok_yX10_gainAll : okV yX10_gainAll cX10_gainAll 2 none 0 := ⟨im_yX10_gainAll, se_yX10_gainAll, ini_X10, cd_yX10_gainAll, by decide, by decide +kernel⟩
theorem ok_yX10_gainOf : okV yX10_gainOf cX10_gainOf 3 (some .int) 1 := ⟨im_yX10_gainOf, se_yX10_gainOf, ini_X10, cd_yX10_gainOf, by decide, by decide +kernel⟩
theorem ok_yX10_has : okT yX10_has cX10_has 2 (some .boolean) 2 := ⟨sm_yX10_has, ini_X10, cd_yX10_has, by decide, by decide +kernel⟩
theorem ok_yX10_tire : okV yX10_tire cX10_tire 3 none 2 := ⟨im_yX10_tire, se_yX10_tire, ini_X10, cd_yX10_tire, by decide, by decide +kernel⟩
theorem ok_yX10_rest : okV yX10_rest cX10_rest 3 none 1 := ⟨im_yX10_rest, se_yX10_rest, ini_X10, cd_yX10_rest, by decide, by decide +kernel⟩
theorem ok_yX10_bits : okT yX10_bits cX10_bits 3 (some .int) 1 := ⟨sm_yX10_bits, ini_X10, cd_yX10_bits, by decide, by decide +kernel⟩
theorem ok_yX10_rope : okV yX10_rope cX10_rope 4 (some .int) 2 := ⟨im_yX10_rope, se_yX10_rope, ini_X10, cd_yX10_rope, by decide, by decide +kernel⟩
theorem ok_yX10_rise : okV yX10_rise cX10_rise 2 (some .int) 0 := ⟨im_yX10_rise, se_yX10_rise, ini_X10, cd_yX10_rise, by decide, by decide +kernel⟩
theorem ok_yX10_undo : okV yX10_undo cX10_undo 4 (some .int) 1 := ⟨im_yX10_undo, se_yX10_undo, ini_X10, cd_yX10_undo, by decide, by decide +kernel⟩
theorem ok_yX10_sun : okV yX10_sun cX10_sun 1 (some .int) 0 := ⟨im_yX10_sun, se_yX10_sun, ini_X10, cd_yX10_sun, by decide, by decide +kernel⟩
theorem ok_yX10_gained : okV yX10_gained cX10_gained 4 (some .int) 0 := ⟨im_yX10_gained, se_yX10_gained, ini_X10, cd_yX10_gained, by decide, by decide +kernel⟩
theorem ok_yX10_keep : okV yX10_keep cX10_keep 3 (some .int) 1 := ⟨im_yX10_keep, se_yX10_keep, ini_X10, cd_yX10_keep, by decide, by decide +kernel⟩
theorem ok_yX10_on : okV yX10_on cX10_on 3 (some .int) 1 := ⟨im_yX10_on, se_yX10_on, ini_X10, cd_yX10_on, by decide, by decide +kernel⟩
theorem ok_yX10_run : okV yX10_run cX10_run 6 (some .int) 1 := ⟨im_yX10_run, se_yX10_run, ini_X10, cd_yX10_run, by decide, by decide +kernel⟩
theorem ok_yX10_planRefused : okV yX10_planRefused cX10_planRefused 4 (some .int) 1 := ⟨im_yX10_planRefused, se_yX10_planRefused, ini_X10, cd_yX10_planRefused, by decide, by decide +kernel⟩
theorem ok_yX10_save : okV yX10_save cX10_save 2 none 0 := ⟨im_yX10_save, se_yX10_save, ini_X10, cd_yX10_save, by decide, by decide +kernel⟩
theorem ok_yX10_gainsNow : okV yX10_gainsNow cX10_gainsNow 3 (some .int) 0 := ⟨im_yX10_gainsNow, se_yX10_gainsNow, ini_X10, cd_yX10_gainsNow, by decide, by decide +kernel⟩
theorem ok_yX10_putBack : okV yX10_putBack cX10_putBack 2 none 0 := ⟨im_yX10_putBack, se_yX10_putBack, ini_X10, cd_yX10_putBack, by decide, by decide +kernel⟩
theorem ok_yX10_burns : okV yX10_burns cX10_burns 4 (some .int) 1 := ⟨im_yX10_burns, se_yX10_burns, ini_X10, cd_yX10_burns, by decide, by decide +kernel⟩
theorem ok_yX10_firstLurch : okV yX10_firstLurch cX10_firstLurch 5 (some .int) 1 := ⟨im_yX10_firstLurch, se_yX10_firstLurch, ini_X10, cd_yX10_firstLurch, by decide, by decide +kernel⟩
theorem ok_yX10_best : okV yX10_best cX10_best 9 (some .int) 2 := ⟨im_yX10_best, se_yX10_best, ini_X10, cd_yX10_best, by decide, by decide +kernel⟩
theorem ok_yX10_codes : okV yX10_codes cX10_codes 2 (some .int) 1 := ⟨im_yX10_codes, se_yX10_codes, ini_X10, cd_yX10_codes, by decide, by decide +kernel⟩
theorem ok_yX10_goPlan : okV yX10_goPlan cX10_goPlan 6 (some .boolean) 2 := ⟨im_yX10_goPlan, se_yX10_goPlan, ini_X10, cd_yX10_goPlan, by decide, by decide +kernel⟩
theorem ok_yX10_setOf : okV yX10_setOf cX10_setOf 4 (some .int) 3 := ⟨im_yX10_setOf, se_yX10_setOf, ini_X10, cd_yX10_setOf, by decide, by decide +kernel⟩
theorem ok_yX10_layPlan : okV yX10_layPlan cX10_layPlan 6 none 3 := ⟨im_yX10_layPlan, se_yX10_layPlan, ini_X10, cd_yX10_layPlan, by decide, by decide +kernel⟩
theorem ok_yX10_slowest : okV yX10_slowest cX10_slowest 8 (some .int) 2 := ⟨im_yX10_slowest, se_yX10_slowest, ini_X10, cd_yX10_slowest, by decide, by decide +kernel⟩
theorem ok_yX10_down : okV yX10_down cX10_down 2 (some .int) 1 := ⟨im_yX10_down, se_yX10_down, ini_X10, cd_yX10_down, by decide, by decide +kernel⟩
theorem ok_yX10_hoursTillDown : okV yX10_hoursTillDown cX10_hoursTillDown 4 (some .int) 1 := ⟨im_yX10_hoursTillDown, se_yX10_hoursTillDown, ini_X10, cd_yX10_hoursTillDown, by decide, by decide +kernel⟩
theorem ok_yX10_longest : okV yX10_longest cX10_longest 5 (some .int) 0 := ⟨im_yX10_longest, se_yX10_longest, ini_X10, cd_yX10_longest, by decide, by decide +kernel⟩
theorem ok_yX10_ropes : okV yX10_ropes cX10_ropes 6 (some .int) 1 := ⟨im_yX10_ropes, se_yX10_ropes, ini_X10, cd_yX10_ropes, by decide, by decide +kernel⟩
theorem ok_yX10_loose : okV yX10_loose cX10_loose 10 (some .int) 2 := ⟨im_yX10_loose, se_yX10_loose, ini_X10, cd_yX10_loose, by decide, by decide +kernel⟩
theorem ok_yX10_jumpsBy : okV yX10_jumpsBy cX10_jumpsBy 10 (some .int) 3 := ⟨im_yX10_jumpsBy, se_yX10_jumpsBy, ini_X10, cd_yX10_jumpsBy, by decide, by decide +kernel⟩
theorem ok_yX10_votes : okV yX10_votes cX10_votes 3 (some .int) 2 := ⟨im_yX10_votes, se_yX10_votes, ini_X10, cd_yX10_votes, by decide, by decide +kernel⟩
theorem ok_yX10_findGains : okV yX10_findGains cX10_findGains 4 none 0 := ⟨im_yX10_findGains, se_yX10_findGains, ini_X10, cd_yX10_findGains, by decide, by decide +kernel⟩
theorem ok_yX10_votersFor : okV yX10_votersFor cX10_votersFor 5 (some .int) 2 := ⟨im_yX10_votersFor, se_yX10_votersFor, ini_X10, cd_yX10_votersFor, by decide, by decide +kernel⟩
theorem ok_yX10_choice : okV yX10_choice cX10_choice 4 (some .int) 0 := ⟨im_yX10_choice, se_yX10_choice, ini_X10, cd_yX10_choice, by decide, by decide +kernel⟩
theorem ok_yX10_parts : okV yX10_parts cX10_parts 6 (some .int) 1 := ⟨im_yX10_parts, se_yX10_parts, ini_X10, cd_yX10_parts, by decide, by decide +kernel⟩
theorem ok_yX10_mostOf : okV yX10_mostOf cX10_mostOf 6 (some .int) 1 := ⟨im_yX10_mostOf, se_yX10_mostOf, ini_X10, cd_yX10_mostOf, by decide, by decide +kernel⟩
theorem ok_yX10_fits : okV yX10_fits cX10_fits 10 (some .int) 3 := ⟨im_yX10_fits, se_yX10_fits, ini_X10, cd_yX10_fits, by decide, by decide +kernel⟩
theorem ok_yX10_seenRefused : okV yX10_seenRefused cX10_seenRefused 2 (some .int) 1 := ⟨im_yX10_seenRefused, se_yX10_seenRefused, ini_X10, cd_yX10_seenRefused, by decide, by decide +kernel⟩
theorem ok_yX10_isSo : okV yX10_isSo cX10_isSo 9 (some .boolean) 3 := ⟨im_yX10_isSo, se_yX10_isSo, ini_X10, cd_yX10_isSo, by decide, by decide +kernel⟩
theorem ok_yX10_slipped : okV yX10_slipped cX10_slipped 10 (some .int) 2 := ⟨im_yX10_slipped, se_yX10_slipped, ini_X10, cd_yX10_slipped, by decide, by decide +kernel⟩
theorem ok_yX10_odds : okV yX10_odds cX10_odds 9 (some .int) 3 := ⟨im_yX10_odds, se_yX10_odds, ini_X10, cd_yX10_odds, by decide, by decide +kernel⟩
theorem ok_yX10_tellOdds : okV yX10_tellOdds cX10_tellOdds 11 none 2 := ⟨im_yX10_tellOdds, se_yX10_tellOdds, ini_X10, cd_yX10_tellOdds, by decide, by decide +kernel⟩
theorem ok_yX10_lots : okV yX10_lots cX10_lots 8 (some .int) 2 := ⟨im_yX10_lots, se_yX10_lots, ini_X10, cd_yX10_lots, by decide, by decide +kernel⟩
theorem ok_yX10_asked : okV yX10_asked cX10_asked 1 (some .int) 0 := ⟨im_yX10_asked, se_yX10_asked, ini_X10, cd_yX10_asked, by decide, by decide +kernel⟩
theorem ok_yX10_upper : okV yX10_upper cX10_upper 1 (some .long) 0 := ⟨im_yX10_upper, se_yX10_upper, ini_X10, cd_yX10_upper, by decide, by decide +kernel⟩
theorem ok_yX10_lower : okV yX10_lower cX10_lower 1 (some .long) 0 := ⟨im_yX10_lower, se_yX10_lower, ini_X10, cd_yX10_lower, by decide, by decide +kernel⟩
theorem ok_yX10_count : okV yX10_count cX10_count 2 (some .int) 1 := ⟨im_yX10_count, se_yX10_count, ini_X10, cd_yX10_count, by decide, by decide +kernel⟩
theorem ok_yX10_pullers : okV yX10_pullers cX10_pullers 3 (some .int) 0 := ⟨im_yX10_pullers, se_yX10_pullers, ini_X10, cd_yX10_pullers, by decide, by decide +kernel⟩
theorem ok_yX10_strongOnes : okV yX10_strongOnes cX10_strongOnes 3 (some .int) 0 := ⟨im_yX10_strongOnes, se_yX10_strongOnes, ini_X10, cd_yX10_strongOnes, by decide, by decide +kernel⟩
theorem ok_yX10_there : okT yX10_there cX10_there 3 (some .int) 1 := ⟨sm_yX10_there, ini_X10, cd_yX10_there, by decide, by decide +kernel⟩
theorem ok_yX10_finding : okV yX10_finding cX10_finding 1 (some .int) 0 := ⟨im_yX10_finding, se_yX10_finding, ini_X10, cd_yX10_finding, by decide, by decide +kernel⟩
theorem ok_yX10_findings : okV yX10_findings cX10_findings 2 (some .int) 1 := ⟨im_yX10_findings, se_yX10_findings, ini_X10, cd_yX10_findings, by decide, by decide +kernel⟩
theorem ok_yX10_digest : okV yX10_digest cX10_digest 5 (some .long) 0 := ⟨im_yX10_digest, se_yX10_digest, ini_X10, cd_yX10_digest, by decide, by decide +kernel⟩
end
section
theorem zz_last : True := trivial
end
