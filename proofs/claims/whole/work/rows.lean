section
-- ===== PART A: goes FIRST, ahead of the names: the tables' words, and 'selects' of the private methods out of them =====
/-- a private method of a class that the tables say can be made, by its rows of tables_1 -/
def lw_okq (q : MethodName × Nat) : Prop := (q.1.cls ≠ "java/lang/invoke/MethodHandle" ∧ q.1.cls ≠ "java/lang/invoke/VarHandle") ∧ Cond.instantiable q.1.cls q.2 ∈ tables_1 ∧ Cond.privateMethod q.1 ∈ tables_1 ∧ Cond.instanceMethod q.1 ∈ tables_1
theorem lw_p0 : lw_okq (⟨"ChimeVan$Page", "takes", "(I)Z"⟩, 5) := ⟨⟨by decide +kernel, by decide +kernel⟩, List.mem_of_getElem? (i := 28) (by decide +kernel), List.mem_of_getElem? (i := 281) (by decide +kernel), List.mem_of_getElem? (i := 282) (by decide +kernel)⟩
theorem lw_p1 : lw_okq (⟨"ChimeVan$Page", "takesHead", "(I)Z"⟩, 5) := ⟨⟨by decide +kernel, by decide +kernel⟩, List.mem_of_getElem? (i := 28) (by decide +kernel), List.mem_of_getElem? (i := 285) (by decide +kernel), List.mem_of_getElem? (i := 286) (by decide +kernel)⟩
theorem lw_p2 : lw_okq (⟨"ChimeVan$Page", "isCornerAt", "(I)Z"⟩, 5) := ⟨⟨by decide +kernel, by decide +kernel⟩, List.mem_of_getElem? (i := 28) (by decide +kernel), List.mem_of_getElem? (i := 294) (by decide +kernel), List.mem_of_getElem? (i := 295) (by decide +kernel)⟩
theorem lw_p3 : lw_okq (⟨"ChimeVan$Page", "takesRoads", "(I)Z"⟩, 5) := ⟨⟨by decide +kernel, by decide +kernel⟩, List.mem_of_getElem? (i := 28) (by decide +kernel), List.mem_of_getElem? (i := 298) (by decide +kernel), List.mem_of_getElem? (i := 299) (by decide +kernel)⟩
theorem lw_p4 : lw_okq (⟨"ChimeVan$Page", "takesPeople", "(I)Z"⟩, 5) := ⟨⟨by decide +kernel, by decide +kernel⟩, List.mem_of_getElem? (i := 28) (by decide +kernel), List.mem_of_getElem? (i := 302) (by decide +kernel), List.mem_of_getElem? (i := 303) (by decide +kernel)⟩
theorem lw_p5 : lw_okq (⟨"ChimeVan$Page", "isDigitAt", "(I)Z"⟩, 5) := ⟨⟨by decide +kernel, by decide +kernel⟩, List.mem_of_getElem? (i := 28) (by decide +kernel), List.mem_of_getElem? (i := 397) (by decide +kernel), List.mem_of_getElem? (i := 398) (by decide +kernel)⟩
theorem lw_p6 : lw_okq (⟨"ChimeVan$Town", "layRoad", "(III)V"⟩, 8) := ⟨⟨by decide +kernel, by decide +kernel⟩, List.mem_of_getElem? (i := 55) (by decide +kernel), List.mem_of_getElem? (i := 424) (by decide +kernel), List.mem_of_getElem? (i := 425) (by decide +kernel)⟩
theorem lw_p7 : lw_okq (⟨"ChimeVan$Town", "measureSteps", "(I)V"⟩, 8) := ⟨⟨by decide +kernel, by decide +kernel⟩, List.mem_of_getElem? (i := 55) (by decide +kernel), List.mem_of_getElem? (i := 428) (by decide +kernel), List.mem_of_getElem? (i := 429) (by decide +kernel)⟩
theorem lw_p8 : lw_okq (⟨"ChimeVan$Town", "spread", "(I)I"⟩, 8) := ⟨⟨by decide +kernel, by decide +kernel⟩, List.mem_of_getElem? (i := 55) (by decide +kernel), List.mem_of_getElem? (i := 435) (by decide +kernel), List.mem_of_getElem? (i := 436) (by decide +kernel)⟩
theorem lw_p9 : lw_okq (⟨"ChimeVan$Town", "measureCatches", "()V"⟩, 8) := ⟨⟨by decide +kernel, by decide +kernel⟩, List.mem_of_getElem? (i := 55) (by decide +kernel), List.mem_of_getElem? (i := 442) (by decide +kernel), List.mem_of_getElem? (i := 443) (by decide +kernel)⟩
theorem lw_p10 : lw_okq (⟨"ChimeVan$Town", "findCatches", "(I)Z"⟩, 8) := ⟨⟨by decide +kernel, by decide +kernel⟩, List.mem_of_getElem? (i := 55) (by decide +kernel), List.mem_of_getElem? (i := 446) (by decide +kernel), List.mem_of_getElem? (i := 447) (by decide +kernel)⟩
theorem lw_p11 : lw_okq (⟨"ChimeVan$Town", "isCaught", "(III)Z"⟩, 8) := ⟨⟨by decide +kernel, by decide +kernel⟩, List.mem_of_getElem? (i := 55) (by decide +kernel), List.mem_of_getElem? (i := 450) (by decide +kernel), List.mem_of_getElem? (i := 451) (by decide +kernel)⟩
theorem lw_p12 : lw_okq (⟨"ChimeVan$Town", "canAnswer", "(III)Z"⟩, 8) := ⟨⟨by decide +kernel, by decide +kernel⟩, List.mem_of_getElem? (i := 55) (by decide +kernel), List.mem_of_getElem? (i := 454) (by decide +kernel), List.mem_of_getElem? (i := 455) (by decide +kernel)⟩
theorem lw_p13 : lw_okq (⟨"ChimeVan", "isPerson", "(I)Z"⟩, 14) := ⟨⟨by decide +kernel, by decide +kernel⟩, List.mem_of_getElem? (i := 20) (by decide +kernel), List.mem_of_getElem? (i := 475) (by decide +kernel), List.mem_of_getElem? (i := 476) (by decide +kernel)⟩
theorem lw_p14 : lw_okq (⟨"ChimeVan", "hearsVan", "(I)Z"⟩, 14) := ⟨⟨by decide +kernel, by decide +kernel⟩, List.mem_of_getElem? (i := 20) (by decide +kernel), List.mem_of_getElem? (i := 490) (by decide +kernel), List.mem_of_getElem? (i := 491) (by decide +kernel)⟩
theorem lw_p15 : lw_okq (⟨"ChimeVan", "earshot", "(I)I"⟩, 14) := ⟨⟨by decide +kernel, by decide +kernel⟩, List.mem_of_getElem? (i := 20) (by decide +kernel), List.mem_of_getElem? (i := 494) (by decide +kernel), List.mem_of_getElem? (i := 495) (by decide +kernel)⟩
def lw_privs_1 : List (MethodName × Nat) := [(⟨"ChimeVan$Page", "takes", "(I)Z"⟩, 5), (⟨"ChimeVan$Page", "takesHead", "(I)Z"⟩, 5), (⟨"ChimeVan$Page", "isCornerAt", "(I)Z"⟩, 5), (⟨"ChimeVan$Page", "takesRoads", "(I)Z"⟩, 5), (⟨"ChimeVan$Page", "takesPeople", "(I)Z"⟩, 5), (⟨"ChimeVan$Page", "isDigitAt", "(I)Z"⟩, 5), (⟨"ChimeVan$Town", "layRoad", "(III)V"⟩, 8), (⟨"ChimeVan$Town", "measureSteps", "(I)V"⟩, 8), (⟨"ChimeVan$Town", "spread", "(I)I"⟩, 8), (⟨"ChimeVan$Town", "measureCatches", "()V"⟩, 8), (⟨"ChimeVan$Town", "findCatches", "(I)Z"⟩, 8), (⟨"ChimeVan$Town", "isCaught", "(III)Z"⟩, 8), (⟨"ChimeVan$Town", "canAnswer", "(III)Z"⟩, 8), (⟨"ChimeVan", "isPerson", "(I)Z"⟩, 14), (⟨"ChimeVan", "hearsVan", "(I)Z"⟩, 14), (⟨"ChimeVan", "earshot", "(I)I"⟩, 14)]
theorem lw_r1 : ∀ q ∈ lw_privs_1, lw_okq q := List.forall_mem_cons.mpr ⟨lw_p0, List.forall_mem_cons.mpr ⟨lw_p1, List.forall_mem_cons.mpr ⟨lw_p2, List.forall_mem_cons.mpr ⟨lw_p3, List.forall_mem_cons.mpr ⟨lw_p4, List.forall_mem_cons.mpr ⟨lw_p5, List.forall_mem_cons.mpr ⟨lw_p6, List.forall_mem_cons.mpr ⟨lw_p7, List.forall_mem_cons.mpr ⟨lw_p8, List.forall_mem_cons.mpr ⟨lw_p9, List.forall_mem_cons.mpr ⟨lw_p10, List.forall_mem_cons.mpr ⟨lw_p11, List.forall_mem_cons.mpr ⟨lw_p12, List.forall_mem_cons.mpr ⟨lw_p13, List.forall_mem_cons.mpr ⟨lw_p14, List.forall_mem_cons.mpr ⟨lw_p15, fun _ h => absurd h List.not_mem_nil⟩⟩⟩⟩⟩⟩⟩⟩⟩⟩⟩⟩⟩⟩⟩⟩
theorem lw_p16 : lw_okq (⟨"ChimeVan", "soonest", "(I)I"⟩, 14) := ⟨⟨by decide +kernel, by decide +kernel⟩, List.mem_of_getElem? (i := 20) (by decide +kernel), List.mem_of_getElem? (i := 499) (by decide +kernel), List.mem_of_getElem? (i := 500) (by decide +kernel)⟩
theorem lw_p17 : lw_okq (⟨"ChimeVan", "isCorner", "(I)Z"⟩, 14) := ⟨⟨by decide +kernel, by decide +kernel⟩, List.mem_of_getElem? (i := 20) (by decide +kernel), List.mem_of_getElem? (i := 523) (by decide +kernel), List.mem_of_getElem? (i := 524) (by decide +kernel)⟩
theorem lw_p18 : lw_okq (⟨"ChimeVan$Evening", "meet", "(ILChimeVan$Folk;)V"⟩, 4) := ⟨⟨by decide +kernel, by decide +kernel⟩, List.mem_of_getElem? (i := 131) (by decide +kernel), List.mem_of_getElem? (i := 554) (by decide +kernel), List.mem_of_getElem? (i := 555) (by decide +kernel)⟩
theorem lw_p19 : lw_okq (⟨"ChimeVan", "hasSuburb", "()Z"⟩, 14) := ⟨⟨by decide +kernel, by decide +kernel⟩, List.mem_of_getElem? (i := 20) (by decide +kernel), List.mem_of_getElem? (i := 576) (by decide +kernel), List.mem_of_getElem? (i := 577) (by decide +kernel)⟩
theorem lw_p20 : lw_okq (⟨"ChimeVan$RoundSearch", "extend", "(LChimeVan$Town;LChimeVan$Folk;II)V"⟩, 5) := ⟨⟨by decide +kernel, by decide +kernel⟩, List.mem_of_getElem? (i := 174) (by decide +kernel), List.mem_of_getElem? (i := 591) (by decide +kernel), List.mem_of_getElem? (i := 592) (by decide +kernel)⟩
theorem lw_p21 : lw_okq (⟨"ChimeVan$RoundSearch", "judge", "(LChimeVan$Evening;)V"⟩, 5) := ⟨⟨by decide +kernel, by decide +kernel⟩, List.mem_of_getElem? (i := 174) (by decide +kernel), List.mem_of_getElem? (i := 595) (by decide +kernel), List.mem_of_getElem? (i := 596) (by decide +kernel)⟩
theorem lw_p22 : lw_okq (⟨"ChimeVan$Evening", "countedBy", "(I)I"⟩, 4) := ⟨⟨by decide +kernel, by decide +kernel⟩, List.mem_of_getElem? (i := 131) (by decide +kernel), List.mem_of_getElem? (i := 604) (by decide +kernel), List.mem_of_getElem? (i := 605) (by decide +kernel)⟩
theorem lw_p23 : lw_okq (⟨"ChimeVan$Stray", "scatter", "(LChimeVan$Town;)V"⟩, 3) := ⟨⟨by decide +kernel, by decide +kernel⟩, List.mem_of_getElem? (i := 202) (by decide +kernel), List.mem_of_getElem? (i := 622) (by decide +kernel), List.mem_of_getElem? (i := 623) (by decide +kernel)⟩
theorem lw_p24 : lw_okq (⟨"ChimeVan$Stray", "partPerRoad", "(LChimeVan$Town;I)J"⟩, 3) := ⟨⟨by decide +kernel, by decide +kernel⟩, List.mem_of_getElem? (i := 202) (by decide +kernel), List.mem_of_getElem? (i := 627) (by decide +kernel), List.mem_of_getElem? (i := 628) (by decide +kernel)⟩
theorem lw_p25 : lw_okq (⟨"ChimeVan$Stray", "sharedPart", "(I)J"⟩, 3) := ⟨⟨by decide +kernel, by decide +kernel⟩, List.mem_of_getElem? (i := 202) (by decide +kernel), List.mem_of_getElem? (i := 636) (by decide +kernel), List.mem_of_getElem? (i := 637) (by decide +kernel)⟩
theorem lw_p26 : lw_okq (⟨"ChimeVan", "possibleCorners", "()I"⟩, 14) := ⟨⟨by decide +kernel, by decide +kernel⟩, List.mem_of_getElem? (i := 20) (by decide +kernel), List.mem_of_getElem? (i := 659) (by decide +kernel), List.mem_of_getElem? (i := 660) (by decide +kernel)⟩
theorem lw_p27 : lw_okq (⟨"ChimeVan", "bestWitness", "(I)I"⟩, 14) := ⟨⟨by decide +kernel, by decide +kernel⟩, List.mem_of_getElem? (i := 20) (by decide +kernel), List.mem_of_getElem? (i := 667) (by decide +kernel), List.mem_of_getElem? (i := 668) (by decide +kernel)⟩
theorem lw_p28 : lw_okq (⟨"ChimeVan", "drift", "(II)I"⟩, 14) := ⟨⟨by decide +kernel, by decide +kernel⟩, List.mem_of_getElem? (i := 20) (by decide +kernel), List.mem_of_getElem? (i := 678) (by decide +kernel), List.mem_of_getElem? (i := 679) (by decide +kernel)⟩
theorem lw_p29 : lw_okq (⟨"ChimeVan", "hearersNumber", "()I"⟩, 14) := ⟨⟨by decide +kernel, by decide +kernel⟩, List.mem_of_getElem? (i := 20) (by decide +kernel), List.mem_of_getElem? (i := 716) (by decide +kernel), List.mem_of_getElem? (i := 717) (by decide +kernel)⟩
theorem lw_p30 : lw_okq (⟨"ChimeVan", "digestOfPeople", "(J)J"⟩, 14) := ⟨⟨by decide +kernel, by decide +kernel⟩, List.mem_of_getElem? (i := 20) (by decide +kernel), List.mem_of_getElem? (i := 725) (by decide +kernel), List.mem_of_getElem? (i := 726) (by decide +kernel)⟩
theorem lw_p31 : lw_okq (⟨"ChimeVan", "digestOfStreets", "(J)J"⟩, 14) := ⟨⟨by decide +kernel, by decide +kernel⟩, List.mem_of_getElem? (i := 20) (by decide +kernel), List.mem_of_getElem? (i := 735) (by decide +kernel), List.mem_of_getElem? (i := 736) (by decide +kernel)⟩
def lw_privs_2 : List (MethodName × Nat) := [(⟨"ChimeVan", "soonest", "(I)I"⟩, 14), (⟨"ChimeVan", "isCorner", "(I)Z"⟩, 14), (⟨"ChimeVan$Evening", "meet", "(ILChimeVan$Folk;)V"⟩, 4), (⟨"ChimeVan", "hasSuburb", "()Z"⟩, 14), (⟨"ChimeVan$RoundSearch", "extend", "(LChimeVan$Town;LChimeVan$Folk;II)V"⟩, 5), (⟨"ChimeVan$RoundSearch", "judge", "(LChimeVan$Evening;)V"⟩, 5), (⟨"ChimeVan$Evening", "countedBy", "(I)I"⟩, 4), (⟨"ChimeVan$Stray", "scatter", "(LChimeVan$Town;)V"⟩, 3), (⟨"ChimeVan$Stray", "partPerRoad", "(LChimeVan$Town;I)J"⟩, 3), (⟨"ChimeVan$Stray", "sharedPart", "(I)J"⟩, 3), (⟨"ChimeVan", "possibleCorners", "()I"⟩, 14), (⟨"ChimeVan", "bestWitness", "(I)I"⟩, 14), (⟨"ChimeVan", "drift", "(II)I"⟩, 14), (⟨"ChimeVan", "hearersNumber", "()I"⟩, 14), (⟨"ChimeVan", "digestOfPeople", "(J)J"⟩, 14), (⟨"ChimeVan", "digestOfStreets", "(J)J"⟩, 14)]
theorem lw_r2 : ∀ q ∈ lw_privs_2, lw_okq q := List.forall_mem_cons.mpr ⟨lw_p16, List.forall_mem_cons.mpr ⟨lw_p17, List.forall_mem_cons.mpr ⟨lw_p18, List.forall_mem_cons.mpr ⟨lw_p19, List.forall_mem_cons.mpr ⟨lw_p20, List.forall_mem_cons.mpr ⟨lw_p21, List.forall_mem_cons.mpr ⟨lw_p22, List.forall_mem_cons.mpr ⟨lw_p23, List.forall_mem_cons.mpr ⟨lw_p24, List.forall_mem_cons.mpr ⟨lw_p25, List.forall_mem_cons.mpr ⟨lw_p26, List.forall_mem_cons.mpr ⟨lw_p27, List.forall_mem_cons.mpr ⟨lw_p28, List.forall_mem_cons.mpr ⟨lw_p29, List.forall_mem_cons.mpr ⟨lw_p30, List.forall_mem_cons.mpr ⟨lw_p31, fun _ h => absurd h List.not_mem_nil⟩⟩⟩⟩⟩⟩⟩⟩⟩⟩⟩⟩⟩⟩⟩⟩
theorem lw_p32 : lw_okq (⟨"ChimeVanModel", "faultOf", "()I"⟩, 41) := ⟨⟨by decide +kernel, by decide +kernel⟩, List.mem_of_getElem? (i := 744) (by decide +kernel), List.mem_of_getElem? (i := 890) (by decide +kernel), List.mem_of_getElem? (i := 891) (by decide +kernel)⟩
theorem lw_p33 : lw_okq (⟨"ChimeVanModel", "isGood", "(I)Z"⟩, 41) := ⟨⟨by decide +kernel, by decide +kernel⟩, List.mem_of_getElem? (i := 744) (by decide +kernel), List.mem_of_getElem? (i := 894) (by decide +kernel), List.mem_of_getElem? (i := 895) (by decide +kernel)⟩
theorem lw_p34 : lw_okq (⟨"ChimeVanModel", "isCornerLetter", "(I)Z"⟩, 41) := ⟨⟨by decide +kernel, by decide +kernel⟩, List.mem_of_getElem? (i := 744) (by decide +kernel), List.mem_of_getElem? (i := 900) (by decide +kernel), List.mem_of_getElem? (i := 901) (by decide +kernel)⟩
theorem lw_p35 : lw_okq (⟨"ChimeVanModel", "isRoadLetter", "(I)Z"⟩, 41) := ⟨⟨by decide +kernel, by decide +kernel⟩, List.mem_of_getElem? (i := 744) (by decide +kernel), List.mem_of_getElem? (i := 905) (by decide +kernel), List.mem_of_getElem? (i := 906) (by decide +kernel)⟩
theorem lw_p36 : lw_okq (⟨"ChimeVanModel", "isPersonLetter", "(I)Z"⟩, 41) := ⟨⟨by decide +kernel, by decide +kernel⟩, List.mem_of_getElem? (i := 744) (by decide +kernel), List.mem_of_getElem? (i := 909) (by decide +kernel), List.mem_of_getElem? (i := 910) (by decide +kernel)⟩
theorem lw_p37 : lw_okq (⟨"ChimeVanModel", "layFars", "()V"⟩, 41) := ⟨⟨by decide +kernel, by decide +kernel⟩, List.mem_of_getElem? (i := 744) (by decide +kernel), List.mem_of_getElem? (i := 921) (by decide +kernel), List.mem_of_getElem? (i := 922) (by decide +kernel)⟩
theorem lw_p38 : lw_okq (⟨"ChimeVanModel", "isPerson", "(I)Z"⟩, 41) := ⟨⟨by decide +kernel, by decide +kernel⟩, List.mem_of_getElem? (i := 744) (by decide +kernel), List.mem_of_getElem? (i := 929) (by decide +kernel), List.mem_of_getElem? (i := 930) (by decide +kernel)⟩
theorem lw_p39 : lw_okq (⟨"ChimeVanModel", "tellPerson", "(II)I"⟩, 41) := ⟨⟨by decide +kernel, by decide +kernel⟩, List.mem_of_getElem? (i := 744) (by decide +kernel), List.mem_of_getElem? (i := 933) (by decide +kernel), List.mem_of_getElem? (i := 934) (by decide +kernel)⟩
theorem lw_p40 : lw_okq (⟨"ChimeVanModel", "hears", "(I)I"⟩, 41) := ⟨⟨by decide +kernel, by decide +kernel⟩, List.mem_of_getElem? (i := 744) (by decide +kernel), List.mem_of_getElem? (i := 940) (by decide +kernel), List.mem_of_getElem? (i := 941) (by decide +kernel)⟩
theorem lw_p41 : lw_okq (⟨"ChimeVanModel", "soonOf", "(I)I"⟩, 41) := ⟨⟨by decide +kernel, by decide +kernel⟩, List.mem_of_getElem? (i := 744) (by decide +kernel), List.mem_of_getElem? (i := 944) (by decide +kernel), List.mem_of_getElem? (i := 945) (by decide +kernel)⟩
theorem lw_p42 : lw_okq (⟨"ChimeVanModel", "isNext", "(II)Z"⟩, 41) := ⟨⟨by decide +kernel, by decide +kernel⟩, List.mem_of_getElem? (i := 744) (by decide +kernel), List.mem_of_getElem? (i := 948) (by decide +kernel), List.mem_of_getElem? (i := 949) (by decide +kernel)⟩
theorem lw_p43 : lw_okq (⟨"ChimeVanModel", "isTime", "(II)Z"⟩, 41) := ⟨⟨by decide +kernel, by decide +kernel⟩, List.mem_of_getElem? (i := 744) (by decide +kernel), List.mem_of_getElem? (i := 952) (by decide +kernel), List.mem_of_getElem? (i := 953) (by decide +kernel)⟩
theorem lw_p44 : lw_okq (⟨"ChimeVanModel", "isCorner", "(I)Z"⟩, 41) := ⟨⟨by decide +kernel, by decide +kernel⟩, List.mem_of_getElem? (i := 744) (by decide +kernel), List.mem_of_getElem? (i := 972) (by decide +kernel), List.mem_of_getElem? (i := 973) (by decide +kernel)⟩
theorem lw_p45 : lw_okq (⟨"ChimeVanModel", "tellCorner", "(II)I"⟩, 41) := ⟨⟨by decide +kernel, by decide +kernel⟩, List.mem_of_getElem? (i := 744) (by decide +kernel), List.mem_of_getElem? (i := 976) (by decide +kernel), List.mem_of_getElem? (i := 977) (by decide +kernel)⟩
theorem lw_p46 : lw_okq (⟨"ChimeVanModel", "nextTo", "(I)I"⟩, 41) := ⟨⟨by decide +kernel, by decide +kernel⟩, List.mem_of_getElem? (i := 744) (by decide +kernel), List.mem_of_getElem? (i := 980) (by decide +kernel), List.mem_of_getElem? (i := 981) (by decide +kernel)⟩
theorem lw_p47 : lw_okq (⟨"ChimeVanModel", "whoAt", "(I)I"⟩, 41) := ⟨⟨by decide +kernel, by decide +kernel⟩, List.mem_of_getElem? (i := 744) (by decide +kernel), List.mem_of_getElem? (i := 984) (by decide +kernel), List.mem_of_getElem? (i := 985) (by decide +kernel)⟩
def lw_privs_3 : List (MethodName × Nat) := [(⟨"ChimeVanModel", "faultOf", "()I"⟩, 41), (⟨"ChimeVanModel", "isGood", "(I)Z"⟩, 41), (⟨"ChimeVanModel", "isCornerLetter", "(I)Z"⟩, 41), (⟨"ChimeVanModel", "isRoadLetter", "(I)Z"⟩, 41), (⟨"ChimeVanModel", "isPersonLetter", "(I)Z"⟩, 41), (⟨"ChimeVanModel", "layFars", "()V"⟩, 41), (⟨"ChimeVanModel", "isPerson", "(I)Z"⟩, 41), (⟨"ChimeVanModel", "tellPerson", "(II)I"⟩, 41), (⟨"ChimeVanModel", "hears", "(I)I"⟩, 41), (⟨"ChimeVanModel", "soonOf", "(I)I"⟩, 41), (⟨"ChimeVanModel", "isNext", "(II)Z"⟩, 41), (⟨"ChimeVanModel", "isTime", "(II)Z"⟩, 41), (⟨"ChimeVanModel", "isCorner", "(I)Z"⟩, 41), (⟨"ChimeVanModel", "tellCorner", "(II)I"⟩, 41), (⟨"ChimeVanModel", "nextTo", "(I)I"⟩, 41), (⟨"ChimeVanModel", "whoAt", "(I)I"⟩, 41)]
theorem lw_r3 : ∀ q ∈ lw_privs_3, lw_okq q := List.forall_mem_cons.mpr ⟨lw_p32, List.forall_mem_cons.mpr ⟨lw_p33, List.forall_mem_cons.mpr ⟨lw_p34, List.forall_mem_cons.mpr ⟨lw_p35, List.forall_mem_cons.mpr ⟨lw_p36, List.forall_mem_cons.mpr ⟨lw_p37, List.forall_mem_cons.mpr ⟨lw_p38, List.forall_mem_cons.mpr ⟨lw_p39, List.forall_mem_cons.mpr ⟨lw_p40, List.forall_mem_cons.mpr ⟨lw_p41, List.forall_mem_cons.mpr ⟨lw_p42, List.forall_mem_cons.mpr ⟨lw_p43, List.forall_mem_cons.mpr ⟨lw_p44, List.forall_mem_cons.mpr ⟨lw_p45, List.forall_mem_cons.mpr ⟨lw_p46, List.forall_mem_cons.mpr ⟨lw_p47, fun _ h => absurd h List.not_mem_nil⟩⟩⟩⟩⟩⟩⟩⟩⟩⟩⟩⟩⟩⟩⟩⟩
theorem lw_p48 : lw_okq (⟨"ChimeVanModel", "farOf", "(II)I"⟩, 41) := ⟨⟨by decide +kernel, by decide +kernel⟩, List.mem_of_getElem? (i := 744) (by decide +kernel), List.mem_of_getElem? (i := 988) (by decide +kernel), List.mem_of_getElem? (i := 989) (by decide +kernel)⟩
theorem lw_p49 : lw_okq (⟨"ChimeVanModel", "catchOf", "(I)I"⟩, 41) := ⟨⟨by decide +kernel, by decide +kernel⟩, List.mem_of_getElem? (i := 744) (by decide +kernel), List.mem_of_getElem? (i := 992) (by decide +kernel), List.mem_of_getElem? (i := 993) (by decide +kernel)⟩
theorem lw_p50 : lw_okq (⟨"ChimeVanModel", "isSure", "(II)Z"⟩, 41) := ⟨⟨by decide +kernel, by decide +kernel⟩, List.mem_of_getElem? (i := 744) (by decide +kernel), List.mem_of_getElem? (i := 996) (by decide +kernel), List.mem_of_getElem? (i := 997) (by decide +kernel)⟩
theorem lw_p51 : lw_okq (⟨"ChimeVanModel", "canCatch", "(II)Z"⟩, 41) := ⟨⟨by decide +kernel, by decide +kernel⟩, List.mem_of_getElem? (i := 744) (by decide +kernel), List.mem_of_getElem? (i := 1000) (by decide +kernel), List.mem_of_getElem? (i := 1001) (by decide +kernel)⟩
theorem lw_p52 : lw_okq (⟨"ChimeVanModel", "begin", "()V"⟩, 41) := ⟨⟨by decide +kernel, by decide +kernel⟩, List.mem_of_getElem? (i := 744) (by decide +kernel), List.mem_of_getElem? (i := 1012) (by decide +kernel), List.mem_of_getElem? (i := 1013) (by decide +kernel)⟩
theorem lw_p53 : lw_okq (⟨"ChimeVanModel", "goThen", "(II)I"⟩, 41) := ⟨⟨by decide +kernel, by decide +kernel⟩, List.mem_of_getElem? (i := 744) (by decide +kernel), List.mem_of_getElem? (i := 1016) (by decide +kernel), List.mem_of_getElem? (i := 1017) (by decide +kernel)⟩
theorem lw_p54 : lw_okq (⟨"ChimeVanModel", "lacks", "()Z"⟩, 41) := ⟨⟨by decide +kernel, by decide +kernel⟩, List.mem_of_getElem? (i := 744) (by decide +kernel), List.mem_of_getElem? (i := 1036) (by decide +kernel), List.mem_of_getElem? (i := 1037) (by decide +kernel)⟩
theorem lw_p55 : lw_okq (⟨"ChimeVanModel", "roundOf", "(II)I"⟩, 41) := ⟨⟨by decide +kernel, by decide +kernel⟩, List.mem_of_getElem? (i := 744) (by decide +kernel), List.mem_of_getElem? (i := 1040) (by decide +kernel), List.mem_of_getElem? (i := 1041) (by decide +kernel)⟩
theorem lw_p56 : lw_okq (⟨"ChimeVanModel", "worthOf", "(II)I"⟩, 41) := ⟨⟨by decide +kernel, by decide +kernel⟩, List.mem_of_getElem? (i := 744) (by decide +kernel), List.mem_of_getElem? (i := 1044) (by decide +kernel), List.mem_of_getElem? (i := 1045) (by decide +kernel)⟩
theorem lw_p57 : lw_okq (⟨"ChimeVanModel", "oddsOf", "(III)I"⟩, 41) := ⟨⟨by decide +kernel, by decide +kernel⟩, List.mem_of_getElem? (i := 744) (by decide +kernel), List.mem_of_getElem? (i := 1055) (by decide +kernel), List.mem_of_getElem? (i := 1056) (by decide +kernel)⟩
theorem lw_p58 : lw_okq (⟨"ChimeVanModel", "stray", "()V"⟩, 41) := ⟨⟨by decide +kernel, by decide +kernel⟩, List.mem_of_getElem? (i := 744) (by decide +kernel), List.mem_of_getElem? (i := 1059) (by decide +kernel), List.mem_of_getElem? (i := 1060) (by decide +kernel)⟩
theorem lw_p59 : lw_okq (⟨"ChimeVanModel", "roadsAt", "(I)I"⟩, 41) := ⟨⟨by decide +kernel, by decide +kernel⟩, List.mem_of_getElem? (i := 744) (by decide +kernel), List.mem_of_getElem? (i := 1063) (by decide +kernel), List.mem_of_getElem? (i := 1064) (by decide +kernel)⟩
theorem lw_p60 : lw_okq (⟨"ChimeVanModel", "placesOf", "()I"⟩, 41) := ⟨⟨by decide +kernel, by decide +kernel⟩, List.mem_of_getElem? (i := 744) (by decide +kernel), List.mem_of_getElem? (i := 1080) (by decide +kernel), List.mem_of_getElem? (i := 1081) (by decide +kernel)⟩
theorem lw_p61 : lw_okq (⟨"ChimeVanModel", "hearsAt", "(II)I"⟩, 41) := ⟨⟨by decide +kernel, by decide +kernel⟩, List.mem_of_getElem? (i := 744) (by decide +kernel), List.mem_of_getElem? (i := 1084) (by decide +kernel), List.mem_of_getElem? (i := 1085) (by decide +kernel)⟩
theorem lw_p62 : lw_okq (⟨"ChimeVanModel", "askOf", "()I"⟩, 41) := ⟨⟨by decide +kernel, by decide +kernel⟩, List.mem_of_getElem? (i := 744) (by decide +kernel), List.mem_of_getElem? (i := 1092) (by decide +kernel), List.mem_of_getElem? (i := 1093) (by decide +kernel)⟩
theorem lw_p63 : lw_okq (⟨"ChimeVanModel", "draw", "(I)I"⟩, 41) := ⟨⟨by decide +kernel, by decide +kernel⟩, List.mem_of_getElem? (i := 744) (by decide +kernel), List.mem_of_getElem? (i := 1102) (by decide +kernel), List.mem_of_getElem? (i := 1103) (by decide +kernel)⟩
def lw_privs_4 : List (MethodName × Nat) := [(⟨"ChimeVanModel", "farOf", "(II)I"⟩, 41), (⟨"ChimeVanModel", "catchOf", "(I)I"⟩, 41), (⟨"ChimeVanModel", "isSure", "(II)Z"⟩, 41), (⟨"ChimeVanModel", "canCatch", "(II)Z"⟩, 41), (⟨"ChimeVanModel", "begin", "()V"⟩, 41), (⟨"ChimeVanModel", "goThen", "(II)I"⟩, 41), (⟨"ChimeVanModel", "lacks", "()Z"⟩, 41), (⟨"ChimeVanModel", "roundOf", "(II)I"⟩, 41), (⟨"ChimeVanModel", "worthOf", "(II)I"⟩, 41), (⟨"ChimeVanModel", "oddsOf", "(III)I"⟩, 41), (⟨"ChimeVanModel", "stray", "()V"⟩, 41), (⟨"ChimeVanModel", "roadsAt", "(I)I"⟩, 41), (⟨"ChimeVanModel", "placesOf", "()I"⟩, 41), (⟨"ChimeVanModel", "hearsAt", "(II)I"⟩, 41), (⟨"ChimeVanModel", "askOf", "()I"⟩, 41), (⟨"ChimeVanModel", "draw", "(I)I"⟩, 41)]
theorem lw_r4 : ∀ q ∈ lw_privs_4, lw_okq q := List.forall_mem_cons.mpr ⟨lw_p48, List.forall_mem_cons.mpr ⟨lw_p49, List.forall_mem_cons.mpr ⟨lw_p50, List.forall_mem_cons.mpr ⟨lw_p51, List.forall_mem_cons.mpr ⟨lw_p52, List.forall_mem_cons.mpr ⟨lw_p53, List.forall_mem_cons.mpr ⟨lw_p54, List.forall_mem_cons.mpr ⟨lw_p55, List.forall_mem_cons.mpr ⟨lw_p56, List.forall_mem_cons.mpr ⟨lw_p57, List.forall_mem_cons.mpr ⟨lw_p58, List.forall_mem_cons.mpr ⟨lw_p59, List.forall_mem_cons.mpr ⟨lw_p60, List.forall_mem_cons.mpr ⟨lw_p61, List.forall_mem_cons.mpr ⟨lw_p62, List.forall_mem_cons.mpr ⟨lw_p63, fun _ h => absurd h List.not_mem_nil⟩⟩⟩⟩⟩⟩⟩⟩⟩⟩⟩⟩⟩⟩⟩⟩
theorem lw_p64 : lw_okq (⟨"ChimeVanModel", "countOf", "(I)I"⟩, 41) := ⟨⟨by decide +kernel, by decide +kernel⟩, List.mem_of_getElem? (i := 744) (by decide +kernel), List.mem_of_getElem? (i := 1122) (by decide +kernel), List.mem_of_getElem? (i := 1123) (by decide +kernel)⟩
theorem lw_p65 : lw_okq (⟨"ChimeVanModel", "sumOf", "([I)I"⟩, 41) := ⟨⟨by decide +kernel, by decide +kernel⟩, List.mem_of_getElem? (i := 744) (by decide +kernel), List.mem_of_getElem? (i := 1126) (by decide +kernel), List.mem_of_getElem? (i := 1127) (by decide +kernel)⟩
theorem lw_p66 : lw_okq (⟨"ChimeVanModel", "hearing", "()I"⟩, 41) := ⟨⟨by decide +kernel, by decide +kernel⟩, List.mem_of_getElem? (i := 744) (by decide +kernel), List.mem_of_getElem? (i := 1130) (by decide +kernel), List.mem_of_getElem? (i := 1131) (by decide +kernel)⟩
theorem lw_p67 : lw_okq (⟨"ChimeVanModel", "say", "(J)V"⟩, 41) := ⟨⟨by decide +kernel, by decide +kernel⟩, List.mem_of_getElem? (i := 744) (by decide +kernel), List.mem_of_getElem? (i := 1139) (by decide +kernel), List.mem_of_getElem? (i := 1140) (by decide +kernel)⟩
theorem lw_p68 : lw_okq (⟨"ChimeVanModel", "sayThings", "()V"⟩, 41) := ⟨⟨by decide +kernel, by decide +kernel⟩, List.mem_of_getElem? (i := 744) (by decide +kernel), List.mem_of_getElem? (i := 1144) (by decide +kernel), List.mem_of_getElem? (i := 1145) (by decide +kernel)⟩
def lw_privs_5 : List (MethodName × Nat) := [(⟨"ChimeVanModel", "countOf", "(I)I"⟩, 41), (⟨"ChimeVanModel", "sumOf", "([I)I"⟩, 41), (⟨"ChimeVanModel", "hearing", "()I"⟩, 41), (⟨"ChimeVanModel", "say", "(J)V"⟩, 41), (⟨"ChimeVanModel", "sayThings", "()V"⟩, 41)]
theorem lw_r5 : ∀ q ∈ lw_privs_5, lw_okq q := List.forall_mem_cons.mpr ⟨lw_p64, List.forall_mem_cons.mpr ⟨lw_p65, List.forall_mem_cons.mpr ⟨lw_p66, List.forall_mem_cons.mpr ⟨lw_p67, List.forall_mem_cons.mpr ⟨lw_p68, fun _ h => absurd h List.not_mem_nil⟩⟩⟩⟩⟩
def lw_privs : List (MethodName × Nat) := lw_privs_1 ++ (lw_privs_2 ++ (lw_privs_3 ++ (lw_privs_4 ++ (lw_privs_5))))
def lw_tbl : List Cond := k2_sels lw_privs ++ tables_1
theorem lw_privs_ok : ∀ q ∈ lw_privs, lw_okq q := by
  show ∀ q ∈ lw_privs_1 ++ (lw_privs_2 ++ (lw_privs_3 ++ (lw_privs_4 ++ (lw_privs_5)))), lw_okq q
  exact List.forall_mem_append.mpr ⟨lw_r1, List.forall_mem_append.mpr ⟨lw_r2, List.forall_mem_append.mpr ⟨lw_r3, List.forall_mem_append.mpr ⟨lw_r4, lw_r5⟩⟩⟩⟩
/-! ===== BEGIN words of one list among another's, by their places ===== -/
theorem goodIn_r {big : List Cond} (ws : List Cond) (ps : List Nat) (hp : ws = ps.filterMap (fun i => big[i]?)) (h : ws.all goodWord = true) : GoodIn big ws := by
  intro w hw
  have h1 := List.all_eq_true.mp h w hw
  rw [hp] at hw
  obtain ⟨i, -, hi⟩ := List.mem_filterMap.mp hw
  have hm : w ∈ big := by first | exact List.mem_of_getElem? hi | exact List.getElem?_mem hi
  exact ⟨hm, good_of_word h1⟩
theorem goodIn_app {big a b : List Cond} (ha : GoodIn big a) (hb : GoodIn big b) : GoodIn big (a ++ b) := fun w h => (List.mem_append.mp h).elim (ha w) (hb w)
theorem goodIn_ca {big a b : List Cond} {c : Cond} (ha : GoodIn big (c :: a)) (hb : GoodIn big b) : GoodIn big (c :: (a ++ b)) := fun w h => (List.mem_cons.mp h).elim (fun e => ha w (List.mem_cons.mpr (Or.inl e))) (fun h => (List.mem_append.mp h).elim (fun h => ha w (List.mem_cons.mpr (Or.inr h))) (hb w))
theorem goodIn_sub {big ws : List Cond} (hm : ∀ w ∈ ws, w ∈ big) (h : ws.all goodWord = true) : GoodIn big ws := fun w hw => ⟨hm w hw, good_of_word (List.all_eq_true.mp h w hw)⟩
/-! ===== END ===== -/

def RX0 : String := "ChimeVan$Evening"
def TX0 : u_T := fun k => match k with
  | 0 => ("ChimeVan$Evening", "van", "I", false)
  | 1 => ("ChimeVan$Evening", "hour", "I", false)
  | 2 => ("ChimeVan$Evening", "served", "I", false)
  | _ => ("ChimeVan$Evening", "counts", "[I", true)
def tyX0 : Nat → FieldType := fun k => match k with
  | 0 => .int
  | 1 => .int
  | 2 => .int
  | _ => .array .int
abbrev wsX00 : List Cond := u_ws RX0 TX0 4
theorem nmX0 : ∀ a, a < 4 → ∀ b, b < 4 → a ≠ b → (TX0 a).2.1 ≠ (TX0 b).2.1 := by decide +kernel
theorem tyX0_ok : ∀ k, k < 4 → parseFieldDescriptor (TX0 k).2.2.1 = some (tyX0 k) := by decide +kernel
abbrev cX0_init : ByteArray := prog_2_method_1_code
def yX0_init : MethodName := ⟨RX0, "<init>", "()V"⟩
abbrev cX0_begin : ByteArray := prog_2_method_2_code
def yX0_begin : MethodName := ⟨RX0, "begin", "(I)V"⟩
abbrev cX0_copy : ByteArray := prog_2_method_3_code
def yX0_copy : MethodName := ⟨RX0, "copy", "(LChimeVan$Evening;)V"⟩
abbrev cX0_isServed : ByteArray := prog_2_method_4_code
def yX0_isServed : MethodName := ⟨RX0, "isServed", "(I)Z"⟩
abbrev cX0_servedNumber : ByteArray := prog_2_method_5_code
def yX0_servedNumber : MethodName := ⟨RX0, "servedNumber", "()I"⟩
abbrev cX0_forgo : ByteArray := prog_2_method_6_code
def yX0_forgo : MethodName := ⟨RX0, "forgo", "(I)V"⟩
abbrev cX0_pass : ByteArray := prog_2_method_7_code
def yX0_pass : MethodName := ⟨RX0, "pass", "(ILChimeVan$Folk;)I"⟩
abbrev cX0_meet : ByteArray := prog_2_method_8_code
def yX0_meet : MethodName := ⟨RX0, "meet", "(ILChimeVan$Folk;)V"⟩
abbrev cX0_countedByAll : ByteArray := prog_2_method_9_code
def yX0_countedByAll : MethodName := ⟨RX0, "countedByAll", "()I"⟩
abbrev cX0_countedByUnserved : ByteArray := prog_2_method_10_code
def yX0_countedByUnserved : MethodName := ⟨RX0, "countedByUnserved", "()I"⟩
abbrev cX0_countedBy : ByteArray := prog_2_method_11_code
def yX0_countedBy : MethodName := ⟨RX0, "countedBy", "(I)I"⟩
def RX1 : String := "ChimeVan$Folk"
def TX1 : u_T := fun k => match k with
  | 0 => ("ChimeVan$Folk", "size", "I", false)
  | 1 => ("ChimeVan$Folk", "home", "[I", true)
  | 2 => ("ChimeVan$Folk", "kind", "[I", true)
  | 3 => ("ChimeVan$Folk", "due", "[I", true)
  | _ => ("ChimeVan$Folk", "ears", "[I", true)
def tyX1 : Nat → FieldType := fun k => match k with
  | 0 => .int
  | 1 => .array .int
  | 2 => .array .int
  | 3 => .array .int
  | _ => .array .int
abbrev wsX10 : List Cond := u_ws RX1 TX1 5
theorem nmX1 : ∀ a, a < 5 → ∀ b, b < 5 → a ≠ b → (TX1 a).2.1 ≠ (TX1 b).2.1 := by decide +kernel
theorem tyX1_ok : ∀ k, k < 5 → parseFieldDescriptor (TX1 k).2.2.1 = some (tyX1 k) := by decide +kernel
abbrev cX1_init : ByteArray := prog_3_method_1_code
def yX1_init : MethodName := ⟨RX1, "<init>", "()V"⟩
abbrev cX1_settle : ByteArray := prog_3_method_2_code
def yX1_settle : MethodName := ⟨RX1, "settle", "(LChimeVan$Page;)V"⟩
abbrev cX1_copy : ByteArray := prog_3_method_3_code
def yX1_copy : MethodName := ⟨RX1, "copy", "(LChimeVan$Folk;)V"⟩
abbrev cX1_needs : ByteArray := prog_3_method_4_code
def yX1_needs : MethodName := ⟨RX1, "needs", "(I)I"⟩
abbrev cX1_isOfKind : ByteArray := prog_3_method_5_code
def yX1_isOfKind : MethodName := ⟨RX1, "isOfKind", "(II)Z"⟩
abbrev cX1_whoLivesAt : ByteArray := prog_3_method_6_code
def yX1_whoLivesAt : MethodName := ⟨RX1, "whoLivesAt", "(I)I"⟩
abbrev cX1_countedAfter : ByteArray := prog_3_method_7_code
def yX1_countedAfter : MethodName := ⟨RX1, "countedAfter", "(IIZI)I"⟩
def RX2 : String := "ChimeVan$Hearsay"
def TX2 : u_T := fun k => match k with
  | 0 => ("ChimeVan$Hearsay", "size", "I", false)
  | 1 => ("ChimeVan$Hearsay", "who", "[I", true)
  | _ => ("ChimeVan$Hearsay", "heard", "[Z", true)
def tyX2 : Nat → FieldType := fun k => match k with
  | 0 => .int
  | 1 => .array .int
  | _ => .array .boolean
abbrev wsX20 : List Cond := u_ws RX2 TX2 3
theorem nmX2 : ∀ a, a < 3 → ∀ b, b < 3 → a ≠ b → (TX2 a).2.1 ≠ (TX2 b).2.1 := by decide +kernel
theorem tyX2_ok : ∀ k, k < 3 → parseFieldDescriptor (TX2 k).2.2.1 = some (tyX2 k) := by decide +kernel
abbrev cX2_init : ByteArray := prog_4_method_1_code
def yX2_init : MethodName := ⟨RX2, "<init>", "()V"⟩
abbrev cX2_copy : ByteArray := prog_4_method_2_code
def yX2_copy : MethodName := ⟨RX2, "copy", "(LChimeVan$Hearsay;)V"⟩
def RX3 : String := "ChimeVan$Page"
def TX3 : u_T := fun k => match k with
  | 0 => ("ChimeVan$Page", "codes", "[I", true)
  | 1 => ("ChimeVan$Page", "size", "I", false)
  | 2 => ("ChimeVan$Page", "roads", "I", false)
  | 3 => ("ChimeVan$Page", "people", "I", false)
  | _ => ("ChimeVan$Page", "peopleStart", "I", false)
def tyX3 : Nat → FieldType := fun k => match k with
  | 0 => .array .int
  | 1 => .int
  | 2 => .int
  | 3 => .int
  | _ => .int
abbrev wsX30 : List Cond := u_ws RX3 TX3 5
theorem nmX3 : ∀ a, a < 5 → ∀ b, b < 5 → a ≠ b → (TX3 a).2.1 ≠ (TX3 b).2.1 := by decide +kernel
theorem tyX3_ok : ∀ k, k < 5 → parseFieldDescriptor (TX3 k).2.2.1 = some (tyX3 k) := by decide +kernel
abbrev cX3_init : ByteArray := prog_5_method_1_code
def yX3_init : MethodName := ⟨RX3, "<init>", "()V"⟩
abbrev cX3_firstFault : ByteArray := prog_5_method_2_code
def yX3_firstFault : MethodName := ⟨RX3, "firstFault", "()I"⟩
abbrev cX3_isSuburb : ByteArray := prog_5_method_3_code
def yX3_isSuburb : MethodName := ⟨RX3, "isSuburb", "()Z"⟩
abbrev cX3_roadStart : ByteArray := prog_5_method_4_code
def yX3_roadStart : MethodName := ⟨RX3, "roadStart", "(I)I"⟩
abbrev cX3_personStart : ByteArray := prog_5_method_5_code
def yX3_personStart : MethodName := ⟨RX3, "personStart", "(I)I"⟩
abbrev cX3_digitAt : ByteArray := prog_5_method_6_code
def yX3_digitAt : MethodName := ⟨RX3, "digitAt", "(I)I"⟩
abbrev cX3_kindAt : ByteArray := prog_5_method_7_code
def yX3_kindAt : MethodName := ⟨RX3, "kindAt", "(I)I"⟩
abbrev cX3_takes : ByteArray := prog_5_method_8_code
def yX3_takes : MethodName := ⟨RX3, "takes", "(I)Z"⟩
abbrev cX3_takesHead : ByteArray := prog_5_method_9_code
def yX3_takesHead : MethodName := ⟨RX3, "takesHead", "(I)Z"⟩
abbrev cX3_takesRoads : ByteArray := prog_5_method_10_code
def yX3_takesRoads : MethodName := ⟨RX3, "takesRoads", "(I)Z"⟩
abbrev cX3_takesPeople : ByteArray := prog_5_method_11_code
def yX3_takesPeople : MethodName := ⟨RX3, "takesPeople", "(I)Z"⟩
abbrev cX3_isDigitAt : ByteArray := prog_5_method_12_code
def yX3_isDigitAt : MethodName := ⟨RX3, "isDigitAt", "(I)Z"⟩
abbrev cX3_isCornerAt : ByteArray := prog_5_method_13_code
def yX3_isCornerAt : MethodName := ⟨RX3, "isCornerAt", "(I)Z"⟩
def RX4 : String := "ChimeVan$RoundSearch"
def TX4 : u_T := fun k => match k with
  | 0 => ("ChimeVan$RoundSearch", "bestWay", "[I", true)
  | 1 => ("ChimeVan$RoundSearch", "bestServed", "I", false)
  | 2 => ("ChimeVan$RoundSearch", "bestCounted", "I", false)
  | 3 => ("ChimeVan$RoundSearch", "way", "[I", true)
  | _ => ("ChimeVan$RoundSearch", "trials", "[LChimeVan$Evening;", true)
def tyX4 : Nat → FieldType := fun k => match k with
  | 0 => .array .int
  | 1 => .int
  | 2 => .int
  | 3 => .array .int
  | _ => .array (.object "ChimeVan$Evening")
abbrev wsX40 : List Cond := u_ws RX4 TX4 5
theorem nmX4 : ∀ a, a < 5 → ∀ b, b < 5 → a ≠ b → (TX4 a).2.1 ≠ (TX4 b).2.1 := by decide +kernel
theorem tyX4_ok : ∀ k, k < 5 → parseFieldDescriptor (TX4 k).2.2.1 = some (tyX4 k) := by decide +kernel
abbrev cX4_init : ByteArray := prog_6_method_1_code
def yX4_init : MethodName := ⟨RX4, "<init>", "()V"⟩
abbrev cX4_run : ByteArray := prog_6_method_2_code
def yX4_run : MethodName := ⟨RX4, "run", "(LChimeVan$Town;LChimeVan$Folk;LChimeVan$Evening;I)V"⟩
abbrev cX4_extend : ByteArray := prog_6_method_3_code
def yX4_extend : MethodName := ⟨RX4, "extend", "(LChimeVan$Town;LChimeVan$Folk;II)V"⟩
abbrev cX4_judge : ByteArray := prog_6_method_4_code
def yX4_judge : MethodName := ⟨RX4, "judge", "(LChimeVan$Evening;)V"⟩
def RX5 : String := "ChimeVan$Stray"
def TX5 : u_T := fun k => match k with
  | 0 => ("ChimeVan$Stray", "whole", "J", false)
  | 1 => ("ChimeVan$Stray", "chance", "[J", true)
  | _ => ("ChimeVan$Stray", "later", "[J", true)
def tyX5 : Nat → FieldType := fun k => match k with
  | 0 => .long
  | 1 => .array .long
  | _ => .array .long
abbrev wsX50 : List Cond := u_ws RX5 TX5 3
theorem nmX5 : ∀ a, a < 3 → ∀ b, b < 3 → a ≠ b → (TX5 a).2.1 ≠ (TX5 b).2.1 := by decide +kernel
theorem tyX5_ok : ∀ k, k < 3 → parseFieldDescriptor (TX5 k).2.2.1 = some (tyX5 k) := by decide +kernel
abbrev cX5_init : ByteArray := prog_7_method_1_code
def yX5_init : MethodName := ⟨RX5, "<init>", "()V"⟩
abbrev cX5_run : ByteArray := prog_7_method_2_code
def yX5_run : MethodName := ⟨RX5, "run", "(LChimeVan$Town;II)V"⟩
abbrev cX5_above : ByteArray := prog_7_method_3_code
def yX5_above : MethodName := ⟨RX5, "above", "(I)I"⟩
abbrev cX5_below : ByteArray := prog_7_method_4_code
def yX5_below : MethodName := ⟨RX5, "below", "(I)I"⟩
abbrev cX5_scatter : ByteArray := prog_7_method_5_code
def yX5_scatter : MethodName := ⟨RX5, "scatter", "(LChimeVan$Town;)V"⟩
abbrev cX5_partPerRoad : ByteArray := prog_7_method_6_code
def yX5_partPerRoad : MethodName := ⟨RX5, "partPerRoad", "(LChimeVan$Town;I)J"⟩
abbrev cX5_sharedPart : ByteArray := prog_7_method_7_code
def yX5_sharedPart : MethodName := ⟨RX5, "sharedPart", "(I)J"⟩
def RX6 : String := "ChimeVan$Town"
def TX6 : u_T := fun k => match k with
  | 0 => ("ChimeVan$Town", "corners", "I", false)
  | 1 => ("ChimeVan$Town", "roads", "I", false)
  | 2 => ("ChimeVan$Town", "firstEnd", "[I", true)
  | 3 => ("ChimeVan$Town", "otherEnd", "[I", true)
  | 4 => ("ChimeVan$Town", "reach", "[I", true)
  | 5 => ("ChimeVan$Town", "roadsAt", "[I", true)
  | 6 => ("ChimeVan$Town", "steps", "[[I", true)
  | _ => ("ChimeVan$Town", "catchHours", "[[I", true)
def tyX6 : Nat → FieldType := fun k => match k with
  | 0 => .int
  | 1 => .int
  | 2 => .array .int
  | 3 => .array .int
  | 4 => .array .int
  | 5 => .array .int
  | 6 => .array (.array .int)
  | _ => .array (.array .int)
abbrev wsX60 : List Cond := u_ws RX6 TX6 8
theorem nmX6 : ∀ a, a < 8 → ∀ b, b < 8 → a ≠ b → (TX6 a).2.1 ≠ (TX6 b).2.1 := by decide +kernel
theorem tyX6_ok : ∀ k, k < 8 → parseFieldDescriptor (TX6 k).2.2.1 = some (tyX6 k) := by decide +kernel
abbrev cX6_init : ByteArray := prog_8_method_1_code
def yX6_init : MethodName := ⟨RX6, "<init>", "()V"⟩
abbrev cX6_build : ByteArray := prog_8_method_2_code
def yX6_build : MethodName := ⟨RX6, "build", "(LChimeVan$Page;)V"⟩
abbrev cX6_alongRoad : ByteArray := prog_8_method_3_code
def yX6_alongRoad : MethodName := ⟨RX6, "alongRoad", "(II)I"⟩
abbrev cX6_layRoad : ByteArray := prog_8_method_4_code
def yX6_layRoad : MethodName := ⟨RX6, "layRoad", "(III)V"⟩
abbrev cX6_measureSteps : ByteArray := prog_8_method_5_code
def yX6_measureSteps : MethodName := ⟨RX6, "measureSteps", "(I)V"⟩
abbrev cX6_spread : ByteArray := prog_8_method_6_code
def yX6_spread : MethodName := ⟨RX6, "spread", "(I)I"⟩
abbrev cX6_measureCatches : ByteArray := prog_8_method_7_code
def yX6_measureCatches : MethodName := ⟨RX6, "measureCatches", "()V"⟩
abbrev cX6_findCatches : ByteArray := prog_8_method_8_code
def yX6_findCatches : MethodName := ⟨RX6, "findCatches", "(I)Z"⟩
abbrev cX6_isCaught : ByteArray := prog_8_method_9_code
def yX6_isCaught : MethodName := ⟨RX6, "isCaught", "(III)Z"⟩
abbrev cX6_canAnswer : ByteArray := prog_8_method_10_code
def yX6_canAnswer : MethodName := ⟨RX6, "canAnswer", "(III)Z"⟩
def RX7 : String := "ChimeVan"
def TX7 : u_T := fun k => match k with
  | 0 => ("ChimeVan", "page", "LChimeVan$Page;", true)
  | 1 => ("ChimeVan", "town", "LChimeVan$Town;", true)
  | 2 => ("ChimeVan", "folk", "LChimeVan$Folk;", true)
  | 3 => ("ChimeVan", "keptFolk", "LChimeVan$Folk;", true)
  | 4 => ("ChimeVan", "evening", "LChimeVan$Evening;", true)
  | 5 => ("ChimeVan", "keptEvening", "LChimeVan$Evening;", true)
  | 6 => ("ChimeVan", "trial", "LChimeVan$Evening;", true)
  | 7 => ("ChimeVan", "seen", "LChimeVan$Hearsay;", true)
  | 8 => ("ChimeVan", "keptSeen", "LChimeVan$Hearsay;", true)
  | 9 => ("ChimeVan", "search", "LChimeVan$RoundSearch;", true)
  | 10 => ("ChimeVan", "stray", "LChimeVan$Stray;", true)
  | 11 => ("ChimeVan", "isKept", "Z", false)
  | 12 => ("ChimeVan", "suburbsRead", "I", false)
  | _ => ("ChimeVan", "roundsDone", "I", false)
def tyX7 : Nat → FieldType := fun k => match k with
  | 0 => .object "ChimeVan$Page"
  | 1 => .object "ChimeVan$Town"
  | 2 => .object "ChimeVan$Folk"
  | 3 => .object "ChimeVan$Folk"
  | 4 => .object "ChimeVan$Evening"
  | 5 => .object "ChimeVan$Evening"
  | 6 => .object "ChimeVan$Evening"
  | 7 => .object "ChimeVan$Hearsay"
  | 8 => .object "ChimeVan$Hearsay"
  | 9 => .object "ChimeVan$RoundSearch"
  | 10 => .object "ChimeVan$Stray"
  | 11 => .boolean
  | 12 => .int
  | _ => .int
abbrev wsX70 : List Cond := u_ws RX7 TX7 14
theorem nmX7 : ∀ a, a < 14 → ∀ b, b < 14 → a ≠ b → (TX7 a).2.1 ≠ (TX7 b).2.1 := by decide +kernel
theorem tyX7_ok : ∀ k, k < 14 → parseFieldDescriptor (TX7 k).2.2.1 = some (tyX7 k) := by decide +kernel
abbrev cX7_init : ByteArray := prog_1_method_1_code
def yX7_init : MethodName := ⟨RX7, "<init>", "()V"⟩
abbrev cX7_letter : ByteArray := prog_1_method_2_code
def yX7_letter : MethodName := ⟨RX7, "letter", "(I)I"⟩
abbrev cX7_blank : ByteArray := prog_1_method_3_code
def yX7_blank : MethodName := ⟨RX7, "blank", "()I"⟩
abbrev cX7_fault : ByteArray := prog_1_method_4_code
def yX7_fault : MethodName := ⟨RX7, "fault", "()I"⟩
abbrev cX7_suburb : ByteArray := prog_1_method_5_code
def yX7_suburb : MethodName := ⟨RX7, "suburb", "()I"⟩
abbrev cX7_person : ByteArray := prog_1_method_6_code
def yX7_person : MethodName := ⟨RX7, "person", "(II)I"⟩
abbrev cX7_as : ByteArray := prog_1_method_7_code
def yX7_as : MethodName := ⟨RX7, "as", "(II)I"⟩
abbrev cX7_road : ByteArray := prog_1_method_8_code
def yX7_road : MethodName := ⟨RX7, "road", "(II)I"⟩
abbrev cX7_corner : ByteArray := prog_1_method_9_code
def yX7_corner : MethodName := ⟨RX7, "corner", "(II)I"⟩
abbrev cX7_far : ByteArray := prog_1_method_10_code
def yX7_far : MethodName := ⟨RX7, "far", "(II)I"⟩
abbrev cX7_go : ByteArray := prog_1_method_11_code
def yX7_go : MethodName := ⟨RX7, "go", "(I)I"⟩
abbrev cX7_stand : ByteArray := prog_1_method_12_code
def yX7_stand : MethodName := ⟨RX7, "stand", "(I)I"⟩
abbrev cX7_call : ByteArray := prog_1_method_13_code
def yX7_call : MethodName := ⟨RX7, "call", "(IIII)I"⟩
abbrev cX7_round : ByteArray := prog_1_method_14_code
def yX7_round : MethodName := ⟨RX7, "round", "(II)I"⟩
abbrev cX7_odds : ByteArray := prog_1_method_15_code
def yX7_odds : MethodName := ⟨RX7, "odds", "(III)I"⟩
abbrev cX7_see : ByteArray := prog_1_method_16_code
def yX7_see : MethodName := ⟨RX7, "see", "(IZ)I"⟩
abbrev cX7_forget : ByteArray := prog_1_method_17_code
def yX7_forget : MethodName := ⟨RX7, "forget", "()I"⟩
abbrev cX7_places : ByteArray := prog_1_method_18_code
def yX7_places : MethodName := ⟨RX7, "places", "()I"⟩
abbrev cX7_ask : ByteArray := prog_1_method_19_code
def yX7_ask : MethodName := ⟨RX7, "ask", "()I"⟩
abbrev cX7_evenings : ByteArray := prog_1_method_20_code
def yX7_evenings : MethodName := ⟨RX7, "evenings", "(III)I"⟩
abbrev cX7_image : ByteArray := prog_1_method_21_code
def yX7_image : MethodName := ⟨RX7, "image", "()I"⟩
abbrev cX7_restore : ByteArray := prog_1_method_22_code
def yX7_restore : MethodName := ⟨RX7, "restore", "()I"⟩
abbrev cX7_count : ByteArray := prog_1_method_23_code
def yX7_count : MethodName := ⟨RX7, "count", "(I)I"⟩
abbrev cX7_digest : ByteArray := prog_1_method_24_code
def yX7_digest : MethodName := ⟨RX7, "digest", "()J"⟩
abbrev cX7_digestOfPeople : ByteArray := prog_1_method_25_code
def yX7_digestOfPeople : MethodName := ⟨RX7, "digestOfPeople", "(J)J"⟩
abbrev cX7_digestOfStreets : ByteArray := prog_1_method_26_code
def yX7_digestOfStreets : MethodName := ⟨RX7, "digestOfStreets", "(J)J"⟩
abbrev cX7_hasSuburb : ByteArray := prog_1_method_27_code
def yX7_hasSuburb : MethodName := ⟨RX7, "hasSuburb", "()Z"⟩
abbrev cX7_isPerson : ByteArray := prog_1_method_28_code
def yX7_isPerson : MethodName := ⟨RX7, "isPerson", "(I)Z"⟩
abbrev cX7_isCorner : ByteArray := prog_1_method_29_code
def yX7_isCorner : MethodName := ⟨RX7, "isCorner", "(I)Z"⟩
abbrev cX7_hearsVan : ByteArray := prog_1_method_30_code
def yX7_hearsVan : MethodName := ⟨RX7, "hearsVan", "(I)Z"⟩
abbrev cX7_earshot : ByteArray := prog_1_method_31_code
def yX7_earshot : MethodName := ⟨RX7, "earshot", "(I)I"⟩
abbrev cX7_hearersNumber : ByteArray := prog_1_method_32_code
def yX7_hearersNumber : MethodName := ⟨RX7, "hearersNumber", "()I"⟩
abbrev cX7_soonest : ByteArray := prog_1_method_33_code
def yX7_soonest : MethodName := ⟨RX7, "soonest", "(I)I"⟩
abbrev cX7_possibleCorners : ByteArray := prog_1_method_34_code
def yX7_possibleCorners : MethodName := ⟨RX7, "possibleCorners", "()I"⟩
abbrev cX7_bestWitness : ByteArray := prog_1_method_35_code
def yX7_bestWitness : MethodName := ⟨RX7, "bestWitness", "(I)I"⟩
abbrev cX7_drift : ByteArray := prog_1_method_36_code
def yX7_drift : MethodName := ⟨RX7, "drift", "(II)I"⟩
abbrev cX7_isWithin : ByteArray := prog_1_method_37_code
def yX7_isWithin : MethodName := ⟨RX7, "isWithin", "(III)Z"⟩
abbrev cX7_hasBit : ByteArray := prog_1_method_38_code
def yX7_hasBit : MethodName := ⟨RX7, "hasBit", "(II)Z"⟩
abbrev cX7_mix : ByteArray := prog_1_method_39_code
def yX7_mix : MethodName := ⟨RX7, "mix", "(JJ)J"⟩
def RX8 : String := "ChimeVanModel"
def TX8 : u_T := fun k => match k with
  | 0 => ("ChimeVanModel", "page", "[I", true)
  | 1 => ("ChimeVanModel", "pageMany", "I", false)
  | 2 => ("ChimeVanModel", "end", "I", false)
  | 3 => ("ChimeVanModel", "corners", "I", false)
  | 4 => ("ChimeVanModel", "roads", "I", false)
  | 5 => ("ChimeVanModel", "people", "I", false)
  | 6 => ("ChimeVanModel", "van", "I", false)
  | 7 => ("ChimeVanModel", "hour", "I", false)
  | 8 => ("ChimeVanModel", "suburbsRead", "I", false)
  | 9 => ("ChimeVanModel", "one", "[I", true)
  | 10 => ("ChimeVanModel", "other", "[I", true)
  | 11 => ("ChimeVanModel", "kinds", "[I", true)
  | 12 => ("ChimeVanModel", "where", "[I", true)
  | 13 => ("ChimeVanModel", "times", "[I", true)
  | 14 => ("ChimeVanModel", "ears", "[I", true)
  | 15 => ("ChimeVanModel", "counts", "[I", true)
  | 16 => ("ChimeVanModel", "served", "[I", true)
  | 17 => ("ChimeVanModel", "fars", "[I", true)
  | 18 => ("ChimeVanModel", "countsThen", "[I", true)
  | 19 => ("ChimeVanModel", "servedThen", "[I", true)
  | 20 => ("ChimeVanModel", "canBe", "[I", true)
  | 21 => ("ChimeVanModel", "canThen", "[I", true)
  | 22 => ("ChimeVanModel", "caught", "[I", true)
  | 23 => ("ChimeVanModel", "caughtThen", "[I", true)
  | 24 => ("ChimeVanModel", "roundsDone", "I", false)
  | 25 => ("ChimeVanModel", "ways", "[J", true)
  | 26 => ("ChimeVanModel", "waysThen", "[J", true)
  | 27 => ("ChimeVanModel", "seenMany", "I", false)
  | 28 => ("ChimeVanModel", "sights", "[I", true)
  | 29 => ("ChimeVanModel", "seedNow", "I", false)
  | 30 => ("ChimeVanModel", "keptSuburb", "I", false)
  | 31 => ("ChimeVanModel", "keptVan", "I", false)
  | 32 => ("ChimeVanModel", "keptHour", "I", false)
  | 33 => ("ChimeVanModel", "keptSeen", "I", false)
  | 34 => ("ChimeVanModel", "keptKinds", "[I", true)
  | 35 => ("ChimeVanModel", "keptTimes", "[I", true)
  | 36 => ("ChimeVanModel", "keptEars", "[I", true)
  | 37 => ("ChimeVanModel", "keptCounts", "[I", true)
  | 38 => ("ChimeVanModel", "keptServed", "[I", true)
  | 39 => ("ChimeVanModel", "keptSights", "[I", true)
  | _ => ("ChimeVanModel", "hash", "J", false)
def tyX8 : Nat → FieldType := fun k => match k with
  | 0 => .array .int
  | 1 => .int
  | 2 => .int
  | 3 => .int
  | 4 => .int
  | 5 => .int
  | 6 => .int
  | 7 => .int
  | 8 => .int
  | 9 => .array .int
  | 10 => .array .int
  | 11 => .array .int
  | 12 => .array .int
  | 13 => .array .int
  | 14 => .array .int
  | 15 => .array .int
  | 16 => .array .int
  | 17 => .array .int
  | 18 => .array .int
  | 19 => .array .int
  | 20 => .array .int
  | 21 => .array .int
  | 22 => .array .int
  | 23 => .array .int
  | 24 => .int
  | 25 => .array .long
  | 26 => .array .long
  | 27 => .int
  | 28 => .array .int
  | 29 => .int
  | 30 => .int
  | 31 => .int
  | 32 => .int
  | 33 => .int
  | 34 => .array .int
  | 35 => .array .int
  | 36 => .array .int
  | 37 => .array .int
  | 38 => .array .int
  | 39 => .array .int
  | _ => .long
abbrev wsX80 : List Cond := u_ws RX8 TX8 41
theorem nmX8 : ∀ a, a < 41 → ∀ b, b < 41 → a ≠ b → (TX8 a).2.1 ≠ (TX8 b).2.1 := by decide +kernel
theorem tyX8_ok : ∀ k, k < 41 → parseFieldDescriptor (TX8 k).2.2.1 = some (tyX8 k) := by decide +kernel
abbrev cX8_init : ByteArray := prog_10_method_1_code
def yX8_init : MethodName := ⟨RX8, "<init>", "()V"⟩
abbrev cX8_in : ByteArray := prog_10_method_2_code
def yX8_in : MethodName := ⟨RX8, "in", "(JJJ)Z"⟩
abbrev cX8_copy : ByteArray := prog_10_method_3_code
def yX8_copy : MethodName := ⟨RX8, "copy", "([I[I)V"⟩
abbrev cX8_letter : ByteArray := prog_10_method_4_code
def yX8_letter : MethodName := ⟨RX8, "letter", "(I)I"⟩
abbrev cX8_blank : ByteArray := prog_10_method_5_code
def yX8_blank : MethodName := ⟨RX8, "blank", "()I"⟩
abbrev cX8_kindBy : ByteArray := prog_10_method_6_code
def yX8_kindBy : MethodName := ⟨RX8, "kindBy", "(I)I"⟩
abbrev cX8_isCornerLetter : ByteArray := prog_10_method_7_code
def yX8_isCornerLetter : MethodName := ⟨RX8, "isCornerLetter", "(I)Z"⟩
abbrev cX8_isRoadLetter : ByteArray := prog_10_method_8_code
def yX8_isRoadLetter : MethodName := ⟨RX8, "isRoadLetter", "(I)Z"⟩
abbrev cX8_isPersonLetter : ByteArray := prog_10_method_9_code
def yX8_isPersonLetter : MethodName := ⟨RX8, "isPersonLetter", "(I)Z"⟩
abbrev cX8_isGood : ByteArray := prog_10_method_10_code
def yX8_isGood : MethodName := ⟨RX8, "isGood", "(I)Z"⟩
abbrev cX8_faultOf : ByteArray := prog_10_method_11_code
def yX8_faultOf : MethodName := ⟨RX8, "faultOf", "()I"⟩
abbrev cX8_fault : ByteArray := prog_10_method_12_code
def yX8_fault : MethodName := ⟨RX8, "fault", "()I"⟩
abbrev cX8_layFars : ByteArray := prog_10_method_13_code
def yX8_layFars : MethodName := ⟨RX8, "layFars", "()V"⟩
abbrev cX8_suburb : ByteArray := prog_10_method_14_code
def yX8_suburb : MethodName := ⟨RX8, "suburb", "()I"⟩
abbrev cX8_lacks : ByteArray := prog_10_method_15_code
def yX8_lacks : MethodName := ⟨RX8, "lacks", "()Z"⟩
abbrev cX8_isPerson : ByteArray := prog_10_method_16_code
def yX8_isPerson : MethodName := ⟨RX8, "isPerson", "(I)Z"⟩
abbrev cX8_isCorner : ByteArray := prog_10_method_17_code
def yX8_isCorner : MethodName := ⟨RX8, "isCorner", "(I)Z"⟩
abbrev cX8_isNext : ByteArray := prog_10_method_18_code
def yX8_isNext : MethodName := ⟨RX8, "isNext", "(II)Z"⟩
abbrev cX8_needs : ByteArray := prog_10_method_19_code
def yX8_needs : MethodName := ⟨RX8, "needs", "(I)I"⟩
abbrev cX8_begin : ByteArray := prog_10_method_20_code
def yX8_begin : MethodName := ⟨RX8, "begin", "()V"⟩
abbrev cX8_isTime : ByteArray := prog_10_method_21_code
def yX8_isTime : MethodName := ⟨RX8, "isTime", "(II)Z"⟩
abbrev cX8_goThen : ByteArray := prog_10_method_22_code
def yX8_goThen : MethodName := ⟨RX8, "goThen", "(II)I"⟩
abbrev cX8_hears : ByteArray := prog_10_method_23_code
def yX8_hears : MethodName := ⟨RX8, "hears", "(I)I"⟩
abbrev cX8_soonOf : ByteArray := prog_10_method_24_code
def yX8_soonOf : MethodName := ⟨RX8, "soonOf", "(I)I"⟩
abbrev cX8_tellPerson : ByteArray := prog_10_method_25_code
def yX8_tellPerson : MethodName := ⟨RX8, "tellPerson", "(II)I"⟩
abbrev cX8_person : ByteArray := prog_10_method_26_code
def yX8_person : MethodName := ⟨RX8, "person", "(II)I"⟩
abbrev cX8_as : ByteArray := prog_10_method_27_code
def yX8_as : MethodName := ⟨RX8, "as", "(II)I"⟩
abbrev cX8_road : ByteArray := prog_10_method_28_code
def yX8_road : MethodName := ⟨RX8, "road", "(II)I"⟩
abbrev cX8_nextTo : ByteArray := prog_10_method_29_code
def yX8_nextTo : MethodName := ⟨RX8, "nextTo", "(I)I"⟩
abbrev cX8_whoAt : ByteArray := prog_10_method_30_code
def yX8_whoAt : MethodName := ⟨RX8, "whoAt", "(I)I"⟩
abbrev cX8_farOf : ByteArray := prog_10_method_31_code
def yX8_farOf : MethodName := ⟨RX8, "farOf", "(II)I"⟩
abbrev cX8_canCatch : ByteArray := prog_10_method_32_code
def yX8_canCatch : MethodName := ⟨RX8, "canCatch", "(II)Z"⟩
abbrev cX8_isSure : ByteArray := prog_10_method_33_code
def yX8_isSure : MethodName := ⟨RX8, "isSure", "(II)Z"⟩
abbrev cX8_catchOf : ByteArray := prog_10_method_34_code
def yX8_catchOf : MethodName := ⟨RX8, "catchOf", "(I)I"⟩
abbrev cX8_tellCorner : ByteArray := prog_10_method_35_code
def yX8_tellCorner : MethodName := ⟨RX8, "tellCorner", "(II)I"⟩
abbrev cX8_corner : ByteArray := prog_10_method_36_code
def yX8_corner : MethodName := ⟨RX8, "corner", "(II)I"⟩
abbrev cX8_far : ByteArray := prog_10_method_37_code
def yX8_far : MethodName := ⟨RX8, "far", "(II)I"⟩
abbrev cX8_go : ByteArray := prog_10_method_38_code
def yX8_go : MethodName := ⟨RX8, "go", "(I)I"⟩
abbrev cX8_stand : ByteArray := prog_10_method_39_code
def yX8_stand : MethodName := ⟨RX8, "stand", "(I)I"⟩
abbrev cX8_call : ByteArray := prog_10_method_40_code
def yX8_call : MethodName := ⟨RX8, "call", "(IIII)I"⟩
abbrev cX8_figure : ByteArray := prog_10_method_41_code
def yX8_figure : MethodName := ⟨RX8, "figure", "(III)I"⟩
abbrev cX8_worthOf : ByteArray := prog_10_method_42_code
def yX8_worthOf : MethodName := ⟨RX8, "worthOf", "(II)I"⟩
abbrev cX8_roundOf : ByteArray := prog_10_method_43_code
def yX8_roundOf : MethodName := ⟨RX8, "roundOf", "(II)I"⟩
abbrev cX8_round : ByteArray := prog_10_method_44_code
def yX8_round : MethodName := ⟨RX8, "round", "(II)I"⟩
abbrev cX8_roadsAt : ByteArray := prog_10_method_45_code
def yX8_roadsAt : MethodName := ⟨RX8, "roadsAt", "(I)I"⟩
abbrev cX8_stray : ByteArray := prog_10_method_46_code
def yX8_stray : MethodName := ⟨RX8, "stray", "()V"⟩
abbrev cX8_oddsOf : ByteArray := prog_10_method_47_code
def yX8_oddsOf : MethodName := ⟨RX8, "oddsOf", "(III)I"⟩
abbrev cX8_odds : ByteArray := prog_10_method_48_code
def yX8_odds : MethodName := ⟨RX8, "odds", "(III)I"⟩
abbrev cX8_see : ByteArray := prog_10_method_49_code
def yX8_see : MethodName := ⟨RX8, "see", "(IZ)I"⟩
abbrev cX8_forget : ByteArray := prog_10_method_50_code
def yX8_forget : MethodName := ⟨RX8, "forget", "()I"⟩
abbrev cX8_hearsAt : ByteArray := prog_10_method_51_code
def yX8_hearsAt : MethodName := ⟨RX8, "hearsAt", "(II)I"⟩
abbrev cX8_placesOf : ByteArray := prog_10_method_52_code
def yX8_placesOf : MethodName := ⟨RX8, "placesOf", "()I"⟩
abbrev cX8_places : ByteArray := prog_10_method_53_code
def yX8_places : MethodName := ⟨RX8, "places", "()I"⟩
abbrev cX8_askOf : ByteArray := prog_10_method_54_code
def yX8_askOf : MethodName := ⟨RX8, "askOf", "()I"⟩
abbrev cX8_ask : ByteArray := prog_10_method_55_code
def yX8_ask : MethodName := ⟨RX8, "ask", "()I"⟩
abbrev cX8_draw : ByteArray := prog_10_method_56_code
def yX8_draw : MethodName := ⟨RX8, "draw", "(I)I"⟩
abbrev cX8_evenings : ByteArray := prog_10_method_57_code
def yX8_evenings : MethodName := ⟨RX8, "evenings", "(III)I"⟩
abbrev cX8_image : ByteArray := prog_10_method_58_code
def yX8_image : MethodName := ⟨RX8, "image", "()I"⟩
abbrev cX8_restore : ByteArray := prog_10_method_59_code
def yX8_restore : MethodName := ⟨RX8, "restore", "()I"⟩
abbrev cX8_sumOf : ByteArray := prog_10_method_60_code
def yX8_sumOf : MethodName := ⟨RX8, "sumOf", "([I)I"⟩
abbrev cX8_hearing : ByteArray := prog_10_method_61_code
def yX8_hearing : MethodName := ⟨RX8, "hearing", "()I"⟩
abbrev cX8_countOf : ByteArray := prog_10_method_62_code
def yX8_countOf : MethodName := ⟨RX8, "countOf", "(I)I"⟩
abbrev cX8_count : ByteArray := prog_10_method_63_code
def yX8_count : MethodName := ⟨RX8, "count", "(I)I"⟩
abbrev cX8_say : ByteArray := prog_10_method_64_code
def yX8_say : MethodName := ⟨RX8, "say", "(J)V"⟩
abbrev cX8_sayThings : ByteArray := prog_10_method_65_code
def yX8_sayThings : MethodName := ⟨RX8, "sayThings", "()V"⟩
abbrev cX8_digest : ByteArray := prog_10_method_66_code
def yX8_digest : MethodName := ⟨RX8, "digest", "()J"⟩
def RJx145de : String := "java/io/Serializable"
def TJx145de : u_T := fun k => match k with
  | _ => ("", "", "", false)
def tyJx145de : Nat → FieldType := fun k => match k with
  | _ => .int
abbrev wsJx145de0 : List Cond := u_ws RJx145de TJx145de 0
theorem nmJx145de : ∀ a, a < 0 → ∀ b, b < 0 → a ≠ b → (TJx145de a).2.1 ≠ (TJx145de b).2.1 := by decide +kernel
theorem tyJx145de_ok : ∀ k, k < 0 → parseFieldDescriptor (TJx145de k).2.2.1 = some (tyJx145de k) := by decide +kernel
def RJx9f9b0 : String := "java/lang/CharSequence"
def TJx9f9b0 : u_T := fun k => match k with
  | _ => ("", "", "", false)
def tyJx9f9b0 : Nat → FieldType := fun k => match k with
  | _ => .int
abbrev wsJx9f9b00 : List Cond := u_ws RJx9f9b0 TJx9f9b0 0
theorem nmJx9f9b0 : ∀ a, a < 0 → ∀ b, b < 0 → a ≠ b → (TJx9f9b0 a).2.1 ≠ (TJx9f9b0 b).2.1 := by decide +kernel
theorem tyJx9f9b0_ok : ∀ k, k < 0 → parseFieldDescriptor (TJx9f9b0 k).2.2.1 = some (tyJx9f9b0 k) := by decide +kernel
def RJ11 : String := "java/lang/Character"
def TJ11 : u_T := fun k => match k with
  | _ => ("", "", "", false)
def tyJ11 : Nat → FieldType := fun k => match k with
  | _ => .int
abbrev wsJ110 : List Cond := u_ws RJ11 TJ11 0
theorem nmJ11 : ∀ a, a < 0 → ∀ b, b < 0 → a ≠ b → (TJ11 a).2.1 ≠ (TJ11 b).2.1 := by decide +kernel
theorem tyJ11_ok : ∀ k, k < 0 → parseFieldDescriptor (TJ11 k).2.2.1 = some (tyJ11 k) := by decide +kernel
abbrev cJ11_isValidCodePoint_9a6ad : ByteArray := prog_11_method_11_code
def yJ11_isValidCodePoint_9a6ad : MethodName := ⟨RJ11, "isValidCodePoint", "(I)Z"⟩
abbrev cJ11_highSurrogate_5068e : ByteArray := prog_11_method_28_code
def yJ11_highSurrogate_5068e : MethodName := ⟨RJ11, "highSurrogate", "(I)C"⟩
abbrev cJ11_lowSurrogate_5068e : ByteArray := prog_11_method_29_code
def yJ11_lowSurrogate_5068e : MethodName := ⟨RJ11, "lowSurrogate", "(I)C"⟩
def RJxb160c : String := "java/lang/Comparable"
def TJxb160c : u_T := fun k => match k with
  | _ => ("", "", "", false)
def tyJxb160c : Nat → FieldType := fun k => match k with
  | _ => .int
abbrev wsJxb160c0 : List Cond := u_ws RJxb160c TJxb160c 0
theorem nmJxb160c : ∀ a, a < 0 → ∀ b, b < 0 → a ≠ b → (TJxb160c a).2.1 ≠ (TJxb160c b).2.1 := by decide +kernel
theorem tyJxb160c_ok : ∀ k, k < 0 → parseFieldDescriptor (TJxb160c k).2.2.1 = some (tyJxb160c k) := by decide +kernel
def RJ6 : String := "java/lang/Integer"
def TJ6 : u_T := fun k => match k with
  | _ => ("", "", "", false)
def tyJ6 : Nat → FieldType := fun k => match k with
  | _ => .int
abbrev wsJ60 : List Cond := u_ws RJ6 TJ6 0
theorem nmJ6 : ∀ a, a < 0 → ∀ b, b < 0 → a ≠ b → (TJ6 a).2.1 ≠ (TJ6 b).2.1 := by decide +kernel
theorem tyJ6_ok : ∀ k, k < 0 → parseFieldDescriptor (TJ6 k).2.2.1 = some (tyJ6 k) := by decide +kernel
abbrev cJ6_bitCount_0f7a4 : ByteArray := prog_12_method_49_code
def yJ6_bitCount_0f7a4 : MethodName := ⟨RJ6, "bitCount", "(I)I"⟩
def RJ9 : String := "java/lang/Math"
def TJ9 : u_T := fun k => match k with
  | _ => ("", "", "", false)
def tyJ9 : Nat → FieldType := fun k => match k with
  | _ => .int
abbrev wsJ90 : List Cond := u_ws RJ9 TJ9 0
theorem nmJ9 : ∀ a, a < 0 → ∀ b, b < 0 → a ≠ b → (TJ9 a).2.1 ≠ (TJ9 b).2.1 := by decide +kernel
theorem tyJ9_ok : ∀ k, k < 0 → parseFieldDescriptor (TJ9 k).2.2.1 = some (tyJ9 k) := by decide +kernel
abbrev cJ9_max_7cf53 : ByteArray := prog_13_method_65_code
def yJ9_max_7cf53 : MethodName := ⟨RJ9, "max", "(II)I"⟩
abbrev cJ9_max_f86c9 : ByteArray := prog_13_method_66_code
def yJ9_max_f86c9 : MethodName := ⟨RJ9, "max", "(JJ)J"⟩
abbrev cJ9_min_7cf53 : ByteArray := prog_13_method_69_code
def yJ9_min_7cf53 : MethodName := ⟨RJ9, "min", "(II)I"⟩
def RJ0 : String := "java/lang/String"
def TJ0 : u_T := fun k => match k with
  | _ => ("", "", "", false)
def tyJ0 : Nat → FieldType := fun k => match k with
  | _ => .int
abbrev wsJ00 : List Cond := u_ws RJ0 TJ0 0
theorem nmJ0 : ∀ a, a < 0 → ∀ b, b < 0 → a ≠ b → (TJ0 a).2.1 ≠ (TJ0 b).2.1 := by decide +kernel
theorem tyJ0_ok : ∀ k, k < 0 → parseFieldDescriptor (TJ0 k).2.2.1 = some (tyJ0 k) := by decide +kernel
abbrev cJ0_length_8abf5 : ByteArray := prog_14_method_54_code
def yJ0_length_8abf5 : MethodName := ⟨RJ0, "length", "()I"⟩
abbrev cJ0_indexOf_0f7a4 : ByteArray := prog_14_method_79_code
def yJ0_indexOf_0f7a4 : MethodName := ⟨RJ0, "indexOf", "(I)I"⟩
abbrev cJ0_indexOf_7cf53 : ByteArray := prog_14_method_80_code
def yJ0_indexOf_7cf53 : MethodName := ⟨RJ0, "indexOf", "(II)I"⟩
abbrev cJ0_coder_7d493 : ByteArray := prog_14_method_152_code
def yJ0_coder_7d493 : MethodName := ⟨RJ0, "coder", "()B"⟩
abbrev cJ0_isLatin1_aae02 : ByteArray := prog_14_method_154_code
def yJ0_isLatin1_aae02 : MethodName := ⟨RJ0, "isLatin1", "()Z"⟩
abbrev cJ0_checkBoundsBeginEnd_23922 : ByteArray := prog_14_method_158_code
def yJ0_checkBoundsBeginEnd_23922 : MethodName := ⟨RJ0, "checkBoundsBeginEnd", "(III)V"⟩
def RJ1 : String := "java/lang/StringLatin1"
def TJ1 : u_T := fun k => match k with
  | _ => ("", "", "", false)
def tyJ1 : Nat → FieldType := fun k => match k with
  | _ => .int
abbrev wsJ10 : List Cond := u_ws RJ1 TJ1 0
theorem nmJ1 : ∀ a, a < 0 → ∀ b, b < 0 → a ≠ b → (TJ1 a).2.1 ≠ (TJ1 b).2.1 := by decide +kernel
theorem tyJ1_ok : ∀ k, k < 0 → parseFieldDescriptor (TJ1 k).2.2.1 = some (tyJ1 k) := by decide +kernel
abbrev cJ1_canEncode_9a6ad : ByteArray := prog_15_method_4_code
def yJ1_canEncode_9a6ad : MethodName := ⟨RJ1, "canEncode", "(I)Z"⟩
abbrev cJ1_indexOf_4cfef : ByteArray := prog_15_method_22_code
def yJ1_indexOf_4cfef : MethodName := ⟨RJ1, "indexOf", "([BIII)I"⟩
abbrev cJ1_indexOfChar_4cfef : ByteArray := prog_15_method_23_code
def yJ1_indexOfChar_4cfef : MethodName := ⟨RJ1, "indexOfChar", "([BIII)I"⟩
def RJ2 : String := "java/lang/StringUTF16"
def TJ2 : u_T := fun k => match k with
  | _ => ("", "", "", false)
def tyJ2 : Nat → FieldType := fun k => match k with
  | _ => .int
abbrev wsJ20 : List Cond := u_ws RJ2 TJ2 0
theorem nmJ2 : ∀ a, a < 0 → ∀ b, b < 0 → a ≠ b → (TJ2 a).2.1 ≠ (TJ2 b).2.1 := by decide +kernel
theorem tyJ2_ok : ∀ k, k < 0 → parseFieldDescriptor (TJ2 k).2.2.1 = some (tyJ2 k) := by decide +kernel
abbrev cJ2_getChar_3b067 : ByteArray := prog_16_method_5_code
def yJ2_getChar_3b067 : MethodName := ⟨RJ2, "getChar", "([BI)C"⟩
abbrev cJ2_length_9d52b : ByteArray := prog_16_method_6_code
def yJ2_length_9d52b : MethodName := ⟨RJ2, "length", "([B)I"⟩
abbrev cJ2_indexOf_4cfef : ByteArray := prog_16_method_40_code
def yJ2_indexOf_4cfef : MethodName := ⟨RJ2, "indexOf", "([BIII)I"⟩
abbrev cJ2_indexOfChar_4cfef : ByteArray := prog_16_method_47_code
def yJ2_indexOfChar_4cfef : MethodName := ⟨RJ2, "indexOfChar", "([BIII)I"⟩
abbrev cJ2_indexOfCharUnsafe_4cfef : ByteArray := prog_16_method_48_code
def yJ2_indexOfCharUnsafe_4cfef : MethodName := ⟨RJ2, "indexOfCharUnsafe", "([BIII)I"⟩
abbrev cJ2_indexOfSupplementary_4cfef : ByteArray := prog_16_method_49_code
def yJ2_indexOfSupplementary_4cfef : MethodName := ⟨RJ2, "indexOfSupplementary", "([BIII)I"⟩
abbrev cJ2_checkBoundsBeginEnd_d044e : ByteArray := prog_16_method_93_code
def yJ2_checkBoundsBeginEnd_d044e : MethodName := ⟨RJ2, "checkBoundsBeginEnd", "(II[B)V"⟩
def RJ10 : String := "java/lang/System"
def TJ10 : u_T := fun k => match k with
  | _ => ("", "", "", false)
def tyJ10 : Nat → FieldType := fun k => match k with
  | _ => .int
abbrev wsJ100 : List Cond := u_ws RJ10 TJ10 0
theorem nmJ10 : ∀ a, a < 0 → ∀ b, b < 0 → a ≠ b → (TJ10 a).2.1 ≠ (TJ10 b).2.1 := by decide +kernel
theorem tyJ10_ok : ∀ k, k < 0 → parseFieldDescriptor (TJ10 k).2.2.1 = some (tyJ10 k) := by decide +kernel
def RJxfd54e : String := "java/lang/constant/Constable"
def TJxfd54e : u_T := fun k => match k with
  | _ => ("", "", "", false)
def tyJxfd54e : Nat → FieldType := fun k => match k with
  | _ => .int
abbrev wsJxfd54e0 : List Cond := u_ws RJxfd54e TJxfd54e 0
theorem nmJxfd54e : ∀ a, a < 0 → ∀ b, b < 0 → a ≠ b → (TJxfd54e a).2.1 ≠ (TJxfd54e b).2.1 := by decide +kernel
theorem tyJxfd54e_ok : ∀ k, k < 0 → parseFieldDescriptor (TJxfd54e k).2.2.1 = some (tyJxfd54e k) := by decide +kernel
def RJx3cf43 : String := "java/lang/constant/ConstantDesc"
def TJx3cf43 : u_T := fun k => match k with
  | _ => ("", "", "", false)
def tyJx3cf43 : Nat → FieldType := fun k => match k with
  | _ => .int
abbrev wsJx3cf430 : List Cond := u_ws RJx3cf43 TJx3cf43 0
theorem nmJx3cf43 : ∀ a, a < 0 → ∀ b, b < 0 → a ≠ b → (TJx3cf43 a).2.1 ≠ (TJx3cf43 b).2.1 := by decide +kernel
theorem tyJx3cf43_ok : ∀ k, k < 0 → parseFieldDescriptor (TJx3cf43 k).2.2.1 = some (tyJx3cf43 k) := by decide +kernel
def RJ7 : String := "java/util/Arrays"
def TJ7 : u_T := fun k => match k with
  | _ => ("", "", "", false)
def tyJ7 : Nat → FieldType := fun k => match k with
  | _ => .int
abbrev wsJ70 : List Cond := u_ws RJ7 TJ7 0
theorem nmJ7 : ∀ a, a < 0 → ∀ b, b < 0 → a ≠ b → (TJ7 a).2.1 ≠ (TJ7 b).2.1 := by decide +kernel
theorem tyJ7_ok : ∀ k, k < 0 → parseFieldDescriptor (TJ7 k).2.2.1 = some (tyJ7 k) := by decide +kernel
abbrev cJ7_fill_d0a16 : ByteArray := prog_18_method_101_code
def yJ7_fill_d0a16 : MethodName := ⟨RJ7, "fill", "([JJ)V"⟩
abbrev cJ7_fill_53178 : ByteArray := prog_18_method_103_code
def yJ7_fill_53178 : MethodName := ⟨RJ7, "fill", "([II)V"⟩
def RJ3 : String := "jdk/internal/util/Preconditions"
def TJ3 : u_T := fun k => match k with
  | _ => ("", "", "", false)
def tyJ3 : Nat → FieldType := fun k => match k with
  | _ => .int
abbrev wsJ30 : List Cond := u_ws RJ3 TJ3 0
theorem nmJ3 : ∀ a, a < 0 → ∀ b, b < 0 → a ≠ b → (TJ3 a).2.1 ≠ (TJ3 b).2.1 := by decide +kernel
theorem tyJ3_ok : ∀ k, k < 0 → parseFieldDescriptor (TJ3 k).2.2.1 = some (tyJ3 k) := by decide +kernel
abbrev cJ3_checkFromToIndex_8c36e : ByteArray := prog_19_method_12_code
def yJ3_checkFromToIndex_8c36e : MethodName := ⟨RJ3, "checkFromToIndex", "(IIILjava/util/function/BiFunction;)I"⟩
def RL : String := "ChimeVanLaw"
abbrev cL_law : ByteArray := code
def yL_law : MethodName := ⟨RL, "law", "([I)Z"⟩
abbrev vwCl : List vw_C := [(RX0, TX0, 4), (RX1, TX1, 5), (RX2, TX2, 3), (RX3, TX3, 5), (RX4, TX4, 5), (RX5, TX5, 3), (RX6, TX6, 8), (RX7, TX7, 14), (RX8, TX8, 41)]
end
section
theorem dL_law_0 : decode cL_law 0 = .ok (.new 7, 3) := by decide +kernel
theorem dL_law_3 : decode cL_law 3 = .ok (.dup, 1) := by decide +kernel
theorem dL_law_4 : decode cL_law 4 = .ok (.invokespecial 9, 3) := by decide +kernel
theorem dL_law_7 : decode cL_law 7 = .ok (.astore_n 1, 1) := by decide +kernel
theorem dL_law_8 : decode cL_law 8 = .ok (.new 10, 3) := by decide +kernel
theorem dL_law_11 : decode cL_law 11 = .ok (.dup, 1) := by decide +kernel
theorem dL_law_12 : decode cL_law 12 = .ok (.invokespecial 12, 3) := by decide +kernel
theorem dL_law_15 : decode cL_law 15 = .ok (.astore_n 2, 1) := by decide +kernel
theorem dL_law_16 : decode cL_law 16 = .ok (.iconst 0, 1) := by decide +kernel
theorem dL_law_17 : decode cL_law 17 = .ok (.istore_n 3, 1) := by decide +kernel
theorem dL_law_18 : decode cL_law 18 = .ok (.iload_n 3, 1) := by decide +kernel
theorem dL_law_19 : decode cL_law 19 = .ok (.aload_n 0, 1) := by decide +kernel
theorem dL_law_20 : decode cL_law 20 = .ok (.arraylength, 1) := by decide +kernel
theorem dL_law_21 : decode cL_law 21 = .ok (.iconst 5, 1) := by decide +kernel
theorem dL_law_22 : decode cL_law 22 = .ok (.isub, 1) := by decide +kernel
theorem dL_law_23 : decode cL_law 23 = .ok (.if_icmp .gt 719, 3) := by decide +kernel
theorem dL_law_26 : decode cL_law 26 = .ok (.aload_n 0, 1) := by decide +kernel
theorem dL_law_27 : decode cL_law 27 = .ok (.iload_n 3, 1) := by decide +kernel
theorem dL_law_28 : decode cL_law 28 = .ok (.iaload, 1) := by decide +kernel
theorem dL_law_29 : decode cL_law 29 = .ok (.bipush 31, 2) := by decide +kernel
theorem dL_law_31 : decode cL_law 31 = .ok (.iand, 1) := by decide +kernel
theorem dL_law_32 : decode cL_law 32 = .ok (.tableswitch 704 0 22 #[108, 131, 144, 157, 170, 203, 236, 269, 302, 335, 358, 381, 434, 467, 510, 559, 572, 585, 598, 641, 654, 667, 690], 108) := by decide +kernel
theorem dL_law_140 : decode cL_law 140 = .ok (.aload_n 1, 1) := by decide +kernel
theorem dL_law_141 : decode cL_law 141 = .ok (.aload_n 0, 1) := by decide +kernel
theorem dL_law_142 : decode cL_law 142 = .ok (.iload_n 3, 1) := by decide +kernel
theorem dL_law_143 : decode cL_law 143 = .ok (.iconst 1, 1) := by decide +kernel
theorem dL_law_144 : decode cL_law 144 = .ok (.iadd, 1) := by decide +kernel
theorem dL_law_145 : decode cL_law 145 = .ok (.iaload, 1) := by decide +kernel
theorem dL_law_146 : decode cL_law 146 = .ok (.invokevirtual 13, 3) := by decide +kernel
theorem dL_law_149 : decode cL_law 149 = .ok (.aload_n 2, 1) := by decide +kernel
theorem dL_law_150 : decode cL_law 150 = .ok (.aload_n 0, 1) := by decide +kernel
theorem dL_law_151 : decode cL_law 151 = .ok (.iload_n 3, 1) := by decide +kernel
theorem dL_law_152 : decode cL_law 152 = .ok (.iconst 1, 1) := by decide +kernel
theorem dL_law_153 : decode cL_law 153 = .ok (.iadd, 1) := by decide +kernel
theorem dL_law_154 : decode cL_law 154 = .ok (.iaload, 1) := by decide +kernel
theorem dL_law_155 : decode cL_law 155 = .ok (.invokevirtual 17, 3) := by decide +kernel
theorem dL_law_158 : decode cL_law 158 = .ok (.if_icmp .eq 578, 3) := by decide +kernel
theorem dL_law_161 : decode cL_law 161 = .ok (.iconst 0, 1) := by decide +kernel
theorem dL_law_162 : decode cL_law 162 = .ok (.ireturn, 1) := by decide +kernel
theorem dL_law_163 : decode cL_law 163 = .ok (.aload_n 1, 1) := by decide +kernel
theorem dL_law_164 : decode cL_law 164 = .ok (.invokevirtual 18, 3) := by decide +kernel
theorem dL_law_167 : decode cL_law 167 = .ok (.aload_n 2, 1) := by decide +kernel
theorem dL_law_168 : decode cL_law 168 = .ok (.invokevirtual 22, 3) := by decide +kernel
theorem dL_law_171 : decode cL_law 171 = .ok (.if_icmp .eq 565, 3) := by decide +kernel
theorem dL_law_174 : decode cL_law 174 = .ok (.iconst 0, 1) := by decide +kernel
theorem dL_law_175 : decode cL_law 175 = .ok (.ireturn, 1) := by decide +kernel
theorem dL_law_176 : decode cL_law 176 = .ok (.aload_n 1, 1) := by decide +kernel
theorem dL_law_177 : decode cL_law 177 = .ok (.invokevirtual 23, 3) := by decide +kernel
theorem dL_law_180 : decode cL_law 180 = .ok (.aload_n 2, 1) := by decide +kernel
theorem dL_law_181 : decode cL_law 181 = .ok (.invokevirtual 26, 3) := by decide +kernel
theorem dL_law_184 : decode cL_law 184 = .ok (.if_icmp .eq 552, 3) := by decide +kernel
theorem dL_law_187 : decode cL_law 187 = .ok (.iconst 0, 1) := by decide +kernel
theorem dL_law_188 : decode cL_law 188 = .ok (.ireturn, 1) := by decide +kernel
theorem dL_law_189 : decode cL_law 189 = .ok (.aload_n 1, 1) := by decide +kernel
theorem dL_law_190 : decode cL_law 190 = .ok (.invokevirtual 27, 3) := by decide +kernel
theorem dL_law_193 : decode cL_law 193 = .ok (.aload_n 2, 1) := by decide +kernel
theorem dL_law_194 : decode cL_law 194 = .ok (.invokevirtual 30, 3) := by decide +kernel
theorem dL_law_197 : decode cL_law 197 = .ok (.if_icmp .eq 539, 3) := by decide +kernel
theorem dL_law_200 : decode cL_law 200 = .ok (.iconst 0, 1) := by decide +kernel
theorem dL_law_201 : decode cL_law 201 = .ok (.ireturn, 1) := by decide +kernel
theorem dL_law_202 : decode cL_law 202 = .ok (.aload_n 1, 1) := by decide +kernel
theorem dL_law_203 : decode cL_law 203 = .ok (.aload_n 0, 1) := by decide +kernel
theorem dL_law_204 : decode cL_law 204 = .ok (.iload_n 3, 1) := by decide +kernel
theorem dL_law_205 : decode cL_law 205 = .ok (.iconst 1, 1) := by decide +kernel
theorem dL_law_206 : decode cL_law 206 = .ok (.iadd, 1) := by decide +kernel
theorem dL_law_207 : decode cL_law 207 = .ok (.iaload, 1) := by decide +kernel
theorem dL_law_208 : decode cL_law 208 = .ok (.aload_n 0, 1) := by decide +kernel
theorem dL_law_209 : decode cL_law 209 = .ok (.iload_n 3, 1) := by decide +kernel
theorem dL_law_210 : decode cL_law 210 = .ok (.iconst 2, 1) := by decide +kernel
theorem dL_law_211 : decode cL_law 211 = .ok (.iadd, 1) := by decide +kernel
theorem dL_law_212 : decode cL_law 212 = .ok (.iaload, 1) := by decide +kernel
theorem dL_law_213 : decode cL_law 213 = .ok (.invokevirtual 31, 3) := by decide +kernel
theorem dL_law_216 : decode cL_law 216 = .ok (.aload_n 2, 1) := by decide +kernel
theorem dL_law_217 : decode cL_law 217 = .ok (.aload_n 0, 1) := by decide +kernel
theorem dL_law_218 : decode cL_law 218 = .ok (.iload_n 3, 1) := by decide +kernel
theorem dL_law_219 : decode cL_law 219 = .ok (.iconst 1, 1) := by decide +kernel
theorem dL_law_220 : decode cL_law 220 = .ok (.iadd, 1) := by decide +kernel
theorem dL_law_221 : decode cL_law 221 = .ok (.iaload, 1) := by decide +kernel
theorem dL_law_222 : decode cL_law 222 = .ok (.aload_n 0, 1) := by decide +kernel
theorem dL_law_223 : decode cL_law 223 = .ok (.iload_n 3, 1) := by decide +kernel
theorem dL_law_224 : decode cL_law 224 = .ok (.iconst 2, 1) := by decide +kernel
theorem dL_law_225 : decode cL_law 225 = .ok (.iadd, 1) := by decide +kernel
theorem dL_law_226 : decode cL_law 226 = .ok (.iaload, 1) := by decide +kernel
theorem dL_law_227 : decode cL_law 227 = .ok (.invokevirtual 35, 3) := by decide +kernel
theorem dL_law_230 : decode cL_law 230 = .ok (.if_icmp .eq 506, 3) := by decide +kernel
theorem dL_law_233 : decode cL_law 233 = .ok (.iconst 0, 1) := by decide +kernel
theorem dL_law_234 : decode cL_law 234 = .ok (.ireturn, 1) := by decide +kernel
theorem dL_law_235 : decode cL_law 235 = .ok (.aload_n 1, 1) := by decide +kernel
theorem dL_law_236 : decode cL_law 236 = .ok (.aload_n 0, 1) := by decide +kernel
theorem dL_law_237 : decode cL_law 237 = .ok (.iload_n 3, 1) := by decide +kernel
theorem dL_law_238 : decode cL_law 238 = .ok (.iconst 1, 1) := by decide +kernel
theorem dL_law_239 : decode cL_law 239 = .ok (.iadd, 1) := by decide +kernel
theorem dL_law_240 : decode cL_law 240 = .ok (.iaload, 1) := by decide +kernel
theorem dL_law_241 : decode cL_law 241 = .ok (.aload_n 0, 1) := by decide +kernel
theorem dL_law_242 : decode cL_law 242 = .ok (.iload_n 3, 1) := by decide +kernel
theorem dL_law_243 : decode cL_law 243 = .ok (.iconst 2, 1) := by decide +kernel
theorem dL_law_244 : decode cL_law 244 = .ok (.iadd, 1) := by decide +kernel
theorem dL_law_245 : decode cL_law 245 = .ok (.iaload, 1) := by decide +kernel
theorem dL_law_246 : decode cL_law 246 = .ok (.invokevirtual 36, 3) := by decide +kernel
theorem dL_law_249 : decode cL_law 249 = .ok (.aload_n 2, 1) := by decide +kernel
theorem dL_law_250 : decode cL_law 250 = .ok (.aload_n 0, 1) := by decide +kernel
theorem dL_law_251 : decode cL_law 251 = .ok (.iload_n 3, 1) := by decide +kernel
theorem dL_law_252 : decode cL_law 252 = .ok (.iconst 1, 1) := by decide +kernel
theorem dL_law_253 : decode cL_law 253 = .ok (.iadd, 1) := by decide +kernel
theorem dL_law_254 : decode cL_law 254 = .ok (.iaload, 1) := by decide +kernel
theorem dL_law_255 : decode cL_law 255 = .ok (.aload_n 0, 1) := by decide +kernel
theorem dL_law_256 : decode cL_law 256 = .ok (.iload_n 3, 1) := by decide +kernel
theorem dL_law_257 : decode cL_law 257 = .ok (.iconst 2, 1) := by decide +kernel
theorem dL_law_258 : decode cL_law 258 = .ok (.iadd, 1) := by decide +kernel
theorem dL_law_259 : decode cL_law 259 = .ok (.iaload, 1) := by decide +kernel
theorem dL_law_260 : decode cL_law 260 = .ok (.invokevirtual 39, 3) := by decide +kernel
theorem dL_law_263 : decode cL_law 263 = .ok (.if_icmp .eq 473, 3) := by decide +kernel
theorem dL_law_266 : decode cL_law 266 = .ok (.iconst 0, 1) := by decide +kernel
theorem dL_law_267 : decode cL_law 267 = .ok (.ireturn, 1) := by decide +kernel
theorem dL_law_268 : decode cL_law 268 = .ok (.aload_n 1, 1) := by decide +kernel
theorem dL_law_269 : decode cL_law 269 = .ok (.aload_n 0, 1) := by decide +kernel
theorem dL_law_270 : decode cL_law 270 = .ok (.iload_n 3, 1) := by decide +kernel
theorem dL_law_271 : decode cL_law 271 = .ok (.iconst 1, 1) := by decide +kernel
theorem dL_law_272 : decode cL_law 272 = .ok (.iadd, 1) := by decide +kernel
theorem dL_law_273 : decode cL_law 273 = .ok (.iaload, 1) := by decide +kernel
theorem dL_law_274 : decode cL_law 274 = .ok (.aload_n 0, 1) := by decide +kernel
theorem dL_law_275 : decode cL_law 275 = .ok (.iload_n 3, 1) := by decide +kernel
theorem dL_law_276 : decode cL_law 276 = .ok (.iconst 2, 1) := by decide +kernel
theorem dL_law_277 : decode cL_law 277 = .ok (.iadd, 1) := by decide +kernel
theorem dL_law_278 : decode cL_law 278 = .ok (.iaload, 1) := by decide +kernel
theorem dL_law_279 : decode cL_law 279 = .ok (.invokevirtual 40, 3) := by decide +kernel
theorem dL_law_282 : decode cL_law 282 = .ok (.aload_n 2, 1) := by decide +kernel
theorem dL_law_283 : decode cL_law 283 = .ok (.aload_n 0, 1) := by decide +kernel
theorem dL_law_284 : decode cL_law 284 = .ok (.iload_n 3, 1) := by decide +kernel
theorem dL_law_285 : decode cL_law 285 = .ok (.iconst 1, 1) := by decide +kernel
theorem dL_law_286 : decode cL_law 286 = .ok (.iadd, 1) := by decide +kernel
theorem dL_law_287 : decode cL_law 287 = .ok (.iaload, 1) := by decide +kernel
theorem dL_law_288 : decode cL_law 288 = .ok (.aload_n 0, 1) := by decide +kernel
theorem dL_law_289 : decode cL_law 289 = .ok (.iload_n 3, 1) := by decide +kernel
theorem dL_law_290 : decode cL_law 290 = .ok (.iconst 2, 1) := by decide +kernel
theorem dL_law_291 : decode cL_law 291 = .ok (.iadd, 1) := by decide +kernel
theorem dL_law_292 : decode cL_law 292 = .ok (.iaload, 1) := by decide +kernel
theorem dL_law_293 : decode cL_law 293 = .ok (.invokevirtual 43, 3) := by decide +kernel
theorem dL_law_296 : decode cL_law 296 = .ok (.if_icmp .eq 440, 3) := by decide +kernel
theorem dL_law_299 : decode cL_law 299 = .ok (.iconst 0, 1) := by decide +kernel
theorem dL_law_300 : decode cL_law 300 = .ok (.ireturn, 1) := by decide +kernel
theorem dL_law_301 : decode cL_law 301 = .ok (.aload_n 1, 1) := by decide +kernel
theorem dL_law_302 : decode cL_law 302 = .ok (.aload_n 0, 1) := by decide +kernel
theorem dL_law_303 : decode cL_law 303 = .ok (.iload_n 3, 1) := by decide +kernel
theorem dL_law_304 : decode cL_law 304 = .ok (.iconst 1, 1) := by decide +kernel
theorem dL_law_305 : decode cL_law 305 = .ok (.iadd, 1) := by decide +kernel
theorem dL_law_306 : decode cL_law 306 = .ok (.iaload, 1) := by decide +kernel
theorem dL_law_307 : decode cL_law 307 = .ok (.aload_n 0, 1) := by decide +kernel
theorem dL_law_308 : decode cL_law 308 = .ok (.iload_n 3, 1) := by decide +kernel
theorem dL_law_309 : decode cL_law 309 = .ok (.iconst 2, 1) := by decide +kernel
theorem dL_law_310 : decode cL_law 310 = .ok (.iadd, 1) := by decide +kernel
theorem dL_law_311 : decode cL_law 311 = .ok (.iaload, 1) := by decide +kernel
theorem dL_law_312 : decode cL_law 312 = .ok (.invokevirtual 44, 3) := by decide +kernel
theorem dL_law_315 : decode cL_law 315 = .ok (.aload_n 2, 1) := by decide +kernel
theorem dL_law_316 : decode cL_law 316 = .ok (.aload_n 0, 1) := by decide +kernel
theorem dL_law_317 : decode cL_law 317 = .ok (.iload_n 3, 1) := by decide +kernel
theorem dL_law_318 : decode cL_law 318 = .ok (.iconst 1, 1) := by decide +kernel
theorem dL_law_319 : decode cL_law 319 = .ok (.iadd, 1) := by decide +kernel
theorem dL_law_320 : decode cL_law 320 = .ok (.iaload, 1) := by decide +kernel
theorem dL_law_321 : decode cL_law 321 = .ok (.aload_n 0, 1) := by decide +kernel
theorem dL_law_322 : decode cL_law 322 = .ok (.iload_n 3, 1) := by decide +kernel
theorem dL_law_323 : decode cL_law 323 = .ok (.iconst 2, 1) := by decide +kernel
theorem dL_law_324 : decode cL_law 324 = .ok (.iadd, 1) := by decide +kernel
theorem dL_law_325 : decode cL_law 325 = .ok (.iaload, 1) := by decide +kernel
theorem dL_law_326 : decode cL_law 326 = .ok (.invokevirtual 47, 3) := by decide +kernel
theorem dL_law_329 : decode cL_law 329 = .ok (.if_icmp .eq 407, 3) := by decide +kernel
theorem dL_law_332 : decode cL_law 332 = .ok (.iconst 0, 1) := by decide +kernel
theorem dL_law_333 : decode cL_law 333 = .ok (.ireturn, 1) := by decide +kernel
theorem dL_law_334 : decode cL_law 334 = .ok (.aload_n 1, 1) := by decide +kernel
theorem dL_law_335 : decode cL_law 335 = .ok (.aload_n 0, 1) := by decide +kernel
theorem dL_law_336 : decode cL_law 336 = .ok (.iload_n 3, 1) := by decide +kernel
theorem dL_law_337 : decode cL_law 337 = .ok (.iconst 1, 1) := by decide +kernel
theorem dL_law_338 : decode cL_law 338 = .ok (.iadd, 1) := by decide +kernel
theorem dL_law_339 : decode cL_law 339 = .ok (.iaload, 1) := by decide +kernel
theorem dL_law_340 : decode cL_law 340 = .ok (.aload_n 0, 1) := by decide +kernel
theorem dL_law_341 : decode cL_law 341 = .ok (.iload_n 3, 1) := by decide +kernel
theorem dL_law_342 : decode cL_law 342 = .ok (.iconst 2, 1) := by decide +kernel
theorem dL_law_343 : decode cL_law 343 = .ok (.iadd, 1) := by decide +kernel
theorem dL_law_344 : decode cL_law 344 = .ok (.iaload, 1) := by decide +kernel
theorem dL_law_345 : decode cL_law 345 = .ok (.invokevirtual 48, 3) := by decide +kernel
theorem dL_law_348 : decode cL_law 348 = .ok (.aload_n 2, 1) := by decide +kernel
theorem dL_law_349 : decode cL_law 349 = .ok (.aload_n 0, 1) := by decide +kernel
theorem dL_law_350 : decode cL_law 350 = .ok (.iload_n 3, 1) := by decide +kernel
theorem dL_law_351 : decode cL_law 351 = .ok (.iconst 1, 1) := by decide +kernel
theorem dL_law_352 : decode cL_law 352 = .ok (.iadd, 1) := by decide +kernel
theorem dL_law_353 : decode cL_law 353 = .ok (.iaload, 1) := by decide +kernel
theorem dL_law_354 : decode cL_law 354 = .ok (.aload_n 0, 1) := by decide +kernel
theorem dL_law_355 : decode cL_law 355 = .ok (.iload_n 3, 1) := by decide +kernel
theorem dL_law_356 : decode cL_law 356 = .ok (.iconst 2, 1) := by decide +kernel
theorem dL_law_357 : decode cL_law 357 = .ok (.iadd, 1) := by decide +kernel
theorem dL_law_358 : decode cL_law 358 = .ok (.iaload, 1) := by decide +kernel
theorem dL_law_359 : decode cL_law 359 = .ok (.invokevirtual 51, 3) := by decide +kernel
theorem dL_law_362 : decode cL_law 362 = .ok (.if_icmp .eq 374, 3) := by decide +kernel
theorem dL_law_365 : decode cL_law 365 = .ok (.iconst 0, 1) := by decide +kernel
theorem dL_law_366 : decode cL_law 366 = .ok (.ireturn, 1) := by decide +kernel
theorem dL_law_367 : decode cL_law 367 = .ok (.aload_n 1, 1) := by decide +kernel
theorem dL_law_368 : decode cL_law 368 = .ok (.aload_n 0, 1) := by decide +kernel
theorem dL_law_369 : decode cL_law 369 = .ok (.iload_n 3, 1) := by decide +kernel
theorem dL_law_370 : decode cL_law 370 = .ok (.iconst 1, 1) := by decide +kernel
theorem dL_law_371 : decode cL_law 371 = .ok (.iadd, 1) := by decide +kernel
theorem dL_law_372 : decode cL_law 372 = .ok (.iaload, 1) := by decide +kernel
theorem dL_law_373 : decode cL_law 373 = .ok (.invokevirtual 52, 3) := by decide +kernel
theorem dL_law_376 : decode cL_law 376 = .ok (.aload_n 2, 1) := by decide +kernel
theorem dL_law_377 : decode cL_law 377 = .ok (.aload_n 0, 1) := by decide +kernel
theorem dL_law_378 : decode cL_law 378 = .ok (.iload_n 3, 1) := by decide +kernel
theorem dL_law_379 : decode cL_law 379 = .ok (.iconst 1, 1) := by decide +kernel
theorem dL_law_380 : decode cL_law 380 = .ok (.iadd, 1) := by decide +kernel
theorem dL_law_381 : decode cL_law 381 = .ok (.iaload, 1) := by decide +kernel
theorem dL_law_382 : decode cL_law 382 = .ok (.invokevirtual 55, 3) := by decide +kernel
theorem dL_law_385 : decode cL_law 385 = .ok (.if_icmp .eq 351, 3) := by decide +kernel
theorem dL_law_388 : decode cL_law 388 = .ok (.iconst 0, 1) := by decide +kernel
theorem dL_law_389 : decode cL_law 389 = .ok (.ireturn, 1) := by decide +kernel
theorem dL_law_390 : decode cL_law 390 = .ok (.aload_n 1, 1) := by decide +kernel
theorem dL_law_391 : decode cL_law 391 = .ok (.aload_n 0, 1) := by decide +kernel
theorem dL_law_392 : decode cL_law 392 = .ok (.iload_n 3, 1) := by decide +kernel
theorem dL_law_393 : decode cL_law 393 = .ok (.iconst 1, 1) := by decide +kernel
theorem dL_law_394 : decode cL_law 394 = .ok (.iadd, 1) := by decide +kernel
theorem dL_law_395 : decode cL_law 395 = .ok (.iaload, 1) := by decide +kernel
theorem dL_law_396 : decode cL_law 396 = .ok (.invokevirtual 56, 3) := by decide +kernel
theorem dL_law_399 : decode cL_law 399 = .ok (.aload_n 2, 1) := by decide +kernel
theorem dL_law_400 : decode cL_law 400 = .ok (.aload_n 0, 1) := by decide +kernel
theorem dL_law_401 : decode cL_law 401 = .ok (.iload_n 3, 1) := by decide +kernel
theorem dL_law_402 : decode cL_law 402 = .ok (.iconst 1, 1) := by decide +kernel
theorem dL_law_403 : decode cL_law 403 = .ok (.iadd, 1) := by decide +kernel
theorem dL_law_404 : decode cL_law 404 = .ok (.iaload, 1) := by decide +kernel
theorem dL_law_405 : decode cL_law 405 = .ok (.invokevirtual 59, 3) := by decide +kernel
theorem dL_law_408 : decode cL_law 408 = .ok (.if_icmp .eq 328, 3) := by decide +kernel
theorem dL_law_411 : decode cL_law 411 = .ok (.iconst 0, 1) := by decide +kernel
theorem dL_law_412 : decode cL_law 412 = .ok (.ireturn, 1) := by decide +kernel
theorem dL_law_413 : decode cL_law 413 = .ok (.aload_n 1, 1) := by decide +kernel
theorem dL_law_414 : decode cL_law 414 = .ok (.aload_n 0, 1) := by decide +kernel
theorem dL_law_415 : decode cL_law 415 = .ok (.iload_n 3, 1) := by decide +kernel
theorem dL_law_416 : decode cL_law 416 = .ok (.iconst 1, 1) := by decide +kernel
theorem dL_law_417 : decode cL_law 417 = .ok (.iadd, 1) := by decide +kernel
theorem dL_law_418 : decode cL_law 418 = .ok (.iaload, 1) := by decide +kernel
theorem dL_law_419 : decode cL_law 419 = .ok (.aload_n 0, 1) := by decide +kernel
theorem dL_law_420 : decode cL_law 420 = .ok (.iload_n 3, 1) := by decide +kernel
theorem dL_law_421 : decode cL_law 421 = .ok (.iconst 2, 1) := by decide +kernel
theorem dL_law_422 : decode cL_law 422 = .ok (.iadd, 1) := by decide +kernel
theorem dL_law_423 : decode cL_law 423 = .ok (.iaload, 1) := by decide +kernel
theorem dL_law_424 : decode cL_law 424 = .ok (.aload_n 0, 1) := by decide +kernel
theorem dL_law_425 : decode cL_law 425 = .ok (.iload_n 3, 1) := by decide +kernel
theorem dL_law_426 : decode cL_law 426 = .ok (.iconst 3, 1) := by decide +kernel
theorem dL_law_427 : decode cL_law 427 = .ok (.iadd, 1) := by decide +kernel
theorem dL_law_428 : decode cL_law 428 = .ok (.iaload, 1) := by decide +kernel
theorem dL_law_429 : decode cL_law 429 = .ok (.aload_n 0, 1) := by decide +kernel
theorem dL_law_430 : decode cL_law 430 = .ok (.iload_n 3, 1) := by decide +kernel
theorem dL_law_431 : decode cL_law 431 = .ok (.iconst 4, 1) := by decide +kernel
theorem dL_law_432 : decode cL_law 432 = .ok (.iadd, 1) := by decide +kernel
theorem dL_law_433 : decode cL_law 433 = .ok (.iaload, 1) := by decide +kernel
theorem dL_law_434 : decode cL_law 434 = .ok (.invokevirtual 60, 3) := by decide +kernel
theorem dL_law_437 : decode cL_law 437 = .ok (.aload_n 2, 1) := by decide +kernel
theorem dL_law_438 : decode cL_law 438 = .ok (.aload_n 0, 1) := by decide +kernel
theorem dL_law_439 : decode cL_law 439 = .ok (.iload_n 3, 1) := by decide +kernel
theorem dL_law_440 : decode cL_law 440 = .ok (.iconst 1, 1) := by decide +kernel
theorem dL_law_441 : decode cL_law 441 = .ok (.iadd, 1) := by decide +kernel
theorem dL_law_442 : decode cL_law 442 = .ok (.iaload, 1) := by decide +kernel
theorem dL_law_443 : decode cL_law 443 = .ok (.aload_n 0, 1) := by decide +kernel
theorem dL_law_444 : decode cL_law 444 = .ok (.iload_n 3, 1) := by decide +kernel
theorem dL_law_445 : decode cL_law 445 = .ok (.iconst 2, 1) := by decide +kernel
theorem dL_law_446 : decode cL_law 446 = .ok (.iadd, 1) := by decide +kernel
theorem dL_law_447 : decode cL_law 447 = .ok (.iaload, 1) := by decide +kernel
theorem dL_law_448 : decode cL_law 448 = .ok (.aload_n 0, 1) := by decide +kernel
theorem dL_law_449 : decode cL_law 449 = .ok (.iload_n 3, 1) := by decide +kernel
theorem dL_law_450 : decode cL_law 450 = .ok (.iconst 3, 1) := by decide +kernel
theorem dL_law_451 : decode cL_law 451 = .ok (.iadd, 1) := by decide +kernel
theorem dL_law_452 : decode cL_law 452 = .ok (.iaload, 1) := by decide +kernel
theorem dL_law_453 : decode cL_law 453 = .ok (.aload_n 0, 1) := by decide +kernel
theorem dL_law_454 : decode cL_law 454 = .ok (.iload_n 3, 1) := by decide +kernel
theorem dL_law_455 : decode cL_law 455 = .ok (.iconst 4, 1) := by decide +kernel
theorem dL_law_456 : decode cL_law 456 = .ok (.iadd, 1) := by decide +kernel
theorem dL_law_457 : decode cL_law 457 = .ok (.iaload, 1) := by decide +kernel
theorem dL_law_458 : decode cL_law 458 = .ok (.invokevirtual 64, 3) := by decide +kernel
theorem dL_law_461 : decode cL_law 461 = .ok (.if_icmp .eq 275, 3) := by decide +kernel
theorem dL_law_464 : decode cL_law 464 = .ok (.iconst 0, 1) := by decide +kernel
theorem dL_law_465 : decode cL_law 465 = .ok (.ireturn, 1) := by decide +kernel
theorem dL_law_466 : decode cL_law 466 = .ok (.aload_n 1, 1) := by decide +kernel
theorem dL_law_467 : decode cL_law 467 = .ok (.aload_n 0, 1) := by decide +kernel
theorem dL_law_468 : decode cL_law 468 = .ok (.iload_n 3, 1) := by decide +kernel
theorem dL_law_469 : decode cL_law 469 = .ok (.iconst 1, 1) := by decide +kernel
theorem dL_law_470 : decode cL_law 470 = .ok (.iadd, 1) := by decide +kernel
theorem dL_law_471 : decode cL_law 471 = .ok (.iaload, 1) := by decide +kernel
theorem dL_law_472 : decode cL_law 472 = .ok (.aload_n 0, 1) := by decide +kernel
theorem dL_law_473 : decode cL_law 473 = .ok (.iload_n 3, 1) := by decide +kernel
theorem dL_law_474 : decode cL_law 474 = .ok (.iconst 2, 1) := by decide +kernel
theorem dL_law_475 : decode cL_law 475 = .ok (.iadd, 1) := by decide +kernel
theorem dL_law_476 : decode cL_law 476 = .ok (.iaload, 1) := by decide +kernel
theorem dL_law_477 : decode cL_law 477 = .ok (.invokevirtual 65, 3) := by decide +kernel
theorem dL_law_480 : decode cL_law 480 = .ok (.aload_n 2, 1) := by decide +kernel
theorem dL_law_481 : decode cL_law 481 = .ok (.aload_n 0, 1) := by decide +kernel
theorem dL_law_482 : decode cL_law 482 = .ok (.iload_n 3, 1) := by decide +kernel
theorem dL_law_483 : decode cL_law 483 = .ok (.iconst 1, 1) := by decide +kernel
theorem dL_law_484 : decode cL_law 484 = .ok (.iadd, 1) := by decide +kernel
theorem dL_law_485 : decode cL_law 485 = .ok (.iaload, 1) := by decide +kernel
theorem dL_law_486 : decode cL_law 486 = .ok (.aload_n 0, 1) := by decide +kernel
theorem dL_law_487 : decode cL_law 487 = .ok (.iload_n 3, 1) := by decide +kernel
theorem dL_law_488 : decode cL_law 488 = .ok (.iconst 2, 1) := by decide +kernel
theorem dL_law_489 : decode cL_law 489 = .ok (.iadd, 1) := by decide +kernel
theorem dL_law_490 : decode cL_law 490 = .ok (.iaload, 1) := by decide +kernel
theorem dL_law_491 : decode cL_law 491 = .ok (.invokevirtual 68, 3) := by decide +kernel
theorem dL_law_494 : decode cL_law 494 = .ok (.if_icmp .eq 242, 3) := by decide +kernel
theorem dL_law_497 : decode cL_law 497 = .ok (.iconst 0, 1) := by decide +kernel
theorem dL_law_498 : decode cL_law 498 = .ok (.ireturn, 1) := by decide +kernel
theorem dL_law_499 : decode cL_law 499 = .ok (.aload_n 1, 1) := by decide +kernel
theorem dL_law_500 : decode cL_law 500 = .ok (.aload_n 0, 1) := by decide +kernel
theorem dL_law_501 : decode cL_law 501 = .ok (.iload_n 3, 1) := by decide +kernel
theorem dL_law_502 : decode cL_law 502 = .ok (.iconst 1, 1) := by decide +kernel
theorem dL_law_503 : decode cL_law 503 = .ok (.iadd, 1) := by decide +kernel
theorem dL_law_504 : decode cL_law 504 = .ok (.iaload, 1) := by decide +kernel
theorem dL_law_505 : decode cL_law 505 = .ok (.aload_n 0, 1) := by decide +kernel
theorem dL_law_506 : decode cL_law 506 = .ok (.iload_n 3, 1) := by decide +kernel
theorem dL_law_507 : decode cL_law 507 = .ok (.iconst 2, 1) := by decide +kernel
theorem dL_law_508 : decode cL_law 508 = .ok (.iadd, 1) := by decide +kernel
theorem dL_law_509 : decode cL_law 509 = .ok (.iaload, 1) := by decide +kernel
theorem dL_law_510 : decode cL_law 510 = .ok (.aload_n 0, 1) := by decide +kernel
theorem dL_law_511 : decode cL_law 511 = .ok (.iload_n 3, 1) := by decide +kernel
theorem dL_law_512 : decode cL_law 512 = .ok (.iconst 3, 1) := by decide +kernel
theorem dL_law_513 : decode cL_law 513 = .ok (.iadd, 1) := by decide +kernel
theorem dL_law_514 : decode cL_law 514 = .ok (.iaload, 1) := by decide +kernel
theorem dL_law_515 : decode cL_law 515 = .ok (.invokevirtual 69, 3) := by decide +kernel
theorem dL_law_518 : decode cL_law 518 = .ok (.aload_n 2, 1) := by decide +kernel
theorem dL_law_519 : decode cL_law 519 = .ok (.aload_n 0, 1) := by decide +kernel
theorem dL_law_520 : decode cL_law 520 = .ok (.iload_n 3, 1) := by decide +kernel
theorem dL_law_521 : decode cL_law 521 = .ok (.iconst 1, 1) := by decide +kernel
theorem dL_law_522 : decode cL_law 522 = .ok (.iadd, 1) := by decide +kernel
theorem dL_law_523 : decode cL_law 523 = .ok (.iaload, 1) := by decide +kernel
theorem dL_law_524 : decode cL_law 524 = .ok (.aload_n 0, 1) := by decide +kernel
theorem dL_law_525 : decode cL_law 525 = .ok (.iload_n 3, 1) := by decide +kernel
theorem dL_law_526 : decode cL_law 526 = .ok (.iconst 2, 1) := by decide +kernel
theorem dL_law_527 : decode cL_law 527 = .ok (.iadd, 1) := by decide +kernel
theorem dL_law_528 : decode cL_law 528 = .ok (.iaload, 1) := by decide +kernel
theorem dL_law_529 : decode cL_law 529 = .ok (.aload_n 0, 1) := by decide +kernel
theorem dL_law_530 : decode cL_law 530 = .ok (.iload_n 3, 1) := by decide +kernel
theorem dL_law_531 : decode cL_law 531 = .ok (.iconst 3, 1) := by decide +kernel
theorem dL_law_532 : decode cL_law 532 = .ok (.iadd, 1) := by decide +kernel
theorem dL_law_533 : decode cL_law 533 = .ok (.iaload, 1) := by decide +kernel
theorem dL_law_534 : decode cL_law 534 = .ok (.invokevirtual 73, 3) := by decide +kernel
theorem dL_law_537 : decode cL_law 537 = .ok (.if_icmp .eq 199, 3) := by decide +kernel
theorem dL_law_540 : decode cL_law 540 = .ok (.iconst 0, 1) := by decide +kernel
theorem dL_law_541 : decode cL_law 541 = .ok (.ireturn, 1) := by decide +kernel
theorem dL_law_542 : decode cL_law 542 = .ok (.aload_n 1, 1) := by decide +kernel
theorem dL_law_543 : decode cL_law 543 = .ok (.aload_n 0, 1) := by decide +kernel
theorem dL_law_544 : decode cL_law 544 = .ok (.iload_n 3, 1) := by decide +kernel
theorem dL_law_545 : decode cL_law 545 = .ok (.iconst 1, 1) := by decide +kernel
theorem dL_law_546 : decode cL_law 546 = .ok (.iadd, 1) := by decide +kernel
theorem dL_law_547 : decode cL_law 547 = .ok (.iaload, 1) := by decide +kernel
theorem dL_law_548 : decode cL_law 548 = .ok (.aload_n 0, 1) := by decide +kernel
theorem dL_law_549 : decode cL_law 549 = .ok (.iload_n 3, 1) := by decide +kernel
theorem dL_law_550 : decode cL_law 550 = .ok (.iconst 2, 1) := by decide +kernel
theorem dL_law_551 : decode cL_law 551 = .ok (.iadd, 1) := by decide +kernel
theorem dL_law_552 : decode cL_law 552 = .ok (.iaload, 1) := by decide +kernel
theorem dL_law_553 : decode cL_law 553 = .ok (.ifCond .eq 7, 3) := by decide +kernel
theorem dL_law_556 : decode cL_law 556 = .ok (.iconst 1, 1) := by decide +kernel
theorem dL_law_557 : decode cL_law 557 = .ok (.goto 4, 3) := by decide +kernel
theorem dL_law_560 : decode cL_law 560 = .ok (.iconst 0, 1) := by decide +kernel
theorem dL_law_561 : decode cL_law 561 = .ok (.invokevirtual 74, 3) := by decide +kernel
theorem dL_law_564 : decode cL_law 564 = .ok (.aload_n 2, 1) := by decide +kernel
theorem dL_law_565 : decode cL_law 565 = .ok (.aload_n 0, 1) := by decide +kernel
theorem dL_law_566 : decode cL_law 566 = .ok (.iload_n 3, 1) := by decide +kernel
theorem dL_law_567 : decode cL_law 567 = .ok (.iconst 1, 1) := by decide +kernel
theorem dL_law_568 : decode cL_law 568 = .ok (.iadd, 1) := by decide +kernel
theorem dL_law_569 : decode cL_law 569 = .ok (.iaload, 1) := by decide +kernel
theorem dL_law_570 : decode cL_law 570 = .ok (.aload_n 0, 1) := by decide +kernel
theorem dL_law_571 : decode cL_law 571 = .ok (.iload_n 3, 1) := by decide +kernel
theorem dL_law_572 : decode cL_law 572 = .ok (.iconst 2, 1) := by decide +kernel
theorem dL_law_573 : decode cL_law 573 = .ok (.iadd, 1) := by decide +kernel
theorem dL_law_574 : decode cL_law 574 = .ok (.iaload, 1) := by decide +kernel
theorem dL_law_575 : decode cL_law 575 = .ok (.ifCond .eq 7, 3) := by decide +kernel
theorem dL_law_578 : decode cL_law 578 = .ok (.iconst 1, 1) := by decide +kernel
theorem dL_law_579 : decode cL_law 579 = .ok (.goto 4, 3) := by decide +kernel
theorem dL_law_582 : decode cL_law 582 = .ok (.iconst 0, 1) := by decide +kernel
theorem dL_law_583 : decode cL_law 583 = .ok (.invokevirtual 78, 3) := by decide +kernel
theorem dL_law_586 : decode cL_law 586 = .ok (.if_icmp .eq 150, 3) := by decide +kernel
theorem dL_law_589 : decode cL_law 589 = .ok (.iconst 0, 1) := by decide +kernel
theorem dL_law_590 : decode cL_law 590 = .ok (.ireturn, 1) := by decide +kernel
theorem dL_law_591 : decode cL_law 591 = .ok (.aload_n 1, 1) := by decide +kernel
theorem dL_law_592 : decode cL_law 592 = .ok (.invokevirtual 79, 3) := by decide +kernel
theorem dL_law_595 : decode cL_law 595 = .ok (.aload_n 2, 1) := by decide +kernel
theorem dL_law_596 : decode cL_law 596 = .ok (.invokevirtual 82, 3) := by decide +kernel
theorem dL_law_599 : decode cL_law 599 = .ok (.if_icmp .eq 137, 3) := by decide +kernel
theorem dL_law_602 : decode cL_law 602 = .ok (.iconst 0, 1) := by decide +kernel
theorem dL_law_603 : decode cL_law 603 = .ok (.ireturn, 1) := by decide +kernel
theorem dL_law_604 : decode cL_law 604 = .ok (.aload_n 1, 1) := by decide +kernel
theorem dL_law_605 : decode cL_law 605 = .ok (.invokevirtual 83, 3) := by decide +kernel
theorem dL_law_608 : decode cL_law 608 = .ok (.aload_n 2, 1) := by decide +kernel
theorem dL_law_609 : decode cL_law 609 = .ok (.invokevirtual 86, 3) := by decide +kernel
theorem dL_law_612 : decode cL_law 612 = .ok (.if_icmp .eq 124, 3) := by decide +kernel
theorem dL_law_615 : decode cL_law 615 = .ok (.iconst 0, 1) := by decide +kernel
theorem dL_law_616 : decode cL_law 616 = .ok (.ireturn, 1) := by decide +kernel
theorem dL_law_617 : decode cL_law 617 = .ok (.aload_n 1, 1) := by decide +kernel
theorem dL_law_618 : decode cL_law 618 = .ok (.invokevirtual 87, 3) := by decide +kernel
theorem dL_law_621 : decode cL_law 621 = .ok (.aload_n 2, 1) := by decide +kernel
theorem dL_law_622 : decode cL_law 622 = .ok (.invokevirtual 90, 3) := by decide +kernel
theorem dL_law_625 : decode cL_law 625 = .ok (.if_icmp .eq 111, 3) := by decide +kernel
theorem dL_law_628 : decode cL_law 628 = .ok (.iconst 0, 1) := by decide +kernel
theorem dL_law_629 : decode cL_law 629 = .ok (.ireturn, 1) := by decide +kernel
theorem dL_law_630 : decode cL_law 630 = .ok (.aload_n 1, 1) := by decide +kernel
theorem dL_law_631 : decode cL_law 631 = .ok (.aload_n 0, 1) := by decide +kernel
theorem dL_law_632 : decode cL_law 632 = .ok (.iload_n 3, 1) := by decide +kernel
theorem dL_law_633 : decode cL_law 633 = .ok (.iconst 1, 1) := by decide +kernel
theorem dL_law_634 : decode cL_law 634 = .ok (.iadd, 1) := by decide +kernel
theorem dL_law_635 : decode cL_law 635 = .ok (.iaload, 1) := by decide +kernel
theorem dL_law_636 : decode cL_law 636 = .ok (.aload_n 0, 1) := by decide +kernel
theorem dL_law_637 : decode cL_law 637 = .ok (.iload_n 3, 1) := by decide +kernel
theorem dL_law_638 : decode cL_law 638 = .ok (.iconst 2, 1) := by decide +kernel
theorem dL_law_639 : decode cL_law 639 = .ok (.iadd, 1) := by decide +kernel
theorem dL_law_640 : decode cL_law 640 = .ok (.iaload, 1) := by decide +kernel
theorem dL_law_641 : decode cL_law 641 = .ok (.aload_n 0, 1) := by decide +kernel
theorem dL_law_642 : decode cL_law 642 = .ok (.iload_n 3, 1) := by decide +kernel
theorem dL_law_643 : decode cL_law 643 = .ok (.iconst 3, 1) := by decide +kernel
theorem dL_law_644 : decode cL_law 644 = .ok (.iadd, 1) := by decide +kernel
theorem dL_law_645 : decode cL_law 645 = .ok (.iaload, 1) := by decide +kernel
theorem dL_law_646 : decode cL_law 646 = .ok (.invokevirtual 91, 3) := by decide +kernel
theorem dL_law_649 : decode cL_law 649 = .ok (.aload_n 2, 1) := by decide +kernel
theorem dL_law_650 : decode cL_law 650 = .ok (.aload_n 0, 1) := by decide +kernel
theorem dL_law_651 : decode cL_law 651 = .ok (.iload_n 3, 1) := by decide +kernel
theorem dL_law_652 : decode cL_law 652 = .ok (.iconst 1, 1) := by decide +kernel
theorem dL_law_653 : decode cL_law 653 = .ok (.iadd, 1) := by decide +kernel
theorem dL_law_654 : decode cL_law 654 = .ok (.iaload, 1) := by decide +kernel
theorem dL_law_655 : decode cL_law 655 = .ok (.aload_n 0, 1) := by decide +kernel
theorem dL_law_656 : decode cL_law 656 = .ok (.iload_n 3, 1) := by decide +kernel
theorem dL_law_657 : decode cL_law 657 = .ok (.iconst 2, 1) := by decide +kernel
theorem dL_law_658 : decode cL_law 658 = .ok (.iadd, 1) := by decide +kernel
theorem dL_law_659 : decode cL_law 659 = .ok (.iaload, 1) := by decide +kernel
theorem dL_law_660 : decode cL_law 660 = .ok (.aload_n 0, 1) := by decide +kernel
theorem dL_law_661 : decode cL_law 661 = .ok (.iload_n 3, 1) := by decide +kernel
theorem dL_law_662 : decode cL_law 662 = .ok (.iconst 3, 1) := by decide +kernel
theorem dL_law_663 : decode cL_law 663 = .ok (.iadd, 1) := by decide +kernel
theorem dL_law_664 : decode cL_law 664 = .ok (.iaload, 1) := by decide +kernel
theorem dL_law_665 : decode cL_law 665 = .ok (.invokevirtual 94, 3) := by decide +kernel
theorem dL_law_668 : decode cL_law 668 = .ok (.if_icmp .eq 68, 3) := by decide +kernel
theorem dL_law_671 : decode cL_law 671 = .ok (.iconst 0, 1) := by decide +kernel
theorem dL_law_672 : decode cL_law 672 = .ok (.ireturn, 1) := by decide +kernel
theorem dL_law_673 : decode cL_law 673 = .ok (.aload_n 1, 1) := by decide +kernel
theorem dL_law_674 : decode cL_law 674 = .ok (.invokevirtual 95, 3) := by decide +kernel
theorem dL_law_677 : decode cL_law 677 = .ok (.aload_n 2, 1) := by decide +kernel
theorem dL_law_678 : decode cL_law 678 = .ok (.invokevirtual 98, 3) := by decide +kernel
theorem dL_law_681 : decode cL_law 681 = .ok (.if_icmp .eq 55, 3) := by decide +kernel
theorem dL_law_684 : decode cL_law 684 = .ok (.iconst 0, 1) := by decide +kernel
theorem dL_law_685 : decode cL_law 685 = .ok (.ireturn, 1) := by decide +kernel
theorem dL_law_686 : decode cL_law 686 = .ok (.aload_n 1, 1) := by decide +kernel
theorem dL_law_687 : decode cL_law 687 = .ok (.invokevirtual 99, 3) := by decide +kernel
theorem dL_law_690 : decode cL_law 690 = .ok (.aload_n 2, 1) := by decide +kernel
theorem dL_law_691 : decode cL_law 691 = .ok (.invokevirtual 102, 3) := by decide +kernel
theorem dL_law_694 : decode cL_law 694 = .ok (.if_icmp .eq 42, 3) := by decide +kernel
theorem dL_law_697 : decode cL_law 697 = .ok (.iconst 0, 1) := by decide +kernel
theorem dL_law_698 : decode cL_law 698 = .ok (.ireturn, 1) := by decide +kernel
theorem dL_law_699 : decode cL_law 699 = .ok (.aload_n 1, 1) := by decide +kernel
theorem dL_law_700 : decode cL_law 700 = .ok (.aload_n 0, 1) := by decide +kernel
theorem dL_law_701 : decode cL_law 701 = .ok (.iload_n 3, 1) := by decide +kernel
theorem dL_law_702 : decode cL_law 702 = .ok (.iconst 1, 1) := by decide +kernel
theorem dL_law_703 : decode cL_law 703 = .ok (.iadd, 1) := by decide +kernel
theorem dL_law_704 : decode cL_law 704 = .ok (.iaload, 1) := by decide +kernel
theorem dL_law_705 : decode cL_law 705 = .ok (.invokevirtual 103, 3) := by decide +kernel
theorem dL_law_708 : decode cL_law 708 = .ok (.aload_n 2, 1) := by decide +kernel
theorem dL_law_709 : decode cL_law 709 = .ok (.aload_n 0, 1) := by decide +kernel
theorem dL_law_710 : decode cL_law 710 = .ok (.iload_n 3, 1) := by decide +kernel
theorem dL_law_711 : decode cL_law 711 = .ok (.iconst 1, 1) := by decide +kernel
theorem dL_law_712 : decode cL_law 712 = .ok (.iadd, 1) := by decide +kernel
theorem dL_law_713 : decode cL_law 713 = .ok (.iaload, 1) := by decide +kernel
theorem dL_law_714 : decode cL_law 714 = .ok (.invokevirtual 106, 3) := by decide +kernel
theorem dL_law_717 : decode cL_law 717 = .ok (.if_icmp .eq 19, 3) := by decide +kernel
theorem dL_law_720 : decode cL_law 720 = .ok (.iconst 0, 1) := by decide +kernel
theorem dL_law_721 : decode cL_law 721 = .ok (.ireturn, 1) := by decide +kernel
theorem dL_law_722 : decode cL_law 722 = .ok (.aload_n 1, 1) := by decide +kernel
theorem dL_law_723 : decode cL_law 723 = .ok (.invokevirtual 107, 3) := by decide +kernel
theorem dL_law_726 : decode cL_law 726 = .ok (.aload_n 2, 1) := by decide +kernel
theorem dL_law_727 : decode cL_law 727 = .ok (.invokevirtual 111, 3) := by decide +kernel
theorem dL_law_730 : decode cL_law 730 = .ok (.lcmp, 1) := by decide +kernel
theorem dL_law_731 : decode cL_law 731 = .ok (.ifCond .eq 5, 3) := by decide +kernel
theorem dL_law_734 : decode cL_law 734 = .ok (.iconst 0, 1) := by decide +kernel
theorem dL_law_735 : decode cL_law 735 = .ok (.ireturn, 1) := by decide +kernel
theorem dL_law_736 : decode cL_law 736 = .ok (.iinc 3 5, 3) := by decide +kernel
theorem dL_law_739 : decode cL_law 739 = .ok (.goto (-721), 3) := by decide +kernel
theorem dL_law_742 : decode cL_law 742 = .ok (.iconst 1, 1) := by decide +kernel
theorem dL_law_743 : decode cL_law 743 = .ok (.ireturn, 1) := by decide +kernel
end
section
theorem dX7_init_0 : decode cX7_init 0 = .ok (.aload_n 0, 1) := by decide +kernel
theorem dX7_init_1 : decode cX7_init 1 = .ok (.invokespecial 1, 3) := by decide +kernel
theorem dX7_init_4 : decode cX7_init 4 = .ok (.aload_n 0, 1) := by decide +kernel
theorem dX7_init_5 : decode cX7_init 5 = .ok (.new 7, 3) := by decide +kernel
theorem dX7_init_8 : decode cX7_init 8 = .ok (.dup, 1) := by decide +kernel
theorem dX7_init_9 : decode cX7_init 9 = .ok (.invokespecial 9, 3) := by decide +kernel
theorem dX7_init_12 : decode cX7_init 12 = .ok (.putfield 10, 3) := by decide +kernel
theorem dX7_init_15 : decode cX7_init 15 = .ok (.aload_n 0, 1) := by decide +kernel
theorem dX7_init_16 : decode cX7_init 16 = .ok (.new 16, 3) := by decide +kernel
theorem dX7_init_19 : decode cX7_init 19 = .ok (.dup, 1) := by decide +kernel
theorem dX7_init_20 : decode cX7_init 20 = .ok (.invokespecial 18, 3) := by decide +kernel
theorem dX7_init_23 : decode cX7_init 23 = .ok (.putfield 19, 3) := by decide +kernel
theorem dX7_init_26 : decode cX7_init 26 = .ok (.aload_n 0, 1) := by decide +kernel
theorem dX7_init_27 : decode cX7_init 27 = .ok (.new 23, 3) := by decide +kernel
theorem dX7_init_30 : decode cX7_init 30 = .ok (.dup, 1) := by decide +kernel
theorem dX7_init_31 : decode cX7_init 31 = .ok (.invokespecial 25, 3) := by decide +kernel
theorem dX7_init_34 : decode cX7_init 34 = .ok (.putfield 26, 3) := by decide +kernel
theorem dX7_init_37 : decode cX7_init 37 = .ok (.aload_n 0, 1) := by decide +kernel
theorem dX7_init_38 : decode cX7_init 38 = .ok (.new 23, 3) := by decide +kernel
theorem dX7_init_41 : decode cX7_init 41 = .ok (.dup, 1) := by decide +kernel
theorem dX7_init_42 : decode cX7_init 42 = .ok (.invokespecial 25, 3) := by decide +kernel
theorem dX7_init_45 : decode cX7_init 45 = .ok (.putfield 30, 3) := by decide +kernel
theorem dX7_init_48 : decode cX7_init 48 = .ok (.aload_n 0, 1) := by decide +kernel
theorem dX7_init_49 : decode cX7_init 49 = .ok (.new 33, 3) := by decide +kernel
theorem dX7_init_52 : decode cX7_init 52 = .ok (.dup, 1) := by decide +kernel
theorem dX7_init_53 : decode cX7_init 53 = .ok (.invokespecial 35, 3) := by decide +kernel
theorem dX7_init_56 : decode cX7_init 56 = .ok (.putfield 36, 3) := by decide +kernel
theorem dX7_init_59 : decode cX7_init 59 = .ok (.aload_n 0, 1) := by decide +kernel
theorem dX7_init_60 : decode cX7_init 60 = .ok (.new 33, 3) := by decide +kernel
theorem dX7_init_63 : decode cX7_init 63 = .ok (.dup, 1) := by decide +kernel
theorem dX7_init_64 : decode cX7_init 64 = .ok (.invokespecial 35, 3) := by decide +kernel
theorem dX7_init_67 : decode cX7_init 67 = .ok (.putfield 40, 3) := by decide +kernel
theorem dX7_init_70 : decode cX7_init 70 = .ok (.aload_n 0, 1) := by decide +kernel
theorem dX7_init_71 : decode cX7_init 71 = .ok (.new 33, 3) := by decide +kernel
theorem dX7_init_74 : decode cX7_init 74 = .ok (.dup, 1) := by decide +kernel
theorem dX7_init_75 : decode cX7_init 75 = .ok (.invokespecial 35, 3) := by decide +kernel
theorem dX7_init_78 : decode cX7_init 78 = .ok (.putfield 43, 3) := by decide +kernel
theorem dX7_init_81 : decode cX7_init 81 = .ok (.aload_n 0, 1) := by decide +kernel
theorem dX7_init_82 : decode cX7_init 82 = .ok (.new 46, 3) := by decide +kernel
theorem dX7_init_85 : decode cX7_init 85 = .ok (.dup, 1) := by decide +kernel
theorem dX7_init_86 : decode cX7_init 86 = .ok (.invokespecial 48, 3) := by decide +kernel
theorem dX7_init_89 : decode cX7_init 89 = .ok (.putfield 49, 3) := by decide +kernel
theorem dX7_init_92 : decode cX7_init 92 = .ok (.aload_n 0, 1) := by decide +kernel
theorem dX7_init_93 : decode cX7_init 93 = .ok (.new 46, 3) := by decide +kernel
theorem dX7_init_96 : decode cX7_init 96 = .ok (.dup, 1) := by decide +kernel
theorem dX7_init_97 : decode cX7_init 97 = .ok (.invokespecial 48, 3) := by decide +kernel
theorem dX7_init_100 : decode cX7_init 100 = .ok (.putfield 53, 3) := by decide +kernel
theorem dX7_init_103 : decode cX7_init 103 = .ok (.aload_n 0, 1) := by decide +kernel
theorem dX7_init_104 : decode cX7_init 104 = .ok (.new 56, 3) := by decide +kernel
theorem dX7_init_107 : decode cX7_init 107 = .ok (.dup, 1) := by decide +kernel
theorem dX7_init_108 : decode cX7_init 108 = .ok (.invokespecial 58, 3) := by decide +kernel
theorem dX7_init_111 : decode cX7_init 111 = .ok (.putfield 59, 3) := by decide +kernel
theorem dX7_init_114 : decode cX7_init 114 = .ok (.aload_n 0, 1) := by decide +kernel
theorem dX7_init_115 : decode cX7_init 115 = .ok (.new 63, 3) := by decide +kernel
theorem dX7_init_118 : decode cX7_init 118 = .ok (.dup, 1) := by decide +kernel
theorem dX7_init_119 : decode cX7_init 119 = .ok (.invokespecial 65, 3) := by decide +kernel
theorem dX7_init_122 : decode cX7_init 122 = .ok (.putfield 66, 3) := by decide +kernel
theorem dX7_init_125 : decode cX7_init 125 = .ok (.return_, 1) := by decide +kernel
theorem dX7_letter_0 : decode cX7_letter 0 = .ok (.iload_n 1, 1) := by decide +kernel
theorem dX7_letter_1 : decode cX7_letter 1 = .ok (.iconst 1, 1) := by decide +kernel
theorem dX7_letter_2 : decode cX7_letter 2 = .ok (.bipush 126, 2) := by decide +kernel
theorem dX7_letter_4 : decode cX7_letter 4 = .ok (.invokestatic 70, 3) := by decide +kernel
theorem dX7_letter_7 : decode cX7_letter 7 = .ok (.ifCond .ne 6, 3) := by decide +kernel
theorem dX7_letter_10 : decode cX7_letter 10 = .ok (.bipush (-102), 2) := by decide +kernel
theorem dX7_letter_12 : decode cX7_letter 12 = .ok (.ireturn, 1) := by decide +kernel
theorem dX7_letter_13 : decode cX7_letter 13 = .ok (.aload_n 0, 1) := by decide +kernel
theorem dX7_letter_14 : decode cX7_letter 14 = .ok (.getfield 10, 3) := by decide +kernel
theorem dX7_letter_17 : decode cX7_letter 17 = .ok (.getfield 74, 3) := by decide +kernel
theorem dX7_letter_20 : decode cX7_letter 20 = .ok (.bipush 60, 2) := by decide +kernel
theorem dX7_letter_22 : decode cX7_letter 22 = .ok (.if_icmp .lt 6, 3) := by decide +kernel
theorem dX7_letter_25 : decode cX7_letter 25 = .ok (.bipush (-104), 2) := by decide +kernel
theorem dX7_letter_27 : decode cX7_letter 27 = .ok (.ireturn, 1) := by decide +kernel
theorem dX7_letter_28 : decode cX7_letter 28 = .ok (.aload_n 0, 1) := by decide +kernel
theorem dX7_letter_29 : decode cX7_letter 29 = .ok (.getfield 10, 3) := by decide +kernel
theorem dX7_letter_32 : decode cX7_letter 32 = .ok (.getfield 78, 3) := by decide +kernel
theorem dX7_letter_35 : decode cX7_letter 35 = .ok (.aload_n 0, 1) := by decide +kernel
theorem dX7_letter_36 : decode cX7_letter 36 = .ok (.getfield 10, 3) := by decide +kernel
theorem dX7_letter_39 : decode cX7_letter 39 = .ok (.getfield 74, 3) := by decide +kernel
theorem dX7_letter_42 : decode cX7_letter 42 = .ok (.iload_n 1, 1) := by decide +kernel
theorem dX7_letter_43 : decode cX7_letter 43 = .ok (.iastore, 1) := by decide +kernel
theorem dX7_letter_44 : decode cX7_letter 44 = .ok (.aload_n 0, 1) := by decide +kernel
theorem dX7_letter_45 : decode cX7_letter 45 = .ok (.getfield 10, 3) := by decide +kernel
theorem dX7_letter_48 : decode cX7_letter 48 = .ok (.dup, 1) := by decide +kernel
theorem dX7_letter_49 : decode cX7_letter 49 = .ok (.getfield 74, 3) := by decide +kernel
theorem dX7_letter_52 : decode cX7_letter 52 = .ok (.iconst 1, 1) := by decide +kernel
theorem dX7_letter_53 : decode cX7_letter 53 = .ok (.iadd, 1) := by decide +kernel
theorem dX7_letter_54 : decode cX7_letter 54 = .ok (.putfield 74, 3) := by decide +kernel
theorem dX7_letter_57 : decode cX7_letter 57 = .ok (.aload_n 0, 1) := by decide +kernel
theorem dX7_letter_58 : decode cX7_letter 58 = .ok (.getfield 10, 3) := by decide +kernel
theorem dX7_letter_61 : decode cX7_letter 61 = .ok (.getfield 74, 3) := by decide +kernel
theorem dX7_letter_64 : decode cX7_letter 64 = .ok (.ireturn, 1) := by decide +kernel
theorem dX7_blank_0 : decode cX7_blank 0 = .ok (.aload_n 0, 1) := by decide +kernel
theorem dX7_blank_1 : decode cX7_blank 1 = .ok (.getfield 10, 3) := by decide +kernel
theorem dX7_blank_4 : decode cX7_blank 4 = .ok (.getfield 74, 3) := by decide +kernel
theorem dX7_blank_7 : decode cX7_blank 7 = .ok (.istore_n 1, 1) := by decide +kernel
theorem dX7_blank_8 : decode cX7_blank 8 = .ok (.aload_n 0, 1) := by decide +kernel
theorem dX7_blank_9 : decode cX7_blank 9 = .ok (.getfield 10, 3) := by decide +kernel
theorem dX7_blank_12 : decode cX7_blank 12 = .ok (.iconst 0, 1) := by decide +kernel
theorem dX7_blank_13 : decode cX7_blank 13 = .ok (.putfield 74, 3) := by decide +kernel
theorem dX7_blank_16 : decode cX7_blank 16 = .ok (.iload_n 1, 1) := by decide +kernel
theorem dX7_blank_17 : decode cX7_blank 17 = .ok (.ireturn, 1) := by decide +kernel
theorem dX7_fault_0 : decode cX7_fault 0 = .ok (.aload_n 0, 1) := by decide +kernel
theorem dX7_fault_1 : decode cX7_fault 1 = .ok (.getfield 10, 3) := by decide +kernel
theorem dX7_fault_4 : decode cX7_fault 4 = .ok (.invokevirtual 82, 3) := by decide +kernel
theorem dX7_fault_7 : decode cX7_fault 7 = .ok (.ireturn, 1) := by decide +kernel
theorem dX7_suburb_0 : decode cX7_suburb 0 = .ok (.aload_n 0, 1) := by decide +kernel
theorem dX7_suburb_1 : decode cX7_suburb 1 = .ok (.getfield 10, 3) := by decide +kernel
theorem dX7_suburb_4 : decode cX7_suburb 4 = .ok (.invokevirtual 86, 3) := by decide +kernel
theorem dX7_suburb_7 : decode cX7_suburb 7 = .ok (.ifCond .ne 6, 3) := by decide +kernel
theorem dX7_suburb_10 : decode cX7_suburb 10 = .ok (.bipush (-103), 2) := by decide +kernel
theorem dX7_suburb_12 : decode cX7_suburb 12 = .ok (.ireturn, 1) := by decide +kernel
theorem dX7_suburb_13 : decode cX7_suburb 13 = .ok (.aload_n 0, 1) := by decide +kernel
theorem dX7_suburb_14 : decode cX7_suburb 14 = .ok (.getfield 19, 3) := by decide +kernel
theorem dX7_suburb_17 : decode cX7_suburb 17 = .ok (.aload_n 0, 1) := by decide +kernel
theorem dX7_suburb_18 : decode cX7_suburb 18 = .ok (.getfield 10, 3) := by decide +kernel
theorem dX7_suburb_21 : decode cX7_suburb 21 = .ok (.invokevirtual 90, 3) := by decide +kernel
theorem dX7_suburb_24 : decode cX7_suburb 24 = .ok (.aload_n 0, 1) := by decide +kernel
theorem dX7_suburb_25 : decode cX7_suburb 25 = .ok (.getfield 26, 3) := by decide +kernel
theorem dX7_suburb_28 : decode cX7_suburb 28 = .ok (.aload_n 0, 1) := by decide +kernel
theorem dX7_suburb_29 : decode cX7_suburb 29 = .ok (.getfield 10, 3) := by decide +kernel
theorem dX7_suburb_32 : decode cX7_suburb 32 = .ok (.invokevirtual 94, 3) := by decide +kernel
theorem dX7_suburb_35 : decode cX7_suburb 35 = .ok (.aload_n 0, 1) := by decide +kernel
theorem dX7_suburb_36 : decode cX7_suburb 36 = .ok (.getfield 36, 3) := by decide +kernel
theorem dX7_suburb_39 : decode cX7_suburb 39 = .ok (.aload_n 0, 1) := by decide +kernel
theorem dX7_suburb_40 : decode cX7_suburb 40 = .ok (.getfield 10, 3) := by decide +kernel
theorem dX7_suburb_43 : decode cX7_suburb 43 = .ok (.iconst 1, 1) := by decide +kernel
theorem dX7_suburb_44 : decode cX7_suburb 44 = .ok (.invokevirtual 97, 3) := by decide +kernel
theorem dX7_suburb_47 : decode cX7_suburb 47 = .ok (.invokevirtual 101, 3) := by decide +kernel
theorem dX7_suburb_50 : decode cX7_suburb 50 = .ok (.aload_n 0, 1) := by decide +kernel
theorem dX7_suburb_51 : decode cX7_suburb 51 = .ok (.getfield 49, 3) := by decide +kernel
theorem dX7_suburb_54 : decode cX7_suburb 54 = .ok (.iconst 0, 1) := by decide +kernel
theorem dX7_suburb_55 : decode cX7_suburb 55 = .ok (.putfield 105, 3) := by decide +kernel
theorem dX7_suburb_58 : decode cX7_suburb 58 = .ok (.aload_n 0, 1) := by decide +kernel
theorem dX7_suburb_59 : decode cX7_suburb 59 = .ok (.iconst 0, 1) := by decide +kernel
theorem dX7_suburb_60 : decode cX7_suburb 60 = .ok (.putfield 106, 3) := by decide +kernel
theorem dX7_suburb_63 : decode cX7_suburb 63 = .ok (.aload_n 0, 1) := by decide +kernel
theorem dX7_suburb_64 : decode cX7_suburb 64 = .ok (.dup, 1) := by decide +kernel
theorem dX7_suburb_65 : decode cX7_suburb 65 = .ok (.getfield 110, 3) := by decide +kernel
theorem dX7_suburb_68 : decode cX7_suburb 68 = .ok (.iconst 1, 1) := by decide +kernel
theorem dX7_suburb_69 : decode cX7_suburb 69 = .ok (.iadd, 1) := by decide +kernel
theorem dX7_suburb_70 : decode cX7_suburb 70 = .ok (.putfield 110, 3) := by decide +kernel
theorem dX7_suburb_73 : decode cX7_suburb 73 = .ok (.aload_n 0, 1) := by decide +kernel
theorem dX7_suburb_74 : decode cX7_suburb 74 = .ok (.getfield 10, 3) := by decide +kernel
theorem dX7_suburb_77 : decode cX7_suburb 77 = .ok (.iconst 0, 1) := by decide +kernel
theorem dX7_suburb_78 : decode cX7_suburb 78 = .ok (.putfield 74, 3) := by decide +kernel
theorem dX7_suburb_81 : decode cX7_suburb 81 = .ok (.aload_n 0, 1) := by decide +kernel
theorem dX7_suburb_82 : decode cX7_suburb 82 = .ok (.getfield 26, 3) := by decide +kernel
theorem dX7_suburb_85 : decode cX7_suburb 85 = .ok (.getfield 113, 3) := by decide +kernel
theorem dX7_suburb_88 : decode cX7_suburb 88 = .ok (.ireturn, 1) := by decide +kernel
theorem dX7_person_0 : decode cX7_person 0 = .ok (.aload_n 0, 1) := by decide +kernel
theorem dX7_person_1 : decode cX7_person 1 = .ok (.iload_n 1, 1) := by decide +kernel
theorem dX7_person_2 : decode cX7_person 2 = .ok (.invokevirtual 114, 3) := by decide +kernel
theorem dX7_person_5 : decode cX7_person 5 = .ok (.ifCond .ne 6, 3) := by decide +kernel
theorem dX7_person_8 : decode cX7_person 8 = .ok (.bipush (-101), 2) := by decide +kernel
theorem dX7_person_10 : decode cX7_person 10 = .ok (.ireturn, 1) := by decide +kernel
theorem dX7_person_11 : decode cX7_person 11 = .ok (.iload_n 2, 1) := by decide +kernel
theorem dX7_person_12 : decode cX7_person 12 = .ok (.iconst 0, 1) := by decide +kernel
theorem dX7_person_13 : decode cX7_person 13 = .ok (.bipush 8, 2) := by decide +kernel
theorem dX7_person_15 : decode cX7_person 15 = .ok (.invokestatic 70, 3) := by decide +kernel
theorem dX7_person_18 : decode cX7_person 18 = .ok (.ifCond .ne 6, 3) := by decide +kernel
theorem dX7_person_21 : decode cX7_person 21 = .ok (.bipush (-102), 2) := by decide +kernel
theorem dX7_person_23 : decode cX7_person 23 = .ok (.ireturn, 1) := by decide +kernel
theorem dX7_person_24 : decode cX7_person 24 = .ok (.iload_n 2, 1) := by decide +kernel
theorem dX7_person_25 : decode cX7_person 25 = .ok (.tableswitch 137 0 7 #[47, 57, 67, 77, 87, 104, 114, 123], 47) := by decide +kernel
theorem dX7_person_72 : decode cX7_person 72 = .ok (.aload_n 0, 1) := by decide +kernel
theorem dX7_person_73 : decode cX7_person 73 = .ok (.getfield 26, 3) := by decide +kernel
theorem dX7_person_76 : decode cX7_person 76 = .ok (.getfield 118, 3) := by decide +kernel
theorem dX7_person_79 : decode cX7_person 79 = .ok (.iload_n 1, 1) := by decide +kernel
theorem dX7_person_80 : decode cX7_person 80 = .ok (.iaload, 1) := by decide +kernel
theorem dX7_person_81 : decode cX7_person 81 = .ok (.ireturn, 1) := by decide +kernel
theorem dX7_person_82 : decode cX7_person 82 = .ok (.aload_n 0, 1) := by decide +kernel
theorem dX7_person_83 : decode cX7_person 83 = .ok (.getfield 26, 3) := by decide +kernel
theorem dX7_person_86 : decode cX7_person 86 = .ok (.getfield 121, 3) := by decide +kernel
theorem dX7_person_89 : decode cX7_person 89 = .ok (.iload_n 1, 1) := by decide +kernel
theorem dX7_person_90 : decode cX7_person 90 = .ok (.iaload, 1) := by decide +kernel
theorem dX7_person_91 : decode cX7_person 91 = .ok (.ireturn, 1) := by decide +kernel
theorem dX7_person_92 : decode cX7_person 92 = .ok (.aload_n 0, 1) := by decide +kernel
theorem dX7_person_93 : decode cX7_person 93 = .ok (.getfield 26, 3) := by decide +kernel
theorem dX7_person_96 : decode cX7_person 96 = .ok (.getfield 124, 3) := by decide +kernel
theorem dX7_person_99 : decode cX7_person 99 = .ok (.iload_n 1, 1) := by decide +kernel
theorem dX7_person_100 : decode cX7_person 100 = .ok (.iaload, 1) := by decide +kernel
theorem dX7_person_101 : decode cX7_person 101 = .ok (.ireturn, 1) := by decide +kernel
theorem dX7_person_102 : decode cX7_person 102 = .ok (.aload_n 0, 1) := by decide +kernel
theorem dX7_person_103 : decode cX7_person 103 = .ok (.getfield 26, 3) := by decide +kernel
theorem dX7_person_106 : decode cX7_person 106 = .ok (.getfield 127, 3) := by decide +kernel
theorem dX7_person_109 : decode cX7_person 109 = .ok (.iload_n 1, 1) := by decide +kernel
theorem dX7_person_110 : decode cX7_person 110 = .ok (.iaload, 1) := by decide +kernel
theorem dX7_person_111 : decode cX7_person 111 = .ok (.ireturn, 1) := by decide +kernel
theorem dX7_person_112 : decode cX7_person 112 = .ok (.aload_n 0, 1) := by decide +kernel
theorem dX7_person_113 : decode cX7_person 113 = .ok (.getfield 36, 3) := by decide +kernel
theorem dX7_person_116 : decode cX7_person 116 = .ok (.iload_n 1, 1) := by decide +kernel
theorem dX7_person_117 : decode cX7_person 117 = .ok (.invokevirtual 130, 3) := by decide +kernel
theorem dX7_person_120 : decode cX7_person 120 = .ok (.ifCond .eq 7, 3) := by decide +kernel
theorem dX7_person_123 : decode cX7_person 123 = .ok (.iconst 1, 1) := by decide +kernel
theorem dX7_person_124 : decode cX7_person 124 = .ok (.goto 4, 3) := by decide +kernel
theorem dX7_person_127 : decode cX7_person 127 = .ok (.iconst 0, 1) := by decide +kernel
theorem dX7_person_128 : decode cX7_person 128 = .ok (.ireturn, 1) := by decide +kernel
theorem dX7_person_129 : decode cX7_person 129 = .ok (.aload_n 0, 1) := by decide +kernel
theorem dX7_person_130 : decode cX7_person 130 = .ok (.getfield 36, 3) := by decide +kernel
theorem dX7_person_133 : decode cX7_person 133 = .ok (.getfield 133, 3) := by decide +kernel
theorem dX7_person_136 : decode cX7_person 136 = .ok (.iload_n 1, 1) := by decide +kernel
theorem dX7_person_137 : decode cX7_person 137 = .ok (.iaload, 1) := by decide +kernel
theorem dX7_person_138 : decode cX7_person 138 = .ok (.ireturn, 1) := by decide +kernel
theorem dX7_person_139 : decode cX7_person 139 = .ok (.aload_n 0, 1) := by decide +kernel
theorem dX7_person_140 : decode cX7_person 140 = .ok (.getfield 26, 3) := by decide +kernel
theorem dX7_person_143 : decode cX7_person 143 = .ok (.iload_n 1, 1) := by decide +kernel
theorem dX7_person_144 : decode cX7_person 144 = .ok (.invokevirtual 136, 3) := by decide +kernel
theorem dX7_person_147 : decode cX7_person 147 = .ok (.ireturn, 1) := by decide +kernel
theorem dX7_person_148 : decode cX7_person 148 = .ok (.aload_n 0, 1) := by decide +kernel
theorem dX7_person_149 : decode cX7_person 149 = .ok (.iload_n 1, 1) := by decide +kernel
theorem dX7_person_150 : decode cX7_person 150 = .ok (.invokevirtual 139, 3) := by decide +kernel
theorem dX7_person_153 : decode cX7_person 153 = .ok (.ifCond .eq 7, 3) := by decide +kernel
theorem dX7_person_156 : decode cX7_person 156 = .ok (.iconst 1, 1) := by decide +kernel
theorem dX7_person_157 : decode cX7_person 157 = .ok (.goto 4, 3) := by decide +kernel
theorem dX7_person_160 : decode cX7_person 160 = .ok (.iconst 0, 1) := by decide +kernel
theorem dX7_person_161 : decode cX7_person 161 = .ok (.ireturn, 1) := by decide +kernel
theorem dX7_person_162 : decode cX7_person 162 = .ok (.aload_n 0, 1) := by decide +kernel
theorem dX7_person_163 : decode cX7_person 163 = .ok (.iload_n 1, 1) := by decide +kernel
theorem dX7_person_164 : decode cX7_person 164 = .ok (.invokevirtual 142, 3) := by decide +kernel
theorem dX7_person_167 : decode cX7_person 167 = .ok (.ireturn, 1) := by decide +kernel
theorem dX7_as_0 : decode cX7_as 0 = .ok (.aload_n 0, 1) := by decide +kernel
theorem dX7_as_1 : decode cX7_as 1 = .ok (.iload_n 1, 1) := by decide +kernel
theorem dX7_as_2 : decode cX7_as 2 = .ok (.invokevirtual 114, 3) := by decide +kernel
theorem dX7_as_5 : decode cX7_as 5 = .ok (.ifCond .ne 6, 3) := by decide +kernel
theorem dX7_as_8 : decode cX7_as 8 = .ok (.bipush (-101), 2) := by decide +kernel
theorem dX7_as_10 : decode cX7_as 10 = .ok (.ireturn, 1) := by decide +kernel
theorem dX7_as_11 : decode cX7_as 11 = .ok (.iload_n 2, 1) := by decide +kernel
theorem dX7_as_12 : decode cX7_as 12 = .ok (.iconst 0, 1) := by decide +kernel
theorem dX7_as_13 : decode cX7_as 13 = .ok (.iconst 4, 1) := by decide +kernel
theorem dX7_as_14 : decode cX7_as 14 = .ok (.invokestatic 70, 3) := by decide +kernel
theorem dX7_as_17 : decode cX7_as 17 = .ok (.ifCond .ne 6, 3) := by decide +kernel
theorem dX7_as_20 : decode cX7_as 20 = .ok (.bipush (-102), 2) := by decide +kernel
theorem dX7_as_22 : decode cX7_as 22 = .ok (.ireturn, 1) := by decide +kernel
theorem dX7_as_23 : decode cX7_as 23 = .ok (.aload_n 0, 1) := by decide +kernel
theorem dX7_as_24 : decode cX7_as 24 = .ok (.getfield 26, 3) := by decide +kernel
theorem dX7_as_27 : decode cX7_as 27 = .ok (.iload_n 1, 1) := by decide +kernel
theorem dX7_as_28 : decode cX7_as 28 = .ok (.iload_n 2, 1) := by decide +kernel
theorem dX7_as_29 : decode cX7_as 29 = .ok (.invokevirtual 145, 3) := by decide +kernel
theorem dX7_as_32 : decode cX7_as 32 = .ok (.ifCond .eq 7, 3) := by decide +kernel
theorem dX7_as_35 : decode cX7_as 35 = .ok (.iload_n 1, 1) := by decide +kernel
theorem dX7_as_36 : decode cX7_as 36 = .ok (.goto 4, 3) := by decide +kernel
theorem dX7_as_39 : decode cX7_as 39 = .ok (.iconst (-1), 1) := by decide +kernel
theorem dX7_as_40 : decode cX7_as 40 = .ok (.ireturn, 1) := by decide +kernel
theorem dX7_road_0 : decode cX7_road 0 = .ok (.iload_n 1, 1) := by decide +kernel
theorem dX7_road_1 : decode cX7_road 1 = .ok (.iconst 0, 1) := by decide +kernel
theorem dX7_road_2 : decode cX7_road 2 = .ok (.aload_n 0, 1) := by decide +kernel
theorem dX7_road_3 : decode cX7_road 3 = .ok (.getfield 19, 3) := by decide +kernel
theorem dX7_road_6 : decode cX7_road 6 = .ok (.getfield 149, 3) := by decide +kernel
theorem dX7_road_9 : decode cX7_road 9 = .ok (.iconst 1, 1) := by decide +kernel
theorem dX7_road_10 : decode cX7_road 10 = .ok (.isub, 1) := by decide +kernel
theorem dX7_road_11 : decode cX7_road 11 = .ok (.invokestatic 70, 3) := by decide +kernel
theorem dX7_road_14 : decode cX7_road 14 = .ok (.ifCond .ne 6, 3) := by decide +kernel
theorem dX7_road_17 : decode cX7_road 17 = .ok (.bipush (-101), 2) := by decide +kernel
theorem dX7_road_19 : decode cX7_road 19 = .ok (.ireturn, 1) := by decide +kernel
theorem dX7_road_20 : decode cX7_road 20 = .ok (.iload_n 2, 1) := by decide +kernel
theorem dX7_road_21 : decode cX7_road 21 = .ok (.iconst 0, 1) := by decide +kernel
theorem dX7_road_22 : decode cX7_road 22 = .ok (.iconst 1, 1) := by decide +kernel
theorem dX7_road_23 : decode cX7_road 23 = .ok (.invokestatic 70, 3) := by decide +kernel
theorem dX7_road_26 : decode cX7_road 26 = .ok (.ifCond .ne 6, 3) := by decide +kernel
theorem dX7_road_29 : decode cX7_road 29 = .ok (.bipush (-102), 2) := by decide +kernel
theorem dX7_road_31 : decode cX7_road 31 = .ok (.ireturn, 1) := by decide +kernel
theorem dX7_road_32 : decode cX7_road 32 = .ok (.iload_n 2, 1) := by decide +kernel
theorem dX7_road_33 : decode cX7_road 33 = .ok (.ifCond .ne 15, 3) := by decide +kernel
theorem dX7_road_36 : decode cX7_road 36 = .ok (.aload_n 0, 1) := by decide +kernel
theorem dX7_road_37 : decode cX7_road 37 = .ok (.getfield 19, 3) := by decide +kernel
theorem dX7_road_40 : decode cX7_road 40 = .ok (.getfield 152, 3) := by decide +kernel
theorem dX7_road_43 : decode cX7_road 43 = .ok (.iload_n 1, 1) := by decide +kernel
theorem dX7_road_44 : decode cX7_road 44 = .ok (.iaload, 1) := by decide +kernel
theorem dX7_road_45 : decode cX7_road 45 = .ok (.goto 12, 3) := by decide +kernel
theorem dX7_road_48 : decode cX7_road 48 = .ok (.aload_n 0, 1) := by decide +kernel
theorem dX7_road_49 : decode cX7_road 49 = .ok (.getfield 19, 3) := by decide +kernel
theorem dX7_road_52 : decode cX7_road 52 = .ok (.getfield 155, 3) := by decide +kernel
theorem dX7_road_55 : decode cX7_road 55 = .ok (.iload_n 1, 1) := by decide +kernel
theorem dX7_road_56 : decode cX7_road 56 = .ok (.iaload, 1) := by decide +kernel
theorem dX7_road_57 : decode cX7_road 57 = .ok (.ireturn, 1) := by decide +kernel
theorem dX7_corner_0 : decode cX7_corner 0 = .ok (.aload_n 0, 1) := by decide +kernel
theorem dX7_corner_1 : decode cX7_corner 1 = .ok (.iload_n 1, 1) := by decide +kernel
theorem dX7_corner_2 : decode cX7_corner 2 = .ok (.invokevirtual 158, 3) := by decide +kernel
theorem dX7_corner_5 : decode cX7_corner 5 = .ok (.ifCond .ne 6, 3) := by decide +kernel
theorem dX7_corner_8 : decode cX7_corner 8 = .ok (.bipush (-101), 2) := by decide +kernel
theorem dX7_corner_10 : decode cX7_corner 10 = .ok (.ireturn, 1) := by decide +kernel
theorem dX7_corner_11 : decode cX7_corner 11 = .ok (.iload_n 2, 1) := by decide +kernel
theorem dX7_corner_12 : decode cX7_corner 12 = .ok (.iconst 0, 1) := by decide +kernel
theorem dX7_corner_13 : decode cX7_corner 13 = .ok (.iconst 3, 1) := by decide +kernel
theorem dX7_corner_14 : decode cX7_corner 14 = .ok (.invokestatic 70, 3) := by decide +kernel
theorem dX7_corner_17 : decode cX7_corner 17 = .ok (.ifCond .ne 6, 3) := by decide +kernel
theorem dX7_corner_20 : decode cX7_corner 20 = .ok (.bipush (-102), 2) := by decide +kernel
theorem dX7_corner_22 : decode cX7_corner 22 = .ok (.ireturn, 1) := by decide +kernel
theorem dX7_corner_23 : decode cX7_corner 23 = .ok (.iload_n 2, 1) := by decide +kernel
theorem dX7_corner_24 : decode cX7_corner 24 = .ok (.tableswitch 71 0 2 #[28, 44, 53], 28) := by decide +kernel
theorem dX7_corner_52 : decode cX7_corner 52 = .ok (.aload_n 0, 1) := by decide +kernel
theorem dX7_corner_53 : decode cX7_corner 53 = .ok (.getfield 19, 3) := by decide +kernel
theorem dX7_corner_56 : decode cX7_corner 56 = .ok (.getfield 161, 3) := by decide +kernel
theorem dX7_corner_59 : decode cX7_corner 59 = .ok (.iload_n 1, 1) := by decide +kernel
theorem dX7_corner_60 : decode cX7_corner 60 = .ok (.iaload, 1) := by decide +kernel
theorem dX7_corner_61 : decode cX7_corner 61 = .ok (.iconst 1, 1) := by decide +kernel
theorem dX7_corner_62 : decode cX7_corner 62 = .ok (.iload_n 1, 1) := by decide +kernel
theorem dX7_corner_63 : decode cX7_corner 63 = .ok (.ishl, 1) := by decide +kernel
theorem dX7_corner_64 : decode cX7_corner 64 = .ok (.iconst (-1), 1) := by decide +kernel
theorem dX7_corner_65 : decode cX7_corner 65 = .ok (.ixor, 1) := by decide +kernel
theorem dX7_corner_66 : decode cX7_corner 66 = .ok (.iand, 1) := by decide +kernel
theorem dX7_corner_67 : decode cX7_corner 67 = .ok (.ireturn, 1) := by decide +kernel
theorem dX7_corner_68 : decode cX7_corner 68 = .ok (.aload_n 0, 1) := by decide +kernel
theorem dX7_corner_69 : decode cX7_corner 69 = .ok (.getfield 26, 3) := by decide +kernel
theorem dX7_corner_72 : decode cX7_corner 72 = .ok (.iload_n 1, 1) := by decide +kernel
theorem dX7_corner_73 : decode cX7_corner 73 = .ok (.invokevirtual 164, 3) := by decide +kernel
theorem dX7_corner_76 : decode cX7_corner 76 = .ok (.ireturn, 1) := by decide +kernel
theorem dX7_corner_77 : decode cX7_corner 77 = .ok (.aload_n 0, 1) := by decide +kernel
theorem dX7_corner_78 : decode cX7_corner 78 = .ok (.getfield 19, 3) := by decide +kernel
theorem dX7_corner_81 : decode cX7_corner 81 = .ok (.getfield 167, 3) := by decide +kernel
theorem dX7_corner_84 : decode cX7_corner 84 = .ok (.iload_n 1, 1) := by decide +kernel
theorem dX7_corner_85 : decode cX7_corner 85 = .ok (.aaload, 1) := by decide +kernel
theorem dX7_corner_86 : decode cX7_corner 86 = .ok (.aload_n 0, 1) := by decide +kernel
theorem dX7_corner_87 : decode cX7_corner 87 = .ok (.getfield 36, 3) := by decide +kernel
theorem dX7_corner_90 : decode cX7_corner 90 = .ok (.getfield 171, 3) := by decide +kernel
theorem dX7_corner_93 : decode cX7_corner 93 = .ok (.iaload, 1) := by decide +kernel
theorem dX7_corner_94 : decode cX7_corner 94 = .ok (.ireturn, 1) := by decide +kernel
theorem dX7_corner_95 : decode cX7_corner 95 = .ok (.aload_n 0, 1) := by decide +kernel
theorem dX7_corner_96 : decode cX7_corner 96 = .ok (.getfield 19, 3) := by decide +kernel
theorem dX7_corner_99 : decode cX7_corner 99 = .ok (.getfield 174, 3) := by decide +kernel
theorem dX7_corner_102 : decode cX7_corner 102 = .ok (.aload_n 0, 1) := by decide +kernel
theorem dX7_corner_103 : decode cX7_corner 103 = .ok (.getfield 36, 3) := by decide +kernel
theorem dX7_corner_106 : decode cX7_corner 106 = .ok (.getfield 171, 3) := by decide +kernel
theorem dX7_corner_109 : decode cX7_corner 109 = .ok (.aaload, 1) := by decide +kernel
theorem dX7_corner_110 : decode cX7_corner 110 = .ok (.iload_n 1, 1) := by decide +kernel
theorem dX7_corner_111 : decode cX7_corner 111 = .ok (.iaload, 1) := by decide +kernel
theorem dX7_corner_112 : decode cX7_corner 112 = .ok (.ireturn, 1) := by decide +kernel
theorem dX7_far_0 : decode cX7_far 0 = .ok (.aload_n 0, 1) := by decide +kernel
theorem dX7_far_1 : decode cX7_far 1 = .ok (.iload_n 1, 1) := by decide +kernel
theorem dX7_far_2 : decode cX7_far 2 = .ok (.invokevirtual 158, 3) := by decide +kernel
theorem dX7_far_5 : decode cX7_far 5 = .ok (.ifCond .eq 11, 3) := by decide +kernel
theorem dX7_far_8 : decode cX7_far 8 = .ok (.aload_n 0, 1) := by decide +kernel
theorem dX7_far_9 : decode cX7_far 9 = .ok (.iload_n 2, 1) := by decide +kernel
theorem dX7_far_10 : decode cX7_far 10 = .ok (.invokevirtual 158, 3) := by decide +kernel
theorem dX7_far_13 : decode cX7_far 13 = .ok (.ifCond .ne 6, 3) := by decide +kernel
theorem dX7_far_16 : decode cX7_far 16 = .ok (.bipush (-101), 2) := by decide +kernel
theorem dX7_far_18 : decode cX7_far 18 = .ok (.ireturn, 1) := by decide +kernel
theorem dX7_far_19 : decode cX7_far 19 = .ok (.aload_n 0, 1) := by decide +kernel
theorem dX7_far_20 : decode cX7_far 20 = .ok (.getfield 19, 3) := by decide +kernel
theorem dX7_far_23 : decode cX7_far 23 = .ok (.getfield 167, 3) := by decide +kernel
theorem dX7_far_26 : decode cX7_far 26 = .ok (.iload_n 1, 1) := by decide +kernel
theorem dX7_far_27 : decode cX7_far 27 = .ok (.aaload, 1) := by decide +kernel
theorem dX7_far_28 : decode cX7_far 28 = .ok (.iload_n 2, 1) := by decide +kernel
theorem dX7_far_29 : decode cX7_far 29 = .ok (.iaload, 1) := by decide +kernel
theorem dX7_far_30 : decode cX7_far 30 = .ok (.ireturn, 1) := by decide +kernel
theorem dX7_go_0 : decode cX7_go 0 = .ok (.aload_n 0, 1) := by decide +kernel
theorem dX7_go_1 : decode cX7_go 1 = .ok (.iload_n 1, 1) := by decide +kernel
theorem dX7_go_2 : decode cX7_go 2 = .ok (.invokevirtual 158, 3) := by decide +kernel
theorem dX7_go_5 : decode cX7_go 5 = .ok (.ifCond .ne 6, 3) := by decide +kernel
theorem dX7_go_8 : decode cX7_go 8 = .ok (.bipush (-101), 2) := by decide +kernel
theorem dX7_go_10 : decode cX7_go 10 = .ok (.ireturn, 1) := by decide +kernel
theorem dX7_go_11 : decode cX7_go 11 = .ok (.aload_n 0, 1) := by decide +kernel
theorem dX7_go_12 : decode cX7_go 12 = .ok (.getfield 19, 3) := by decide +kernel
theorem dX7_go_15 : decode cX7_go 15 = .ok (.getfield 161, 3) := by decide +kernel
theorem dX7_go_18 : decode cX7_go 18 = .ok (.aload_n 0, 1) := by decide +kernel
theorem dX7_go_19 : decode cX7_go 19 = .ok (.getfield 36, 3) := by decide +kernel
theorem dX7_go_22 : decode cX7_go 22 = .ok (.getfield 171, 3) := by decide +kernel
theorem dX7_go_25 : decode cX7_go 25 = .ok (.iaload, 1) := by decide +kernel
theorem dX7_go_26 : decode cX7_go 26 = .ok (.iload_n 1, 1) := by decide +kernel
theorem dX7_go_27 : decode cX7_go 27 = .ok (.invokestatic 177, 3) := by decide +kernel
theorem dX7_go_30 : decode cX7_go 30 = .ok (.ifCond .ne 6, 3) := by decide +kernel
theorem dX7_go_33 : decode cX7_go 33 = .ok (.bipush (-103), 2) := by decide +kernel
theorem dX7_go_35 : decode cX7_go 35 = .ok (.ireturn, 1) := by decide +kernel
theorem dX7_go_36 : decode cX7_go 36 = .ok (.aload_n 0, 1) := by decide +kernel
theorem dX7_go_37 : decode cX7_go 37 = .ok (.getfield 36, 3) := by decide +kernel
theorem dX7_go_40 : decode cX7_go 40 = .ok (.getfield 180, 3) := by decide +kernel
theorem dX7_go_43 : decode cX7_go 43 = .ok (.iconst 1, 1) := by decide +kernel
theorem dX7_go_44 : decode cX7_go 44 = .ok (.iadd, 1) := by decide +kernel
theorem dX7_go_45 : decode cX7_go 45 = .ok (.sipush 1000, 3) := by decide +kernel
theorem dX7_go_48 : decode cX7_go 48 = .ok (.if_icmp .lt 6, 3) := by decide +kernel
theorem dX7_go_51 : decode cX7_go 51 = .ok (.bipush (-104), 2) := by decide +kernel
theorem dX7_go_53 : decode cX7_go 53 = .ok (.ireturn, 1) := by decide +kernel
theorem dX7_go_54 : decode cX7_go 54 = .ok (.aload_n 0, 1) := by decide +kernel
theorem dX7_go_55 : decode cX7_go 55 = .ok (.getfield 36, 3) := by decide +kernel
theorem dX7_go_58 : decode cX7_go 58 = .ok (.iload_n 1, 1) := by decide +kernel
theorem dX7_go_59 : decode cX7_go 59 = .ok (.aload_n 0, 1) := by decide +kernel
theorem dX7_go_60 : decode cX7_go 60 = .ok (.getfield 26, 3) := by decide +kernel
theorem dX7_go_63 : decode cX7_go 63 = .ok (.invokevirtual 183, 3) := by decide +kernel
theorem dX7_go_66 : decode cX7_go 66 = .ok (.ireturn, 1) := by decide +kernel
theorem dX7_stand_0 : decode cX7_stand 0 = .ok (.aload_n 0, 1) := by decide +kernel
theorem dX7_stand_1 : decode cX7_stand 1 = .ok (.iload_n 1, 1) := by decide +kernel
theorem dX7_stand_2 : decode cX7_stand 2 = .ok (.invokevirtual 158, 3) := by decide +kernel
theorem dX7_stand_5 : decode cX7_stand 5 = .ok (.ifCond .ne 6, 3) := by decide +kernel
theorem dX7_stand_8 : decode cX7_stand 8 = .ok (.bipush (-101), 2) := by decide +kernel
theorem dX7_stand_10 : decode cX7_stand 10 = .ok (.ireturn, 1) := by decide +kernel
theorem dX7_stand_11 : decode cX7_stand 11 = .ok (.aload_n 0, 1) := by decide +kernel
theorem dX7_stand_12 : decode cX7_stand 12 = .ok (.getfield 36, 3) := by decide +kernel
theorem dX7_stand_15 : decode cX7_stand 15 = .ok (.getfield 171, 3) := by decide +kernel
theorem dX7_stand_18 : decode cX7_stand 18 = .ok (.istore_n 2, 1) := by decide +kernel
theorem dX7_stand_19 : decode cX7_stand 19 = .ok (.aload_n 0, 1) := by decide +kernel
theorem dX7_stand_20 : decode cX7_stand 20 = .ok (.getfield 36, 3) := by decide +kernel
theorem dX7_stand_23 : decode cX7_stand 23 = .ok (.iload_n 1, 1) := by decide +kernel
theorem dX7_stand_24 : decode cX7_stand 24 = .ok (.putfield 171, 3) := by decide +kernel
theorem dX7_stand_27 : decode cX7_stand 27 = .ok (.iload_n 2, 1) := by decide +kernel
theorem dX7_stand_28 : decode cX7_stand 28 = .ok (.ireturn, 1) := by decide +kernel
theorem dX7_call_0 : decode cX7_call 0 = .ok (.aload_n 0, 1) := by decide +kernel
theorem dX7_call_1 : decode cX7_call 1 = .ok (.iload_n 1, 1) := by decide +kernel
theorem dX7_call_2 : decode cX7_call 2 = .ok (.invokevirtual 114, 3) := by decide +kernel
theorem dX7_call_5 : decode cX7_call 5 = .ok (.ifCond .ne 6, 3) := by decide +kernel
theorem dX7_call_8 : decode cX7_call 8 = .ok (.bipush (-101), 2) := by decide +kernel
theorem dX7_call_10 : decode cX7_call 10 = .ok (.ireturn, 1) := by decide +kernel
theorem dX7_call_11 : decode cX7_call 11 = .ok (.iload_n 2, 1) := by decide +kernel
theorem dX7_call_12 : decode cX7_call 12 = .ok (.iconst 0, 1) := by decide +kernel
theorem dX7_call_13 : decode cX7_call 13 = .ok (.iconst 4, 1) := by decide +kernel
theorem dX7_call_14 : decode cX7_call 14 = .ok (.invokestatic 70, 3) := by decide +kernel
theorem dX7_call_17 : decode cX7_call 17 = .ok (.ifCond .eq 24, 3) := by decide +kernel
theorem dX7_call_20 : decode cX7_call 20 = .ok (.iload_n 3, 1) := by decide +kernel
theorem dX7_call_21 : decode cX7_call 21 = .ok (.iconst 0, 1) := by decide +kernel
theorem dX7_call_22 : decode cX7_call 22 = .ok (.bipush 9, 2) := by decide +kernel
theorem dX7_call_24 : decode cX7_call 24 = .ok (.invokestatic 70, 3) := by decide +kernel
theorem dX7_call_27 : decode cX7_call 27 = .ok (.ifCond .eq 14, 3) := by decide +kernel
theorem dX7_call_30 : decode cX7_call 30 = .ok (.iload 4, 2) := by decide +kernel
theorem dX7_call_32 : decode cX7_call 32 = .ok (.iconst 0, 1) := by decide +kernel
theorem dX7_call_33 : decode cX7_call 33 = .ok (.bipush 9, 2) := by decide +kernel
theorem dX7_call_35 : decode cX7_call 35 = .ok (.invokestatic 70, 3) := by decide +kernel
theorem dX7_call_38 : decode cX7_call 38 = .ok (.ifCond .ne 6, 3) := by decide +kernel
theorem dX7_call_41 : decode cX7_call 41 = .ok (.bipush (-102), 2) := by decide +kernel
theorem dX7_call_43 : decode cX7_call 43 = .ok (.ireturn, 1) := by decide +kernel
theorem dX7_call_44 : decode cX7_call 44 = .ok (.aload_n 0, 1) := by decide +kernel
theorem dX7_call_45 : decode cX7_call 45 = .ok (.getfield 26, 3) := by decide +kernel
theorem dX7_call_48 : decode cX7_call 48 = .ok (.getfield 118, 3) := by decide +kernel
theorem dX7_call_51 : decode cX7_call 51 = .ok (.iload_n 1, 1) := by decide +kernel
theorem dX7_call_52 : decode cX7_call 52 = .ok (.iaload, 1) := by decide +kernel
theorem dX7_call_53 : decode cX7_call 53 = .ok (.istore 5, 2) := by decide +kernel
theorem dX7_call_55 : decode cX7_call 55 = .ok (.aload_n 0, 1) := by decide +kernel
theorem dX7_call_56 : decode cX7_call 56 = .ok (.getfield 26, 3) := by decide +kernel
theorem dX7_call_59 : decode cX7_call 59 = .ok (.getfield 118, 3) := by decide +kernel
theorem dX7_call_62 : decode cX7_call 62 = .ok (.iload_n 1, 1) := by decide +kernel
theorem dX7_call_63 : decode cX7_call 63 = .ok (.iload_n 2, 1) := by decide +kernel
theorem dX7_call_64 : decode cX7_call 64 = .ok (.iastore, 1) := by decide +kernel
theorem dX7_call_65 : decode cX7_call 65 = .ok (.aload_n 0, 1) := by decide +kernel
theorem dX7_call_66 : decode cX7_call 66 = .ok (.getfield 26, 3) := by decide +kernel
theorem dX7_call_69 : decode cX7_call 69 = .ok (.getfield 124, 3) := by decide +kernel
theorem dX7_call_72 : decode cX7_call 72 = .ok (.iload_n 1, 1) := by decide +kernel
theorem dX7_call_73 : decode cX7_call 73 = .ok (.iload_n 3, 1) := by decide +kernel
theorem dX7_call_74 : decode cX7_call 74 = .ok (.iastore, 1) := by decide +kernel
theorem dX7_call_75 : decode cX7_call 75 = .ok (.aload_n 0, 1) := by decide +kernel
theorem dX7_call_76 : decode cX7_call 76 = .ok (.getfield 26, 3) := by decide +kernel
theorem dX7_call_79 : decode cX7_call 79 = .ok (.getfield 127, 3) := by decide +kernel
theorem dX7_call_82 : decode cX7_call 82 = .ok (.iload_n 1, 1) := by decide +kernel
theorem dX7_call_83 : decode cX7_call 83 = .ok (.iload 4, 2) := by decide +kernel
theorem dX7_call_85 : decode cX7_call 85 = .ok (.iastore, 1) := by decide +kernel
theorem dX7_call_86 : decode cX7_call 86 = .ok (.aload_n 0, 1) := by decide +kernel
theorem dX7_call_87 : decode cX7_call 87 = .ok (.getfield 36, 3) := by decide +kernel
theorem dX7_call_90 : decode cX7_call 90 = .ok (.iload_n 1, 1) := by decide +kernel
theorem dX7_call_91 : decode cX7_call 91 = .ok (.invokevirtual 187, 3) := by decide +kernel
theorem dX7_call_94 : decode cX7_call 94 = .ok (.iload 5, 2) := by decide +kernel
theorem dX7_call_96 : decode cX7_call 96 = .ok (.ireturn, 1) := by decide +kernel
theorem dX7_round_0 : decode cX7_round 0 = .ok (.iload_n 2, 1) := by decide +kernel
theorem dX7_round_1 : decode cX7_round 1 = .ok (.bipush 10, 2) := by decide +kernel
theorem dX7_round_3 : decode cX7_round 3 = .ok (.bipush 14, 2) := by decide +kernel
theorem dX7_round_5 : decode cX7_round 5 = .ok (.invokestatic 70, 3) := by decide +kernel
theorem dX7_round_8 : decode cX7_round 8 = .ok (.istore_n 3, 1) := by decide +kernel
theorem dX7_round_9 : decode cX7_round 9 = .ok (.iload_n 1, 1) := by decide +kernel
theorem dX7_round_10 : decode cX7_round 10 = .ok (.iconst 1, 1) := by decide +kernel
theorem dX7_round_11 : decode cX7_round 11 = .ok (.iconst 5, 1) := by decide +kernel
theorem dX7_round_12 : decode cX7_round 12 = .ok (.invokestatic 70, 3) := by decide +kernel
theorem dX7_round_15 : decode cX7_round 15 = .ok (.ifCond .eq 16, 3) := by decide +kernel
theorem dX7_round_18 : decode cX7_round 18 = .ok (.iload_n 2, 1) := by decide +kernel
theorem dX7_round_19 : decode cX7_round 19 = .ok (.iconst 0, 1) := by decide +kernel
theorem dX7_round_20 : decode cX7_round 20 = .ok (.iconst 1, 1) := by decide +kernel
theorem dX7_round_21 : decode cX7_round 21 = .ok (.invokestatic 70, 3) := by decide +kernel
theorem dX7_round_24 : decode cX7_round 24 = .ok (.ifCond .ne 10, 3) := by decide +kernel
theorem dX7_round_27 : decode cX7_round 27 = .ok (.iload_n 3, 1) := by decide +kernel
theorem dX7_round_28 : decode cX7_round 28 = .ok (.ifCond .ne 6, 3) := by decide +kernel
theorem dX7_round_31 : decode cX7_round 31 = .ok (.bipush (-102), 2) := by decide +kernel
theorem dX7_round_33 : decode cX7_round 33 = .ok (.ireturn, 1) := by decide +kernel
theorem dX7_round_34 : decode cX7_round 34 = .ok (.aload_n 0, 1) := by decide +kernel
theorem dX7_round_35 : decode cX7_round 35 = .ok (.invokevirtual 190, 3) := by decide +kernel
theorem dX7_round_38 : decode cX7_round 38 = .ok (.ifCond .eq 12, 3) := by decide +kernel
theorem dX7_round_41 : decode cX7_round 41 = .ok (.aload_n 0, 1) := by decide +kernel
theorem dX7_round_42 : decode cX7_round 42 = .ok (.getfield 193, 3) := by decide +kernel
theorem dX7_round_45 : decode cX7_round 45 = .ok (.bipush 20, 2) := by decide +kernel
theorem dX7_round_47 : decode cX7_round 47 = .ok (.if_icmp .lt 6, 3) := by decide +kernel
theorem dX7_round_50 : decode cX7_round 50 = .ok (.bipush (-103), 2) := by decide +kernel
theorem dX7_round_52 : decode cX7_round 52 = .ok (.ireturn, 1) := by decide +kernel
theorem dX7_round_53 : decode cX7_round 53 = .ok (.aload_n 0, 1) := by decide +kernel
theorem dX7_round_54 : decode cX7_round 54 = .ok (.dup, 1) := by decide +kernel
theorem dX7_round_55 : decode cX7_round 55 = .ok (.getfield 193, 3) := by decide +kernel
theorem dX7_round_58 : decode cX7_round 58 = .ok (.iconst 1, 1) := by decide +kernel
theorem dX7_round_59 : decode cX7_round 59 = .ok (.iadd, 1) := by decide +kernel
theorem dX7_round_60 : decode cX7_round 60 = .ok (.putfield 193, 3) := by decide +kernel
theorem dX7_round_63 : decode cX7_round 63 = .ok (.aload_n 0, 1) := by decide +kernel
theorem dX7_round_64 : decode cX7_round 64 = .ok (.getfield 59, 3) := by decide +kernel
theorem dX7_round_67 : decode cX7_round 67 = .ok (.aload_n 0, 1) := by decide +kernel
theorem dX7_round_68 : decode cX7_round 68 = .ok (.getfield 19, 3) := by decide +kernel
theorem dX7_round_71 : decode cX7_round 71 = .ok (.aload_n 0, 1) := by decide +kernel
theorem dX7_round_72 : decode cX7_round 72 = .ok (.getfield 26, 3) := by decide +kernel
theorem dX7_round_75 : decode cX7_round 75 = .ok (.aload_n 0, 1) := by decide +kernel
theorem dX7_round_76 : decode cX7_round 76 = .ok (.getfield 36, 3) := by decide +kernel
theorem dX7_round_79 : decode cX7_round 79 = .ok (.iload_n 1, 1) := by decide +kernel
theorem dX7_round_80 : decode cX7_round 80 = .ok (.invokevirtual 196, 3) := by decide +kernel
theorem dX7_round_83 : decode cX7_round 83 = .ok (.iload_n 3, 1) := by decide +kernel
theorem dX7_round_84 : decode cX7_round 84 = .ok (.ifCond .eq 30, 3) := by decide +kernel
theorem dX7_round_87 : decode cX7_round 87 = .ok (.iload_n 2, 1) := by decide +kernel
theorem dX7_round_88 : decode cX7_round 88 = .ok (.bipush 10, 2) := by decide +kernel
theorem dX7_round_90 : decode cX7_round 90 = .ok (.isub, 1) := by decide +kernel
theorem dX7_round_91 : decode cX7_round 91 = .ok (.istore 4, 2) := by decide +kernel
theorem dX7_round_93 : decode cX7_round 93 = .ok (.iload 4, 2) := by decide +kernel
theorem dX7_round_95 : decode cX7_round 95 = .ok (.iload_n 1, 1) := by decide +kernel
theorem dX7_round_96 : decode cX7_round 96 = .ok (.if_icmp .ge 16, 3) := by decide +kernel
theorem dX7_round_99 : decode cX7_round 99 = .ok (.aload_n 0, 1) := by decide +kernel
theorem dX7_round_100 : decode cX7_round 100 = .ok (.getfield 59, 3) := by decide +kernel
theorem dX7_round_103 : decode cX7_round 103 = .ok (.getfield 200, 3) := by decide +kernel
theorem dX7_round_106 : decode cX7_round 106 = .ok (.iload 4, 2) := by decide +kernel
theorem dX7_round_108 : decode cX7_round 108 = .ok (.iaload, 1) := by decide +kernel
theorem dX7_round_109 : decode cX7_round 109 = .ok (.goto 4, 3) := by decide +kernel
theorem dX7_round_112 : decode cX7_round 112 = .ok (.iconst (-1), 1) := by decide +kernel
theorem dX7_round_113 : decode cX7_round 113 = .ok (.ireturn, 1) := by decide +kernel
theorem dX7_round_114 : decode cX7_round 114 = .ok (.iload_n 2, 1) := by decide +kernel
theorem dX7_round_115 : decode cX7_round 115 = .ok (.ifCond .ne 13, 3) := by decide +kernel
theorem dX7_round_118 : decode cX7_round 118 = .ok (.aload_n 0, 1) := by decide +kernel
theorem dX7_round_119 : decode cX7_round 119 = .ok (.getfield 59, 3) := by decide +kernel
theorem dX7_round_122 : decode cX7_round 122 = .ok (.getfield 203, 3) := by decide +kernel
theorem dX7_round_125 : decode cX7_round 125 = .ok (.goto 10, 3) := by decide +kernel
theorem dX7_round_128 : decode cX7_round 128 = .ok (.aload_n 0, 1) := by decide +kernel
theorem dX7_round_129 : decode cX7_round 129 = .ok (.getfield 59, 3) := by decide +kernel
theorem dX7_round_132 : decode cX7_round 132 = .ok (.getfield 206, 3) := by decide +kernel
theorem dX7_round_135 : decode cX7_round 135 = .ok (.ireturn, 1) := by decide +kernel
theorem dX7_odds_0 : decode cX7_odds 0 = .ok (.aload_n 0, 1) := by decide +kernel
theorem dX7_odds_1 : decode cX7_odds 1 = .ok (.iload_n 1, 1) := by decide +kernel
theorem dX7_odds_2 : decode cX7_odds 2 = .ok (.invokevirtual 114, 3) := by decide +kernel
theorem dX7_odds_5 : decode cX7_odds 5 = .ok (.ifCond .ne 6, 3) := by decide +kernel
theorem dX7_odds_8 : decode cX7_odds 8 = .ok (.bipush (-101), 2) := by decide +kernel
theorem dX7_odds_10 : decode cX7_odds 10 = .ok (.ireturn, 1) := by decide +kernel
theorem dX7_odds_11 : decode cX7_odds 11 = .ok (.iload_n 2, 1) := by decide +kernel
theorem dX7_odds_12 : decode cX7_odds 12 = .ok (.iconst 1, 1) := by decide +kernel
theorem dX7_odds_13 : decode cX7_odds 13 = .ok (.iconst 4, 1) := by decide +kernel
theorem dX7_odds_14 : decode cX7_odds 14 = .ok (.invokestatic 70, 3) := by decide +kernel
theorem dX7_odds_17 : decode cX7_odds 17 = .ok (.ifCond .eq 12, 3) := by decide +kernel
theorem dX7_odds_20 : decode cX7_odds 20 = .ok (.iload_n 3, 1) := by decide +kernel
theorem dX7_odds_21 : decode cX7_odds 21 = .ok (.iconst 0, 1) := by decide +kernel
theorem dX7_odds_22 : decode cX7_odds 22 = .ok (.iconst 1, 1) := by decide +kernel
theorem dX7_odds_23 : decode cX7_odds 23 = .ok (.invokestatic 70, 3) := by decide +kernel
theorem dX7_odds_26 : decode cX7_odds 26 = .ok (.ifCond .ne 6, 3) := by decide +kernel
theorem dX7_odds_29 : decode cX7_odds 29 = .ok (.bipush (-102), 2) := by decide +kernel
theorem dX7_odds_31 : decode cX7_odds 31 = .ok (.ireturn, 1) := by decide +kernel
theorem dX7_odds_32 : decode cX7_odds 32 = .ok (.aload_n 0, 1) := by decide +kernel
theorem dX7_odds_33 : decode cX7_odds 33 = .ok (.getfield 66, 3) := by decide +kernel
theorem dX7_odds_36 : decode cX7_odds 36 = .ok (.aload_n 0, 1) := by decide +kernel
theorem dX7_odds_37 : decode cX7_odds 37 = .ok (.getfield 19, 3) := by decide +kernel
theorem dX7_odds_40 : decode cX7_odds 40 = .ok (.aload_n 0, 1) := by decide +kernel
theorem dX7_odds_41 : decode cX7_odds 41 = .ok (.getfield 36, 3) := by decide +kernel
theorem dX7_odds_44 : decode cX7_odds 44 = .ok (.getfield 171, 3) := by decide +kernel
theorem dX7_odds_47 : decode cX7_odds 47 = .ok (.iload_n 2, 1) := by decide +kernel
theorem dX7_odds_48 : decode cX7_odds 48 = .ok (.invokevirtual 209, 3) := by decide +kernel
theorem dX7_odds_51 : decode cX7_odds 51 = .ok (.iload_n 3, 1) := by decide +kernel
theorem dX7_odds_52 : decode cX7_odds 52 = .ok (.ifCond .ne 22, 3) := by decide +kernel
theorem dX7_odds_55 : decode cX7_odds 55 = .ok (.aload_n 0, 1) := by decide +kernel
theorem dX7_odds_56 : decode cX7_odds 56 = .ok (.getfield 66, 3) := by decide +kernel
theorem dX7_odds_59 : decode cX7_odds 59 = .ok (.aload_n 0, 1) := by decide +kernel
theorem dX7_odds_60 : decode cX7_odds 60 = .ok (.getfield 26, 3) := by decide +kernel
theorem dX7_odds_63 : decode cX7_odds 63 = .ok (.getfield 121, 3) := by decide +kernel
theorem dX7_odds_66 : decode cX7_odds 66 = .ok (.iload_n 1, 1) := by decide +kernel
theorem dX7_odds_67 : decode cX7_odds 67 = .ok (.iaload, 1) := by decide +kernel
theorem dX7_odds_68 : decode cX7_odds 68 = .ok (.invokevirtual 212, 3) := by decide +kernel
theorem dX7_odds_71 : decode cX7_odds 71 = .ok (.goto 19, 3) := by decide +kernel
theorem dX7_odds_74 : decode cX7_odds 74 = .ok (.aload_n 0, 1) := by decide +kernel
theorem dX7_odds_75 : decode cX7_odds 75 = .ok (.getfield 66, 3) := by decide +kernel
theorem dX7_odds_78 : decode cX7_odds 78 = .ok (.aload_n 0, 1) := by decide +kernel
theorem dX7_odds_79 : decode cX7_odds 79 = .ok (.getfield 26, 3) := by decide +kernel
theorem dX7_odds_82 : decode cX7_odds 82 = .ok (.getfield 121, 3) := by decide +kernel
theorem dX7_odds_85 : decode cX7_odds 85 = .ok (.iload_n 1, 1) := by decide +kernel
theorem dX7_odds_86 : decode cX7_odds 86 = .ok (.iaload, 1) := by decide +kernel
theorem dX7_odds_87 : decode cX7_odds 87 = .ok (.invokevirtual 215, 3) := by decide +kernel
theorem dX7_odds_90 : decode cX7_odds 90 = .ok (.ireturn, 1) := by decide +kernel
theorem dX7_see_0 : decode cX7_see 0 = .ok (.aload_n 0, 1) := by decide +kernel
theorem dX7_see_1 : decode cX7_see 1 = .ok (.iload_n 1, 1) := by decide +kernel
theorem dX7_see_2 : decode cX7_see 2 = .ok (.invokevirtual 114, 3) := by decide +kernel
theorem dX7_see_5 : decode cX7_see 5 = .ok (.ifCond .ne 6, 3) := by decide +kernel
theorem dX7_see_8 : decode cX7_see 8 = .ok (.bipush (-101), 2) := by decide +kernel
theorem dX7_see_10 : decode cX7_see 10 = .ok (.ireturn, 1) := by decide +kernel
theorem dX7_see_11 : decode cX7_see 11 = .ok (.aload_n 0, 1) := by decide +kernel
theorem dX7_see_12 : decode cX7_see 12 = .ok (.getfield 49, 3) := by decide +kernel
theorem dX7_see_15 : decode cX7_see 15 = .ok (.getfield 105, 3) := by decide +kernel
theorem dX7_see_18 : decode cX7_see 18 = .ok (.bipush 6, 2) := by decide +kernel
theorem dX7_see_20 : decode cX7_see 20 = .ok (.if_icmp .lt 6, 3) := by decide +kernel
theorem dX7_see_23 : decode cX7_see 23 = .ok (.bipush (-104), 2) := by decide +kernel
theorem dX7_see_25 : decode cX7_see 25 = .ok (.ireturn, 1) := by decide +kernel
theorem dX7_see_26 : decode cX7_see 26 = .ok (.aload_n 0, 1) := by decide +kernel
theorem dX7_see_27 : decode cX7_see 27 = .ok (.getfield 49, 3) := by decide +kernel
theorem dX7_see_30 : decode cX7_see 30 = .ok (.getfield 218, 3) := by decide +kernel
theorem dX7_see_33 : decode cX7_see 33 = .ok (.aload_n 0, 1) := by decide +kernel
theorem dX7_see_34 : decode cX7_see 34 = .ok (.getfield 49, 3) := by decide +kernel
theorem dX7_see_37 : decode cX7_see 37 = .ok (.getfield 105, 3) := by decide +kernel
theorem dX7_see_40 : decode cX7_see 40 = .ok (.iload_n 1, 1) := by decide +kernel
theorem dX7_see_41 : decode cX7_see 41 = .ok (.iastore, 1) := by decide +kernel
theorem dX7_see_42 : decode cX7_see 42 = .ok (.aload_n 0, 1) := by decide +kernel
theorem dX7_see_43 : decode cX7_see 43 = .ok (.getfield 49, 3) := by decide +kernel
theorem dX7_see_46 : decode cX7_see 46 = .ok (.getfield 221, 3) := by decide +kernel
theorem dX7_see_49 : decode cX7_see 49 = .ok (.aload_n 0, 1) := by decide +kernel
theorem dX7_see_50 : decode cX7_see 50 = .ok (.getfield 49, 3) := by decide +kernel
theorem dX7_see_53 : decode cX7_see 53 = .ok (.getfield 105, 3) := by decide +kernel
theorem dX7_see_56 : decode cX7_see 56 = .ok (.iload_n 2, 1) := by decide +kernel
theorem dX7_see_57 : decode cX7_see 57 = .ok (.bastore, 1) := by decide +kernel
theorem dX7_see_58 : decode cX7_see 58 = .ok (.aload_n 0, 1) := by decide +kernel
theorem dX7_see_59 : decode cX7_see 59 = .ok (.getfield 49, 3) := by decide +kernel
theorem dX7_see_62 : decode cX7_see 62 = .ok (.dup, 1) := by decide +kernel
theorem dX7_see_63 : decode cX7_see 63 = .ok (.getfield 105, 3) := by decide +kernel
theorem dX7_see_66 : decode cX7_see 66 = .ok (.iconst 1, 1) := by decide +kernel
theorem dX7_see_67 : decode cX7_see 67 = .ok (.iadd, 1) := by decide +kernel
theorem dX7_see_68 : decode cX7_see 68 = .ok (.putfield 105, 3) := by decide +kernel
theorem dX7_see_71 : decode cX7_see 71 = .ok (.aload_n 0, 1) := by decide +kernel
theorem dX7_see_72 : decode cX7_see 72 = .ok (.getfield 49, 3) := by decide +kernel
theorem dX7_see_75 : decode cX7_see 75 = .ok (.getfield 105, 3) := by decide +kernel
theorem dX7_see_78 : decode cX7_see 78 = .ok (.ireturn, 1) := by decide +kernel
theorem dX7_forget_0 : decode cX7_forget 0 = .ok (.aload_n 0, 1) := by decide +kernel
theorem dX7_forget_1 : decode cX7_forget 1 = .ok (.getfield 49, 3) := by decide +kernel
theorem dX7_forget_4 : decode cX7_forget 4 = .ok (.getfield 105, 3) := by decide +kernel
theorem dX7_forget_7 : decode cX7_forget 7 = .ok (.istore_n 1, 1) := by decide +kernel
theorem dX7_forget_8 : decode cX7_forget 8 = .ok (.aload_n 0, 1) := by decide +kernel
theorem dX7_forget_9 : decode cX7_forget 9 = .ok (.getfield 49, 3) := by decide +kernel
theorem dX7_forget_12 : decode cX7_forget 12 = .ok (.iconst 0, 1) := by decide +kernel
theorem dX7_forget_13 : decode cX7_forget 13 = .ok (.putfield 105, 3) := by decide +kernel
theorem dX7_forget_16 : decode cX7_forget 16 = .ok (.iload_n 1, 1) := by decide +kernel
theorem dX7_forget_17 : decode cX7_forget 17 = .ok (.ireturn, 1) := by decide +kernel
theorem dX7_places_0 : decode cX7_places 0 = .ok (.aload_n 0, 1) := by decide +kernel
theorem dX7_places_1 : decode cX7_places 1 = .ok (.invokevirtual 190, 3) := by decide +kernel
theorem dX7_places_4 : decode cX7_places 4 = .ok (.ifCond .eq 10, 3) := by decide +kernel
theorem dX7_places_7 : decode cX7_places 7 = .ok (.aload_n 0, 1) := by decide +kernel
theorem dX7_places_8 : decode cX7_places 8 = .ok (.invokevirtual 225, 3) := by decide +kernel
theorem dX7_places_11 : decode cX7_places 11 = .ok (.goto 5, 3) := by decide +kernel
theorem dX7_places_14 : decode cX7_places 14 = .ok (.bipush (-103), 2) := by decide +kernel
theorem dX7_places_16 : decode cX7_places 16 = .ok (.ireturn, 1) := by decide +kernel
theorem dX7_ask_0 : decode cX7_ask 0 = .ok (.aload_n 0, 1) := by decide +kernel
theorem dX7_ask_1 : decode cX7_ask 1 = .ok (.invokevirtual 190, 3) := by decide +kernel
theorem dX7_ask_4 : decode cX7_ask 4 = .ok (.ifCond .eq 14, 3) := by decide +kernel
theorem dX7_ask_7 : decode cX7_ask 7 = .ok (.aload_n 0, 1) := by decide +kernel
theorem dX7_ask_8 : decode cX7_ask 8 = .ok (.aload_n 0, 1) := by decide +kernel
theorem dX7_ask_9 : decode cX7_ask 9 = .ok (.invokevirtual 225, 3) := by decide +kernel
theorem dX7_ask_12 : decode cX7_ask 12 = .ok (.invokevirtual 228, 3) := by decide +kernel
theorem dX7_ask_15 : decode cX7_ask 15 = .ok (.goto 5, 3) := by decide +kernel
theorem dX7_ask_18 : decode cX7_ask 18 = .ok (.bipush (-103), 2) := by decide +kernel
theorem dX7_ask_20 : decode cX7_ask 20 = .ok (.ireturn, 1) := by decide +kernel
theorem dX7_evenings_0 : decode cX7_evenings 0 = .ok (.iload_n 1, 1) := by decide +kernel
theorem dX7_evenings_1 : decode cX7_evenings 1 = .ok (.iconst 1, 1) := by decide +kernel
theorem dX7_evenings_2 : decode cX7_evenings 2 = .ok (.bipush 60, 2) := by decide +kernel
theorem dX7_evenings_4 : decode cX7_evenings 4 = .ok (.invokestatic 70, 3) := by decide +kernel
theorem dX7_evenings_7 : decode cX7_evenings 7 = .ok (.ifCond .eq 16, 3) := by decide +kernel
theorem dX7_evenings_10 : decode cX7_evenings 10 = .ok (.iload_n 2, 1) := by decide +kernel
theorem dX7_evenings_11 : decode cX7_evenings 11 = .ok (.ifCond .lt 12, 3) := by decide +kernel
theorem dX7_evenings_14 : decode cX7_evenings 14 = .ok (.iload_n 3, 1) := by decide +kernel
theorem dX7_evenings_15 : decode cX7_evenings 15 = .ok (.iconst 0, 1) := by decide +kernel
theorem dX7_evenings_16 : decode cX7_evenings 16 = .ok (.iconst 2, 1) := by decide +kernel
theorem dX7_evenings_17 : decode cX7_evenings 17 = .ok (.invokestatic 70, 3) := by decide +kernel
theorem dX7_evenings_20 : decode cX7_evenings 20 = .ok (.ifCond .ne 6, 3) := by decide +kernel
theorem dX7_evenings_23 : decode cX7_evenings 23 = .ok (.bipush (-102), 2) := by decide +kernel
theorem dX7_evenings_25 : decode cX7_evenings 25 = .ok (.ireturn, 1) := by decide +kernel
theorem dX7_evenings_26 : decode cX7_evenings 26 = .ok (.aload_n 0, 1) := by decide +kernel
theorem dX7_evenings_27 : decode cX7_evenings 27 = .ok (.invokevirtual 190, 3) := by decide +kernel
theorem dX7_evenings_30 : decode cX7_evenings 30 = .ok (.ifCond .ne 6, 3) := by decide +kernel
theorem dX7_evenings_33 : decode cX7_evenings 33 = .ok (.bipush (-103), 2) := by decide +kernel
theorem dX7_evenings_35 : decode cX7_evenings 35 = .ok (.ireturn, 1) := by decide +kernel
theorem dX7_evenings_36 : decode cX7_evenings 36 = .ok (.aload_n 0, 1) := by decide +kernel
theorem dX7_evenings_37 : decode cX7_evenings 37 = .ok (.getfield 43, 3) := by decide +kernel
theorem dX7_evenings_40 : decode cX7_evenings 40 = .ok (.aload_n 0, 1) := by decide +kernel
theorem dX7_evenings_41 : decode cX7_evenings 41 = .ok (.getfield 36, 3) := by decide +kernel
theorem dX7_evenings_44 : decode cX7_evenings 44 = .ok (.invokevirtual 231, 3) := by decide +kernel
theorem dX7_evenings_47 : decode cX7_evenings 47 = .ok (.aload_n 0, 1) := by decide +kernel
theorem dX7_evenings_48 : decode cX7_evenings 48 = .ok (.iload_n 1, 1) := by decide +kernel
theorem dX7_evenings_49 : decode cX7_evenings 49 = .ok (.iload_n 2, 1) := by decide +kernel
theorem dX7_evenings_50 : decode cX7_evenings 50 = .ok (.invokevirtual 235, 3) := by decide +kernel
theorem dX7_evenings_53 : decode cX7_evenings 53 = .ok (.istore 4, 2) := by decide +kernel
theorem dX7_evenings_55 : decode cX7_evenings 55 = .ok (.iload_n 3, 1) := by decide +kernel
theorem dX7_evenings_56 : decode cX7_evenings 56 = .ok (.iconst 2, 1) := by decide +kernel
theorem dX7_evenings_57 : decode cX7_evenings 57 = .ok (.if_icmp .ne 6, 3) := by decide +kernel
theorem dX7_evenings_60 : decode cX7_evenings 60 = .ok (.iload 4, 2) := by decide +kernel
theorem dX7_evenings_62 : decode cX7_evenings 62 = .ok (.ireturn, 1) := by decide +kernel
theorem dX7_evenings_63 : decode cX7_evenings 63 = .ok (.iload_n 3, 1) := by decide +kernel
theorem dX7_evenings_64 : decode cX7_evenings 64 = .ok (.ifCond .ne 21, 3) := by decide +kernel
theorem dX7_evenings_67 : decode cX7_evenings 67 = .ok (.aload_n 0, 1) := by decide +kernel
theorem dX7_evenings_68 : decode cX7_evenings 68 = .ok (.getfield 43, 3) := by decide +kernel
theorem dX7_evenings_71 : decode cX7_evenings 71 = .ok (.invokevirtual 239, 3) := by decide +kernel
theorem dX7_evenings_74 : decode cX7_evenings 74 = .ok (.aload_n 0, 1) := by decide +kernel
theorem dX7_evenings_75 : decode cX7_evenings 75 = .ok (.getfield 36, 3) := by decide +kernel
theorem dX7_evenings_78 : decode cX7_evenings 78 = .ok (.invokevirtual 239, 3) := by decide +kernel
theorem dX7_evenings_81 : decode cX7_evenings 81 = .ok (.isub, 1) := by decide +kernel
theorem dX7_evenings_82 : decode cX7_evenings 82 = .ok (.goto 10, 3) := by decide +kernel
theorem dX7_evenings_85 : decode cX7_evenings 85 = .ok (.aload_n 0, 1) := by decide +kernel
theorem dX7_evenings_86 : decode cX7_evenings 86 = .ok (.getfield 43, 3) := by decide +kernel
theorem dX7_evenings_89 : decode cX7_evenings 89 = .ok (.getfield 171, 3) := by decide +kernel
theorem dX7_evenings_92 : decode cX7_evenings 92 = .ok (.ireturn, 1) := by decide +kernel
theorem dX7_image_0 : decode cX7_image 0 = .ok (.aload_n 0, 1) := by decide +kernel
theorem dX7_image_1 : decode cX7_image 1 = .ok (.invokevirtual 190, 3) := by decide +kernel
theorem dX7_image_4 : decode cX7_image 4 = .ok (.ifCond .ne 6, 3) := by decide +kernel
theorem dX7_image_7 : decode cX7_image 7 = .ok (.bipush (-103), 2) := by decide +kernel
theorem dX7_image_9 : decode cX7_image 9 = .ok (.ireturn, 1) := by decide +kernel
theorem dX7_image_10 : decode cX7_image 10 = .ok (.aload_n 0, 1) := by decide +kernel
theorem dX7_image_11 : decode cX7_image 11 = .ok (.getfield 30, 3) := by decide +kernel
theorem dX7_image_14 : decode cX7_image 14 = .ok (.aload_n 0, 1) := by decide +kernel
theorem dX7_image_15 : decode cX7_image 15 = .ok (.getfield 26, 3) := by decide +kernel
theorem dX7_image_18 : decode cX7_image 18 = .ok (.invokevirtual 242, 3) := by decide +kernel
theorem dX7_image_21 : decode cX7_image 21 = .ok (.aload_n 0, 1) := by decide +kernel
theorem dX7_image_22 : decode cX7_image 22 = .ok (.getfield 40, 3) := by decide +kernel
theorem dX7_image_25 : decode cX7_image 25 = .ok (.aload_n 0, 1) := by decide +kernel
theorem dX7_image_26 : decode cX7_image 26 = .ok (.getfield 36, 3) := by decide +kernel
theorem dX7_image_29 : decode cX7_image 29 = .ok (.invokevirtual 231, 3) := by decide +kernel
theorem dX7_image_32 : decode cX7_image 32 = .ok (.aload_n 0, 1) := by decide +kernel
theorem dX7_image_33 : decode cX7_image 33 = .ok (.getfield 53, 3) := by decide +kernel
theorem dX7_image_36 : decode cX7_image 36 = .ok (.aload_n 0, 1) := by decide +kernel
theorem dX7_image_37 : decode cX7_image 37 = .ok (.getfield 49, 3) := by decide +kernel
theorem dX7_image_40 : decode cX7_image 40 = .ok (.invokevirtual 245, 3) := by decide +kernel
theorem dX7_image_43 : decode cX7_image 43 = .ok (.aload_n 0, 1) := by decide +kernel
theorem dX7_image_44 : decode cX7_image 44 = .ok (.iconst 1, 1) := by decide +kernel
theorem dX7_image_45 : decode cX7_image 45 = .ok (.putfield 106, 3) := by decide +kernel
theorem dX7_image_48 : decode cX7_image 48 = .ok (.aload_n 0, 1) := by decide +kernel
theorem dX7_image_49 : decode cX7_image 49 = .ok (.getfield 36, 3) := by decide +kernel
theorem dX7_image_52 : decode cX7_image 52 = .ok (.getfield 180, 3) := by decide +kernel
theorem dX7_image_55 : decode cX7_image 55 = .ok (.ireturn, 1) := by decide +kernel
theorem dX7_restore_0 : decode cX7_restore 0 = .ok (.aload_n 0, 1) := by decide +kernel
theorem dX7_restore_1 : decode cX7_restore 1 = .ok (.getfield 106, 3) := by decide +kernel
theorem dX7_restore_4 : decode cX7_restore 4 = .ok (.ifCond .ne 6, 3) := by decide +kernel
theorem dX7_restore_7 : decode cX7_restore 7 = .ok (.bipush (-103), 2) := by decide +kernel
theorem dX7_restore_9 : decode cX7_restore 9 = .ok (.ireturn, 1) := by decide +kernel
theorem dX7_restore_10 : decode cX7_restore 10 = .ok (.aload_n 0, 1) := by decide +kernel
theorem dX7_restore_11 : decode cX7_restore 11 = .ok (.getfield 26, 3) := by decide +kernel
theorem dX7_restore_14 : decode cX7_restore 14 = .ok (.aload_n 0, 1) := by decide +kernel
theorem dX7_restore_15 : decode cX7_restore 15 = .ok (.getfield 30, 3) := by decide +kernel
theorem dX7_restore_18 : decode cX7_restore 18 = .ok (.invokevirtual 242, 3) := by decide +kernel
theorem dX7_restore_21 : decode cX7_restore 21 = .ok (.aload_n 0, 1) := by decide +kernel
theorem dX7_restore_22 : decode cX7_restore 22 = .ok (.getfield 36, 3) := by decide +kernel
theorem dX7_restore_25 : decode cX7_restore 25 = .ok (.aload_n 0, 1) := by decide +kernel
theorem dX7_restore_26 : decode cX7_restore 26 = .ok (.getfield 40, 3) := by decide +kernel
theorem dX7_restore_29 : decode cX7_restore 29 = .ok (.invokevirtual 231, 3) := by decide +kernel
theorem dX7_restore_32 : decode cX7_restore 32 = .ok (.aload_n 0, 1) := by decide +kernel
theorem dX7_restore_33 : decode cX7_restore 33 = .ok (.getfield 49, 3) := by decide +kernel
theorem dX7_restore_36 : decode cX7_restore 36 = .ok (.aload_n 0, 1) := by decide +kernel
theorem dX7_restore_37 : decode cX7_restore 37 = .ok (.getfield 53, 3) := by decide +kernel
theorem dX7_restore_40 : decode cX7_restore 40 = .ok (.invokevirtual 245, 3) := by decide +kernel
theorem dX7_restore_43 : decode cX7_restore 43 = .ok (.aload_n 0, 1) := by decide +kernel
theorem dX7_restore_44 : decode cX7_restore 44 = .ok (.getfield 36, 3) := by decide +kernel
theorem dX7_restore_47 : decode cX7_restore 47 = .ok (.getfield 180, 3) := by decide +kernel
theorem dX7_restore_50 : decode cX7_restore 50 = .ok (.ireturn, 1) := by decide +kernel
theorem dX7_count_0 : decode cX7_count 0 = .ok (.iload_n 1, 1) := by decide +kernel
theorem dX7_count_1 : decode cX7_count 1 = .ok (.tableswitch 150 0 11 #[63, 71, 79, 87, 95, 103, 111, 119, 124, 132, 140, 145], 63) := by decide +kernel
theorem dX7_count_64 : decode cX7_count 64 = .ok (.aload_n 0, 1) := by decide +kernel
theorem dX7_count_65 : decode cX7_count 65 = .ok (.getfield 19, 3) := by decide +kernel
theorem dX7_count_68 : decode cX7_count 68 = .ok (.getfield 248, 3) := by decide +kernel
theorem dX7_count_71 : decode cX7_count 71 = .ok (.ireturn, 1) := by decide +kernel
theorem dX7_count_72 : decode cX7_count 72 = .ok (.aload_n 0, 1) := by decide +kernel
theorem dX7_count_73 : decode cX7_count 73 = .ok (.getfield 19, 3) := by decide +kernel
theorem dX7_count_76 : decode cX7_count 76 = .ok (.getfield 149, 3) := by decide +kernel
theorem dX7_count_79 : decode cX7_count 79 = .ok (.ireturn, 1) := by decide +kernel
theorem dX7_count_80 : decode cX7_count 80 = .ok (.aload_n 0, 1) := by decide +kernel
theorem dX7_count_81 : decode cX7_count 81 = .ok (.getfield 26, 3) := by decide +kernel
theorem dX7_count_84 : decode cX7_count 84 = .ok (.getfield 113, 3) := by decide +kernel
theorem dX7_count_87 : decode cX7_count 87 = .ok (.ireturn, 1) := by decide +kernel
theorem dX7_count_88 : decode cX7_count 88 = .ok (.aload_n 0, 1) := by decide +kernel
theorem dX7_count_89 : decode cX7_count 89 = .ok (.getfield 36, 3) := by decide +kernel
theorem dX7_count_92 : decode cX7_count 92 = .ok (.getfield 171, 3) := by decide +kernel
theorem dX7_count_95 : decode cX7_count 95 = .ok (.ireturn, 1) := by decide +kernel
theorem dX7_count_96 : decode cX7_count 96 = .ok (.aload_n 0, 1) := by decide +kernel
theorem dX7_count_97 : decode cX7_count 97 = .ok (.getfield 36, 3) := by decide +kernel
theorem dX7_count_100 : decode cX7_count 100 = .ok (.getfield 180, 3) := by decide +kernel
theorem dX7_count_103 : decode cX7_count 103 = .ok (.ireturn, 1) := by decide +kernel
theorem dX7_count_104 : decode cX7_count 104 = .ok (.aload_n 0, 1) := by decide +kernel
theorem dX7_count_105 : decode cX7_count 105 = .ok (.getfield 36, 3) := by decide +kernel
theorem dX7_count_108 : decode cX7_count 108 = .ok (.invokevirtual 239, 3) := by decide +kernel
theorem dX7_count_111 : decode cX7_count 111 = .ok (.ireturn, 1) := by decide +kernel
theorem dX7_count_112 : decode cX7_count 112 = .ok (.aload_n 0, 1) := by decide +kernel
theorem dX7_count_113 : decode cX7_count 113 = .ok (.getfield 36, 3) := by decide +kernel
theorem dX7_count_116 : decode cX7_count 116 = .ok (.invokevirtual 251, 3) := by decide +kernel
theorem dX7_count_119 : decode cX7_count 119 = .ok (.ireturn, 1) := by decide +kernel
theorem dX7_count_120 : decode cX7_count 120 = .ok (.aload_n 0, 1) := by decide +kernel
theorem dX7_count_121 : decode cX7_count 121 = .ok (.invokevirtual 254, 3) := by decide +kernel
theorem dX7_count_124 : decode cX7_count 124 = .ok (.ireturn, 1) := by decide +kernel
theorem dX7_count_125 : decode cX7_count 125 = .ok (.aload_n 0, 1) := by decide +kernel
theorem dX7_count_126 : decode cX7_count 126 = .ok (.getfield 49, 3) := by decide +kernel
theorem dX7_count_129 : decode cX7_count 129 = .ok (.getfield 105, 3) := by decide +kernel
theorem dX7_count_132 : decode cX7_count 132 = .ok (.ireturn, 1) := by decide +kernel
theorem dX7_count_133 : decode cX7_count 133 = .ok (.aload_n 0, 1) := by decide +kernel
theorem dX7_count_134 : decode cX7_count 134 = .ok (.getfield 10, 3) := by decide +kernel
theorem dX7_count_137 : decode cX7_count 137 = .ok (.getfield 74, 3) := by decide +kernel
theorem dX7_count_140 : decode cX7_count 140 = .ok (.ireturn, 1) := by decide +kernel
theorem dX7_count_141 : decode cX7_count 141 = .ok (.aload_n 0, 1) := by decide +kernel
theorem dX7_count_142 : decode cX7_count 142 = .ok (.getfield 110, 3) := by decide +kernel
theorem dX7_count_145 : decode cX7_count 145 = .ok (.ireturn, 1) := by decide +kernel
theorem dX7_count_146 : decode cX7_count 146 = .ok (.aload_n 0, 1) := by decide +kernel
theorem dX7_count_147 : decode cX7_count 147 = .ok (.getfield 193, 3) := by decide +kernel
theorem dX7_count_150 : decode cX7_count 150 = .ok (.ireturn, 1) := by decide +kernel
theorem dX7_count_151 : decode cX7_count 151 = .ok (.bipush (-102), 2) := by decide +kernel
theorem dX7_count_153 : decode cX7_count 153 = .ok (.ireturn, 1) := by decide +kernel
theorem dX7_digest_0 : decode cX7_digest 0 = .ok (.aload_n 0, 1) := by decide +kernel
theorem dX7_digest_1 : decode cX7_digest 1 = .ok (.ldc2_w 257, 3) := by decide +kernel
theorem dX7_digest_4 : decode cX7_digest 4 = .ok (.invokevirtual 259, 3) := by decide +kernel
theorem dX7_digest_7 : decode cX7_digest 7 = .ok (.lstore_n 1, 1) := by decide +kernel
theorem dX7_digest_8 : decode cX7_digest 8 = .ok (.aload_n 0, 1) := by decide +kernel
theorem dX7_digest_9 : decode cX7_digest 9 = .ok (.lload_n 1, 1) := by decide +kernel
theorem dX7_digest_10 : decode cX7_digest 10 = .ok (.invokevirtual 263, 3) := by decide +kernel
theorem dX7_digest_13 : decode cX7_digest 13 = .ok (.lstore_n 1, 1) := by decide +kernel
theorem dX7_digest_14 : decode cX7_digest 14 = .ok (.aload_n 0, 1) := by decide +kernel
theorem dX7_digest_15 : decode cX7_digest 15 = .ok (.invokevirtual 190, 3) := by decide +kernel
theorem dX7_digest_18 : decode cX7_digest 18 = .ok (.ifCond .eq 21, 3) := by decide +kernel
theorem dX7_digest_21 : decode cX7_digest 21 = .ok (.lload_n 1, 1) := by decide +kernel
theorem dX7_digest_22 : decode cX7_digest 22 = .ok (.aload_n 0, 1) := by decide +kernel
theorem dX7_digest_23 : decode cX7_digest 23 = .ok (.invokevirtual 266, 3) := by decide +kernel
theorem dX7_digest_26 : decode cX7_digest 26 = .ok (.i2l, 1) := by decide +kernel
theorem dX7_digest_27 : decode cX7_digest 27 = .ok (.invokestatic 269, 3) := by decide +kernel
theorem dX7_digest_30 : decode cX7_digest 30 = .ok (.aload_n 0, 1) := by decide +kernel
theorem dX7_digest_31 : decode cX7_digest 31 = .ok (.invokevirtual 273, 3) := by decide +kernel
theorem dX7_digest_34 : decode cX7_digest 34 = .ok (.i2l, 1) := by decide +kernel
theorem dX7_digest_35 : decode cX7_digest 35 = .ok (.invokestatic 269, 3) := by decide +kernel
theorem dX7_digest_38 : decode cX7_digest 38 = .ok (.lstore_n 1, 1) := by decide +kernel
theorem dX7_digest_39 : decode cX7_digest 39 = .ok (.iconst 0, 1) := by decide +kernel
theorem dX7_digest_40 : decode cX7_digest 40 = .ok (.istore_n 3, 1) := by decide +kernel
theorem dX7_digest_41 : decode cX7_digest 41 = .ok (.iload_n 3, 1) := by decide +kernel
theorem dX7_digest_42 : decode cX7_digest 42 = .ok (.aload_n 0, 1) := by decide +kernel
theorem dX7_digest_43 : decode cX7_digest 43 = .ok (.getfield 10, 3) := by decide +kernel
theorem dX7_digest_46 : decode cX7_digest 46 = .ok (.getfield 74, 3) := by decide +kernel
theorem dX7_digest_49 : decode cX7_digest 49 = .ok (.if_icmp .ge 24, 3) := by decide +kernel
theorem dX7_digest_52 : decode cX7_digest 52 = .ok (.lload_n 1, 1) := by decide +kernel
theorem dX7_digest_53 : decode cX7_digest 53 = .ok (.aload_n 0, 1) := by decide +kernel
theorem dX7_digest_54 : decode cX7_digest 54 = .ok (.getfield 10, 3) := by decide +kernel
theorem dX7_digest_57 : decode cX7_digest 57 = .ok (.getfield 78, 3) := by decide +kernel
theorem dX7_digest_60 : decode cX7_digest 60 = .ok (.iload_n 3, 1) := by decide +kernel
theorem dX7_digest_61 : decode cX7_digest 61 = .ok (.iaload, 1) := by decide +kernel
theorem dX7_digest_62 : decode cX7_digest 62 = .ok (.i2l, 1) := by decide +kernel
theorem dX7_digest_63 : decode cX7_digest 63 = .ok (.invokestatic 269, 3) := by decide +kernel
theorem dX7_digest_66 : decode cX7_digest 66 = .ok (.lstore_n 1, 1) := by decide +kernel
theorem dX7_digest_67 : decode cX7_digest 67 = .ok (.iinc 3 1, 3) := by decide +kernel
theorem dX7_digest_70 : decode cX7_digest 70 = .ok (.goto (-29), 3) := by decide +kernel
theorem dX7_digest_73 : decode cX7_digest 73 = .ok (.iconst 0, 1) := by decide +kernel
theorem dX7_digest_74 : decode cX7_digest 74 = .ok (.istore_n 3, 1) := by decide +kernel
theorem dX7_digest_75 : decode cX7_digest 75 = .ok (.iload_n 3, 1) := by decide +kernel
theorem dX7_digest_76 : decode cX7_digest 76 = .ok (.bipush 12, 2) := by decide +kernel
theorem dX7_digest_78 : decode cX7_digest 78 = .ok (.if_icmp .ge 20, 3) := by decide +kernel
theorem dX7_digest_81 : decode cX7_digest 81 = .ok (.lload_n 1, 1) := by decide +kernel
theorem dX7_digest_82 : decode cX7_digest 82 = .ok (.aload_n 0, 1) := by decide +kernel
theorem dX7_digest_83 : decode cX7_digest 83 = .ok (.iload_n 3, 1) := by decide +kernel
theorem dX7_digest_84 : decode cX7_digest 84 = .ok (.invokevirtual 276, 3) := by decide +kernel
theorem dX7_digest_87 : decode cX7_digest 87 = .ok (.i2l, 1) := by decide +kernel
theorem dX7_digest_88 : decode cX7_digest 88 = .ok (.invokestatic 269, 3) := by decide +kernel
theorem dX7_digest_91 : decode cX7_digest 91 = .ok (.lstore_n 1, 1) := by decide +kernel
theorem dX7_digest_92 : decode cX7_digest 92 = .ok (.iinc 3 1, 3) := by decide +kernel
theorem dX7_digest_95 : decode cX7_digest 95 = .ok (.goto (-20), 3) := by decide +kernel
theorem dX7_digest_98 : decode cX7_digest 98 = .ok (.lload_n 1, 1) := by decide +kernel
theorem dX7_digest_99 : decode cX7_digest 99 = .ok (.lreturn, 1) := by decide +kernel
theorem dX7_digestOfPeople_0 : decode cX7_digestOfPeople 0 = .ok (.lload_n 1, 1) := by decide +kernel
theorem dX7_digestOfPeople_1 : decode cX7_digestOfPeople 1 = .ok (.lstore_n 3, 1) := by decide +kernel
theorem dX7_digestOfPeople_2 : decode cX7_digestOfPeople 2 = .ok (.iconst 0, 1) := by decide +kernel
theorem dX7_digestOfPeople_3 : decode cX7_digestOfPeople 3 = .ok (.istore 5, 2) := by decide +kernel
theorem dX7_digestOfPeople_5 : decode cX7_digestOfPeople 5 = .ok (.iload 5, 2) := by decide +kernel
theorem dX7_digestOfPeople_7 : decode cX7_digestOfPeople 7 = .ok (.aload_n 0, 1) := by decide +kernel
theorem dX7_digestOfPeople_8 : decode cX7_digestOfPeople 8 = .ok (.getfield 26, 3) := by decide +kernel
theorem dX7_digestOfPeople_11 : decode cX7_digestOfPeople 11 = .ok (.getfield 113, 3) := by decide +kernel
theorem dX7_digestOfPeople_14 : decode cX7_digestOfPeople 14 = .ok (.if_icmp .ge 65, 3) := by decide +kernel
theorem dX7_digestOfPeople_17 : decode cX7_digestOfPeople 17 = .ok (.iconst 0, 1) := by decide +kernel
theorem dX7_digestOfPeople_18 : decode cX7_digestOfPeople 18 = .ok (.istore 6, 2) := by decide +kernel
theorem dX7_digestOfPeople_20 : decode cX7_digestOfPeople 20 = .ok (.iload 6, 2) := by decide +kernel
theorem dX7_digestOfPeople_22 : decode cX7_digestOfPeople 22 = .ok (.bipush 9, 2) := by decide +kernel
theorem dX7_digestOfPeople_24 : decode cX7_digestOfPeople 24 = .ok (.if_icmp .ge 23, 3) := by decide +kernel
theorem dX7_digestOfPeople_27 : decode cX7_digestOfPeople 27 = .ok (.lload_n 3, 1) := by decide +kernel
theorem dX7_digestOfPeople_28 : decode cX7_digestOfPeople 28 = .ok (.aload_n 0, 1) := by decide +kernel
theorem dX7_digestOfPeople_29 : decode cX7_digestOfPeople 29 = .ok (.iload 5, 2) := by decide +kernel
theorem dX7_digestOfPeople_31 : decode cX7_digestOfPeople 31 = .ok (.iload 6, 2) := by decide +kernel
theorem dX7_digestOfPeople_33 : decode cX7_digestOfPeople 33 = .ok (.invokevirtual 279, 3) := by decide +kernel
theorem dX7_digestOfPeople_36 : decode cX7_digestOfPeople 36 = .ok (.i2l, 1) := by decide +kernel
theorem dX7_digestOfPeople_37 : decode cX7_digestOfPeople 37 = .ok (.invokestatic 269, 3) := by decide +kernel
theorem dX7_digestOfPeople_40 : decode cX7_digestOfPeople 40 = .ok (.lstore_n 3, 1) := by decide +kernel
theorem dX7_digestOfPeople_41 : decode cX7_digestOfPeople 41 = .ok (.iinc 6 1, 3) := by decide +kernel
theorem dX7_digestOfPeople_44 : decode cX7_digestOfPeople 44 = .ok (.goto (-24), 3) := by decide +kernel
theorem dX7_digestOfPeople_47 : decode cX7_digestOfPeople 47 = .ok (.lload_n 3, 1) := by decide +kernel
theorem dX7_digestOfPeople_48 : decode cX7_digestOfPeople 48 = .ok (.aload_n 0, 1) := by decide +kernel
theorem dX7_digestOfPeople_49 : decode cX7_digestOfPeople 49 = .ok (.iload 5, 2) := by decide +kernel
theorem dX7_digestOfPeople_51 : decode cX7_digestOfPeople 51 = .ok (.iconst 2, 1) := by decide +kernel
theorem dX7_digestOfPeople_52 : decode cX7_digestOfPeople 52 = .ok (.iconst 0, 1) := by decide +kernel
theorem dX7_digestOfPeople_53 : decode cX7_digestOfPeople 53 = .ok (.invokevirtual 282, 3) := by decide +kernel
theorem dX7_digestOfPeople_56 : decode cX7_digestOfPeople 56 = .ok (.i2l, 1) := by decide +kernel
theorem dX7_digestOfPeople_57 : decode cX7_digestOfPeople 57 = .ok (.invokestatic 269, 3) := by decide +kernel
theorem dX7_digestOfPeople_60 : decode cX7_digestOfPeople 60 = .ok (.aload_n 0, 1) := by decide +kernel
theorem dX7_digestOfPeople_61 : decode cX7_digestOfPeople 61 = .ok (.iload 5, 2) := by decide +kernel
theorem dX7_digestOfPeople_63 : decode cX7_digestOfPeople 63 = .ok (.iconst 2, 1) := by decide +kernel
theorem dX7_digestOfPeople_64 : decode cX7_digestOfPeople 64 = .ok (.iconst 1, 1) := by decide +kernel
theorem dX7_digestOfPeople_65 : decode cX7_digestOfPeople 65 = .ok (.invokevirtual 282, 3) := by decide +kernel
theorem dX7_digestOfPeople_68 : decode cX7_digestOfPeople 68 = .ok (.i2l, 1) := by decide +kernel
theorem dX7_digestOfPeople_69 : decode cX7_digestOfPeople 69 = .ok (.invokestatic 269, 3) := by decide +kernel
theorem dX7_digestOfPeople_72 : decode cX7_digestOfPeople 72 = .ok (.lstore_n 3, 1) := by decide +kernel
theorem dX7_digestOfPeople_73 : decode cX7_digestOfPeople 73 = .ok (.iinc 5 1, 3) := by decide +kernel
theorem dX7_digestOfPeople_76 : decode cX7_digestOfPeople 76 = .ok (.goto (-71), 3) := by decide +kernel
theorem dX7_digestOfPeople_79 : decode cX7_digestOfPeople 79 = .ok (.lload_n 3, 1) := by decide +kernel
theorem dX7_digestOfPeople_80 : decode cX7_digestOfPeople 80 = .ok (.lreturn, 1) := by decide +kernel
theorem dX7_digestOfStreets_0 : decode cX7_digestOfStreets 0 = .ok (.lload_n 1, 1) := by decide +kernel
theorem dX7_digestOfStreets_1 : decode cX7_digestOfStreets 1 = .ok (.lstore_n 3, 1) := by decide +kernel
theorem dX7_digestOfStreets_2 : decode cX7_digestOfStreets 2 = .ok (.iconst 0, 1) := by decide +kernel
theorem dX7_digestOfStreets_3 : decode cX7_digestOfStreets 3 = .ok (.istore 5, 2) := by decide +kernel
theorem dX7_digestOfStreets_5 : decode cX7_digestOfStreets 5 = .ok (.iload 5, 2) := by decide +kernel
theorem dX7_digestOfStreets_7 : decode cX7_digestOfStreets 7 = .ok (.aload_n 0, 1) := by decide +kernel
theorem dX7_digestOfStreets_8 : decode cX7_digestOfStreets 8 = .ok (.getfield 19, 3) := by decide +kernel
theorem dX7_digestOfStreets_11 : decode cX7_digestOfStreets 11 = .ok (.getfield 149, 3) := by decide +kernel
theorem dX7_digestOfStreets_14 : decode cX7_digestOfStreets 14 = .ok (.if_icmp .ge 38, 3) := by decide +kernel
theorem dX7_digestOfStreets_17 : decode cX7_digestOfStreets 17 = .ok (.iconst 0, 1) := by decide +kernel
theorem dX7_digestOfStreets_18 : decode cX7_digestOfStreets 18 = .ok (.istore 6, 2) := by decide +kernel
theorem dX7_digestOfStreets_20 : decode cX7_digestOfStreets 20 = .ok (.iload 6, 2) := by decide +kernel
theorem dX7_digestOfStreets_22 : decode cX7_digestOfStreets 22 = .ok (.iconst 2, 1) := by decide +kernel
theorem dX7_digestOfStreets_23 : decode cX7_digestOfStreets 23 = .ok (.if_icmp .ge 23, 3) := by decide +kernel
theorem dX7_digestOfStreets_26 : decode cX7_digestOfStreets 26 = .ok (.lload_n 3, 1) := by decide +kernel
theorem dX7_digestOfStreets_27 : decode cX7_digestOfStreets 27 = .ok (.aload_n 0, 1) := by decide +kernel
theorem dX7_digestOfStreets_28 : decode cX7_digestOfStreets 28 = .ok (.iload 5, 2) := by decide +kernel
theorem dX7_digestOfStreets_30 : decode cX7_digestOfStreets 30 = .ok (.iload 6, 2) := by decide +kernel
theorem dX7_digestOfStreets_32 : decode cX7_digestOfStreets 32 = .ok (.invokevirtual 286, 3) := by decide +kernel
theorem dX7_digestOfStreets_35 : decode cX7_digestOfStreets 35 = .ok (.i2l, 1) := by decide +kernel
theorem dX7_digestOfStreets_36 : decode cX7_digestOfStreets 36 = .ok (.invokestatic 269, 3) := by decide +kernel
theorem dX7_digestOfStreets_39 : decode cX7_digestOfStreets 39 = .ok (.lstore_n 3, 1) := by decide +kernel
theorem dX7_digestOfStreets_40 : decode cX7_digestOfStreets 40 = .ok (.iinc 6 1, 3) := by decide +kernel
theorem dX7_digestOfStreets_43 : decode cX7_digestOfStreets 43 = .ok (.goto (-23), 3) := by decide +kernel
theorem dX7_digestOfStreets_46 : decode cX7_digestOfStreets 46 = .ok (.iinc 5 1, 3) := by decide +kernel
theorem dX7_digestOfStreets_49 : decode cX7_digestOfStreets 49 = .ok (.goto (-44), 3) := by decide +kernel
theorem dX7_digestOfStreets_52 : decode cX7_digestOfStreets 52 = .ok (.iconst 0, 1) := by decide +kernel
theorem dX7_digestOfStreets_53 : decode cX7_digestOfStreets 53 = .ok (.istore 5, 2) := by decide +kernel
theorem dX7_digestOfStreets_55 : decode cX7_digestOfStreets 55 = .ok (.iload 5, 2) := by decide +kernel
theorem dX7_digestOfStreets_57 : decode cX7_digestOfStreets 57 = .ok (.aload_n 0, 1) := by decide +kernel
theorem dX7_digestOfStreets_58 : decode cX7_digestOfStreets 58 = .ok (.getfield 19, 3) := by decide +kernel
theorem dX7_digestOfStreets_61 : decode cX7_digestOfStreets 61 = .ok (.getfield 248, 3) := by decide +kernel
theorem dX7_digestOfStreets_64 : decode cX7_digestOfStreets 64 = .ok (.if_icmp .ge 38, 3) := by decide +kernel
theorem dX7_digestOfStreets_67 : decode cX7_digestOfStreets 67 = .ok (.iconst 0, 1) := by decide +kernel
theorem dX7_digestOfStreets_68 : decode cX7_digestOfStreets 68 = .ok (.istore 6, 2) := by decide +kernel
theorem dX7_digestOfStreets_70 : decode cX7_digestOfStreets 70 = .ok (.iload 6, 2) := by decide +kernel
theorem dX7_digestOfStreets_72 : decode cX7_digestOfStreets 72 = .ok (.iconst 4, 1) := by decide +kernel
theorem dX7_digestOfStreets_73 : decode cX7_digestOfStreets 73 = .ok (.if_icmp .ge 23, 3) := by decide +kernel
theorem dX7_digestOfStreets_76 : decode cX7_digestOfStreets 76 = .ok (.lload_n 3, 1) := by decide +kernel
theorem dX7_digestOfStreets_77 : decode cX7_digestOfStreets 77 = .ok (.aload_n 0, 1) := by decide +kernel
theorem dX7_digestOfStreets_78 : decode cX7_digestOfStreets 78 = .ok (.iload 5, 2) := by decide +kernel
theorem dX7_digestOfStreets_80 : decode cX7_digestOfStreets 80 = .ok (.iload 6, 2) := by decide +kernel
theorem dX7_digestOfStreets_82 : decode cX7_digestOfStreets 82 = .ok (.invokevirtual 289, 3) := by decide +kernel
theorem dX7_digestOfStreets_85 : decode cX7_digestOfStreets 85 = .ok (.i2l, 1) := by decide +kernel
theorem dX7_digestOfStreets_86 : decode cX7_digestOfStreets 86 = .ok (.invokestatic 269, 3) := by decide +kernel
theorem dX7_digestOfStreets_89 : decode cX7_digestOfStreets 89 = .ok (.lstore_n 3, 1) := by decide +kernel
theorem dX7_digestOfStreets_90 : decode cX7_digestOfStreets 90 = .ok (.iinc 6 1, 3) := by decide +kernel
theorem dX7_digestOfStreets_93 : decode cX7_digestOfStreets 93 = .ok (.goto (-23), 3) := by decide +kernel
theorem dX7_digestOfStreets_96 : decode cX7_digestOfStreets 96 = .ok (.iinc 5 1, 3) := by decide +kernel
theorem dX7_digestOfStreets_99 : decode cX7_digestOfStreets 99 = .ok (.goto (-44), 3) := by decide +kernel
theorem dX7_digestOfStreets_102 : decode cX7_digestOfStreets 102 = .ok (.lload_n 3, 1) := by decide +kernel
theorem dX7_digestOfStreets_103 : decode cX7_digestOfStreets 103 = .ok (.lreturn, 1) := by decide +kernel
theorem dX7_hasSuburb_0 : decode cX7_hasSuburb 0 = .ok (.aload_n 0, 1) := by decide +kernel
theorem dX7_hasSuburb_1 : decode cX7_hasSuburb 1 = .ok (.getfield 110, 3) := by decide +kernel
theorem dX7_hasSuburb_4 : decode cX7_hasSuburb 4 = .ok (.ifCond .le 7, 3) := by decide +kernel
theorem dX7_hasSuburb_7 : decode cX7_hasSuburb 7 = .ok (.iconst 1, 1) := by decide +kernel
theorem dX7_hasSuburb_8 : decode cX7_hasSuburb 8 = .ok (.goto 4, 3) := by decide +kernel
theorem dX7_hasSuburb_11 : decode cX7_hasSuburb 11 = .ok (.iconst 0, 1) := by decide +kernel
theorem dX7_hasSuburb_12 : decode cX7_hasSuburb 12 = .ok (.ireturn, 1) := by decide +kernel
theorem dX7_isPerson_0 : decode cX7_isPerson 0 = .ok (.iload_n 1, 1) := by decide +kernel
theorem dX7_isPerson_1 : decode cX7_isPerson 1 = .ok (.iconst 0, 1) := by decide +kernel
theorem dX7_isPerson_2 : decode cX7_isPerson 2 = .ok (.aload_n 0, 1) := by decide +kernel
theorem dX7_isPerson_3 : decode cX7_isPerson 3 = .ok (.getfield 26, 3) := by decide +kernel
theorem dX7_isPerson_6 : decode cX7_isPerson 6 = .ok (.getfield 113, 3) := by decide +kernel
theorem dX7_isPerson_9 : decode cX7_isPerson 9 = .ok (.iconst 1, 1) := by decide +kernel
theorem dX7_isPerson_10 : decode cX7_isPerson 10 = .ok (.isub, 1) := by decide +kernel
theorem dX7_isPerson_11 : decode cX7_isPerson 11 = .ok (.invokestatic 70, 3) := by decide +kernel
theorem dX7_isPerson_14 : decode cX7_isPerson 14 = .ok (.ireturn, 1) := by decide +kernel
theorem dX7_isCorner_0 : decode cX7_isCorner 0 = .ok (.iload_n 1, 1) := by decide +kernel
theorem dX7_isCorner_1 : decode cX7_isCorner 1 = .ok (.iconst 0, 1) := by decide +kernel
theorem dX7_isCorner_2 : decode cX7_isCorner 2 = .ok (.aload_n 0, 1) := by decide +kernel
theorem dX7_isCorner_3 : decode cX7_isCorner 3 = .ok (.getfield 19, 3) := by decide +kernel
theorem dX7_isCorner_6 : decode cX7_isCorner 6 = .ok (.getfield 248, 3) := by decide +kernel
theorem dX7_isCorner_9 : decode cX7_isCorner 9 = .ok (.iconst 1, 1) := by decide +kernel
theorem dX7_isCorner_10 : decode cX7_isCorner 10 = .ok (.isub, 1) := by decide +kernel
theorem dX7_isCorner_11 : decode cX7_isCorner 11 = .ok (.invokestatic 70, 3) := by decide +kernel
theorem dX7_isCorner_14 : decode cX7_isCorner 14 = .ok (.ireturn, 1) := by decide +kernel
theorem dX7_hearsVan_0 : decode cX7_hearsVan 0 = .ok (.aload_n 0, 1) := by decide +kernel
theorem dX7_hearsVan_1 : decode cX7_hearsVan 1 = .ok (.iload_n 1, 1) := by decide +kernel
theorem dX7_hearsVan_2 : decode cX7_hearsVan 2 = .ok (.invokevirtual 292, 3) := by decide +kernel
theorem dX7_hearsVan_5 : decode cX7_hearsVan 5 = .ok (.aload_n 0, 1) := by decide +kernel
theorem dX7_hearsVan_6 : decode cX7_hearsVan 6 = .ok (.getfield 36, 3) := by decide +kernel
theorem dX7_hearsVan_9 : decode cX7_hearsVan 9 = .ok (.getfield 171, 3) := by decide +kernel
theorem dX7_hearsVan_12 : decode cX7_hearsVan 12 = .ok (.invokestatic 177, 3) := by decide +kernel
theorem dX7_hearsVan_15 : decode cX7_hearsVan 15 = .ok (.ireturn, 1) := by decide +kernel
theorem dX7_earshot_0 : decode cX7_earshot 0 = .ok (.iconst 0, 1) := by decide +kernel
theorem dX7_earshot_1 : decode cX7_earshot 1 = .ok (.istore_n 2, 1) := by decide +kernel
theorem dX7_earshot_2 : decode cX7_earshot 2 = .ok (.aload_n 0, 1) := by decide +kernel
theorem dX7_earshot_3 : decode cX7_earshot 3 = .ok (.getfield 26, 3) := by decide +kernel
theorem dX7_earshot_6 : decode cX7_earshot 6 = .ok (.getfield 121, 3) := by decide +kernel
theorem dX7_earshot_9 : decode cX7_earshot 9 = .ok (.iload_n 1, 1) := by decide +kernel
theorem dX7_earshot_10 : decode cX7_earshot 10 = .ok (.iaload, 1) := by decide +kernel
theorem dX7_earshot_11 : decode cX7_earshot 11 = .ok (.istore_n 3, 1) := by decide +kernel
theorem dX7_earshot_12 : decode cX7_earshot 12 = .ok (.iconst 0, 1) := by decide +kernel
theorem dX7_earshot_13 : decode cX7_earshot 13 = .ok (.istore 4, 2) := by decide +kernel
theorem dX7_earshot_15 : decode cX7_earshot 15 = .ok (.iload 4, 2) := by decide +kernel
theorem dX7_earshot_17 : decode cX7_earshot 17 = .ok (.aload_n 0, 1) := by decide +kernel
theorem dX7_earshot_18 : decode cX7_earshot 18 = .ok (.getfield 19, 3) := by decide +kernel
theorem dX7_earshot_21 : decode cX7_earshot 21 = .ok (.getfield 248, 3) := by decide +kernel
theorem dX7_earshot_24 : decode cX7_earshot 24 = .ok (.if_icmp .ge 50, 3) := by decide +kernel
theorem dX7_earshot_27 : decode cX7_earshot 27 = .ok (.aload_n 0, 1) := by decide +kernel
theorem dX7_earshot_28 : decode cX7_earshot 28 = .ok (.getfield 19, 3) := by decide +kernel
theorem dX7_earshot_31 : decode cX7_earshot 31 = .ok (.getfield 167, 3) := by decide +kernel
theorem dX7_earshot_34 : decode cX7_earshot 34 = .ok (.iload_n 3, 1) := by decide +kernel
theorem dX7_earshot_35 : decode cX7_earshot 35 = .ok (.aaload, 1) := by decide +kernel
theorem dX7_earshot_36 : decode cX7_earshot 36 = .ok (.iload 4, 2) := by decide +kernel
theorem dX7_earshot_38 : decode cX7_earshot 38 = .ok (.iaload, 1) := by decide +kernel
theorem dX7_earshot_39 : decode cX7_earshot 39 = .ok (.istore 5, 2) := by decide +kernel
theorem dX7_earshot_41 : decode cX7_earshot 41 = .ok (.iload 5, 2) := by decide +kernel
theorem dX7_earshot_43 : decode cX7_earshot 43 = .ok (.iconst (-1), 1) := by decide +kernel
theorem dX7_earshot_44 : decode cX7_earshot 44 = .ok (.if_icmp .eq 24, 3) := by decide +kernel
theorem dX7_earshot_47 : decode cX7_earshot 47 = .ok (.iload 5, 2) := by decide +kernel
theorem dX7_earshot_49 : decode cX7_earshot 49 = .ok (.aload_n 0, 1) := by decide +kernel
theorem dX7_earshot_50 : decode cX7_earshot 50 = .ok (.getfield 26, 3) := by decide +kernel
theorem dX7_earshot_53 : decode cX7_earshot 53 = .ok (.getfield 127, 3) := by decide +kernel
theorem dX7_earshot_56 : decode cX7_earshot 56 = .ok (.iload_n 1, 1) := by decide +kernel
theorem dX7_earshot_57 : decode cX7_earshot 57 = .ok (.iaload, 1) := by decide +kernel
theorem dX7_earshot_58 : decode cX7_earshot 58 = .ok (.if_icmp .gt 10, 3) := by decide +kernel
theorem dX7_earshot_61 : decode cX7_earshot 61 = .ok (.iload_n 2, 1) := by decide +kernel
theorem dX7_earshot_62 : decode cX7_earshot 62 = .ok (.iconst 1, 1) := by decide +kernel
theorem dX7_earshot_63 : decode cX7_earshot 63 = .ok (.iload 4, 2) := by decide +kernel
theorem dX7_earshot_65 : decode cX7_earshot 65 = .ok (.ishl, 1) := by decide +kernel
theorem dX7_earshot_66 : decode cX7_earshot 66 = .ok (.ior, 1) := by decide +kernel
theorem dX7_earshot_67 : decode cX7_earshot 67 = .ok (.istore_n 2, 1) := by decide +kernel
theorem dX7_earshot_68 : decode cX7_earshot 68 = .ok (.iinc 4 1, 3) := by decide +kernel
theorem dX7_earshot_71 : decode cX7_earshot 71 = .ok (.goto (-56), 3) := by decide +kernel
theorem dX7_earshot_74 : decode cX7_earshot 74 = .ok (.iload_n 2, 1) := by decide +kernel
theorem dX7_earshot_75 : decode cX7_earshot 75 = .ok (.ireturn, 1) := by decide +kernel
theorem dX7_hearersNumber_0 : decode cX7_hearersNumber 0 = .ok (.iconst 0, 1) := by decide +kernel
theorem dX7_hearersNumber_1 : decode cX7_hearersNumber 1 = .ok (.istore_n 1, 1) := by decide +kernel
theorem dX7_hearersNumber_2 : decode cX7_hearersNumber 2 = .ok (.iconst 0, 1) := by decide +kernel
theorem dX7_hearersNumber_3 : decode cX7_hearersNumber 3 = .ok (.istore_n 2, 1) := by decide +kernel
theorem dX7_hearersNumber_4 : decode cX7_hearersNumber 4 = .ok (.iload_n 2, 1) := by decide +kernel
theorem dX7_hearersNumber_5 : decode cX7_hearersNumber 5 = .ok (.aload_n 0, 1) := by decide +kernel
theorem dX7_hearersNumber_6 : decode cX7_hearersNumber 6 = .ok (.getfield 26, 3) := by decide +kernel
theorem dX7_hearersNumber_9 : decode cX7_hearersNumber 9 = .ok (.getfield 113, 3) := by decide +kernel
theorem dX7_hearersNumber_12 : decode cX7_hearersNumber 12 = .ok (.if_icmp .ge 25, 3) := by decide +kernel
theorem dX7_hearersNumber_15 : decode cX7_hearersNumber 15 = .ok (.iload_n 1, 1) := by decide +kernel
theorem dX7_hearersNumber_16 : decode cX7_hearersNumber 16 = .ok (.aload_n 0, 1) := by decide +kernel
theorem dX7_hearersNumber_17 : decode cX7_hearersNumber 17 = .ok (.iload_n 2, 1) := by decide +kernel
theorem dX7_hearersNumber_18 : decode cX7_hearersNumber 18 = .ok (.invokevirtual 139, 3) := by decide +kernel
theorem dX7_hearersNumber_21 : decode cX7_hearersNumber 21 = .ok (.ifCond .eq 7, 3) := by decide +kernel
theorem dX7_hearersNumber_24 : decode cX7_hearersNumber 24 = .ok (.iconst 1, 1) := by decide +kernel
theorem dX7_hearersNumber_25 : decode cX7_hearersNumber 25 = .ok (.goto 4, 3) := by decide +kernel
theorem dX7_hearersNumber_28 : decode cX7_hearersNumber 28 = .ok (.iconst 0, 1) := by decide +kernel
theorem dX7_hearersNumber_29 : decode cX7_hearersNumber 29 = .ok (.iadd, 1) := by decide +kernel
theorem dX7_hearersNumber_30 : decode cX7_hearersNumber 30 = .ok (.istore_n 1, 1) := by decide +kernel
theorem dX7_hearersNumber_31 : decode cX7_hearersNumber 31 = .ok (.iinc 2 1, 3) := by decide +kernel
theorem dX7_hearersNumber_34 : decode cX7_hearersNumber 34 = .ok (.goto (-30), 3) := by decide +kernel
theorem dX7_hearersNumber_37 : decode cX7_hearersNumber 37 = .ok (.iload_n 1, 1) := by decide +kernel
theorem dX7_hearersNumber_38 : decode cX7_hearersNumber 38 = .ok (.ireturn, 1) := by decide +kernel
theorem dX7_soonest_0 : decode cX7_soonest 0 = .ok (.aload_n 0, 1) := by decide +kernel
theorem dX7_soonest_1 : decode cX7_soonest 1 = .ok (.getfield 36, 3) := by decide +kernel
theorem dX7_soonest_4 : decode cX7_soonest 4 = .ok (.iload_n 1, 1) := by decide +kernel
theorem dX7_soonest_5 : decode cX7_soonest 5 = .ok (.invokevirtual 130, 3) := by decide +kernel
theorem dX7_soonest_8 : decode cX7_soonest 8 = .ok (.ifCond .eq 5, 3) := by decide +kernel
theorem dX7_soonest_11 : decode cX7_soonest 11 = .ok (.iconst 0, 1) := by decide +kernel
theorem dX7_soonest_12 : decode cX7_soonest 12 = .ok (.ireturn, 1) := by decide +kernel
theorem dX7_soonest_13 : decode cX7_soonest 13 = .ok (.aload_n 0, 1) := by decide +kernel
theorem dX7_soonest_14 : decode cX7_soonest 14 = .ok (.getfield 19, 3) := by decide +kernel
theorem dX7_soonest_17 : decode cX7_soonest 17 = .ok (.getfield 167, 3) := by decide +kernel
theorem dX7_soonest_20 : decode cX7_soonest 20 = .ok (.aload_n 0, 1) := by decide +kernel
theorem dX7_soonest_21 : decode cX7_soonest 21 = .ok (.getfield 36, 3) := by decide +kernel
theorem dX7_soonest_24 : decode cX7_soonest 24 = .ok (.getfield 171, 3) := by decide +kernel
theorem dX7_soonest_27 : decode cX7_soonest 27 = .ok (.aaload, 1) := by decide +kernel
theorem dX7_soonest_28 : decode cX7_soonest 28 = .ok (.aload_n 0, 1) := by decide +kernel
theorem dX7_soonest_29 : decode cX7_soonest 29 = .ok (.getfield 26, 3) := by decide +kernel
theorem dX7_soonest_32 : decode cX7_soonest 32 = .ok (.getfield 121, 3) := by decide +kernel
theorem dX7_soonest_35 : decode cX7_soonest 35 = .ok (.iload_n 1, 1) := by decide +kernel
theorem dX7_soonest_36 : decode cX7_soonest 36 = .ok (.iaload, 1) := by decide +kernel
theorem dX7_soonest_37 : decode cX7_soonest 37 = .ok (.iaload, 1) := by decide +kernel
theorem dX7_soonest_38 : decode cX7_soonest 38 = .ok (.istore_n 2, 1) := by decide +kernel
theorem dX7_soonest_39 : decode cX7_soonest 39 = .ok (.iload_n 2, 1) := by decide +kernel
theorem dX7_soonest_40 : decode cX7_soonest 40 = .ok (.iconst (-1), 1) := by decide +kernel
theorem dX7_soonest_41 : decode cX7_soonest 41 = .ok (.if_icmp .ne 5, 3) := by decide +kernel
theorem dX7_soonest_44 : decode cX7_soonest 44 = .ok (.iconst (-1), 1) := by decide +kernel
theorem dX7_soonest_45 : decode cX7_soonest 45 = .ok (.ireturn, 1) := by decide +kernel
theorem dX7_soonest_46 : decode cX7_soonest 46 = .ok (.aload_n 0, 1) := by decide +kernel
theorem dX7_soonest_47 : decode cX7_soonest 47 = .ok (.getfield 36, 3) := by decide +kernel
theorem dX7_soonest_50 : decode cX7_soonest 50 = .ok (.getfield 133, 3) := by decide +kernel
theorem dX7_soonest_53 : decode cX7_soonest 53 = .ok (.iload_n 1, 1) := by decide +kernel
theorem dX7_soonest_54 : decode cX7_soonest 54 = .ok (.iaload, 1) := by decide +kernel
theorem dX7_soonest_55 : decode cX7_soonest 55 = .ok (.istore_n 3, 1) := by decide +kernel
theorem dX7_soonest_56 : decode cX7_soonest 56 = .ok (.iconst 1, 1) := by decide +kernel
theorem dX7_soonest_57 : decode cX7_soonest 57 = .ok (.istore 4, 2) := by decide +kernel
theorem dX7_soonest_59 : decode cX7_soonest 59 = .ok (.iload 4, 2) := by decide +kernel
theorem dX7_soonest_61 : decode cX7_soonest 61 = .ok (.bipush 40, 2) := by decide +kernel
theorem dX7_soonest_63 : decode cX7_soonest 63 = .ok (.if_icmp .gt 55, 3) := by decide +kernel
theorem dX7_soonest_66 : decode cX7_soonest 66 = .ok (.aload_n 0, 1) := by decide +kernel
theorem dX7_soonest_67 : decode cX7_soonest 67 = .ok (.getfield 26, 3) := by decide +kernel
theorem dX7_soonest_70 : decode cX7_soonest 70 = .ok (.iload_n 1, 1) := by decide +kernel
theorem dX7_soonest_71 : decode cX7_soonest 71 = .ok (.iload_n 3, 1) := by decide +kernel
theorem dX7_soonest_72 : decode cX7_soonest 72 = .ok (.iload 4, 2) := by decide +kernel
theorem dX7_soonest_74 : decode cX7_soonest 74 = .ok (.iload_n 2, 1) := by decide +kernel
theorem dX7_soonest_75 : decode cX7_soonest 75 = .ok (.if_icmp .lt 7, 3) := by decide +kernel
theorem dX7_soonest_78 : decode cX7_soonest 78 = .ok (.iconst 1, 1) := by decide +kernel
theorem dX7_soonest_79 : decode cX7_soonest 79 = .ok (.goto 4, 3) := by decide +kernel
theorem dX7_soonest_82 : decode cX7_soonest 82 = .ok (.iconst 0, 1) := by decide +kernel
theorem dX7_soonest_83 : decode cX7_soonest 83 = .ok (.aload_n 0, 1) := by decide +kernel
theorem dX7_soonest_84 : decode cX7_soonest 84 = .ok (.getfield 36, 3) := by decide +kernel
theorem dX7_soonest_87 : decode cX7_soonest 87 = .ok (.getfield 180, 3) := by decide +kernel
theorem dX7_soonest_90 : decode cX7_soonest 90 = .ok (.iload 4, 2) := by decide +kernel
theorem dX7_soonest_92 : decode cX7_soonest 92 = .ok (.iadd, 1) := by decide +kernel
theorem dX7_soonest_93 : decode cX7_soonest 93 = .ok (.invokevirtual 295, 3) := by decide +kernel
theorem dX7_soonest_96 : decode cX7_soonest 96 = .ok (.istore_n 3, 1) := by decide +kernel
theorem dX7_soonest_97 : decode cX7_soonest 97 = .ok (.iload_n 3, 1) := by decide +kernel
theorem dX7_soonest_98 : decode cX7_soonest 98 = .ok (.aload_n 0, 1) := by decide +kernel
theorem dX7_soonest_99 : decode cX7_soonest 99 = .ok (.getfield 26, 3) := by decide +kernel
theorem dX7_soonest_102 : decode cX7_soonest 102 = .ok (.iload_n 1, 1) := by decide +kernel
theorem dX7_soonest_103 : decode cX7_soonest 103 = .ok (.invokevirtual 136, 3) := by decide +kernel
theorem dX7_soonest_106 : decode cX7_soonest 106 = .ok (.if_icmp .lt 6, 3) := by decide +kernel
theorem dX7_soonest_109 : decode cX7_soonest 109 = .ok (.iload 4, 2) := by decide +kernel
theorem dX7_soonest_111 : decode cX7_soonest 111 = .ok (.ireturn, 1) := by decide +kernel
theorem dX7_soonest_112 : decode cX7_soonest 112 = .ok (.iinc 4 1, 3) := by decide +kernel
theorem dX7_soonest_115 : decode cX7_soonest 115 = .ok (.goto (-56), 3) := by decide +kernel
theorem dX7_soonest_118 : decode cX7_soonest 118 = .ok (.iconst (-1), 1) := by decide +kernel
theorem dX7_soonest_119 : decode cX7_soonest 119 = .ok (.ireturn, 1) := by decide +kernel
theorem dX7_possibleCorners_0 : decode cX7_possibleCorners 0 = .ok (.iconst 1, 1) := by decide +kernel
theorem dX7_possibleCorners_1 : decode cX7_possibleCorners 1 = .ok (.aload_n 0, 1) := by decide +kernel
theorem dX7_possibleCorners_2 : decode cX7_possibleCorners 2 = .ok (.getfield 19, 3) := by decide +kernel
theorem dX7_possibleCorners_5 : decode cX7_possibleCorners 5 = .ok (.getfield 248, 3) := by decide +kernel
theorem dX7_possibleCorners_8 : decode cX7_possibleCorners 8 = .ok (.ishl, 1) := by decide +kernel
theorem dX7_possibleCorners_9 : decode cX7_possibleCorners 9 = .ok (.iconst 1, 1) := by decide +kernel
theorem dX7_possibleCorners_10 : decode cX7_possibleCorners 10 = .ok (.isub, 1) := by decide +kernel
theorem dX7_possibleCorners_11 : decode cX7_possibleCorners 11 = .ok (.istore_n 1, 1) := by decide +kernel
theorem dX7_possibleCorners_12 : decode cX7_possibleCorners 12 = .ok (.iconst 0, 1) := by decide +kernel
theorem dX7_possibleCorners_13 : decode cX7_possibleCorners 13 = .ok (.istore_n 2, 1) := by decide +kernel
theorem dX7_possibleCorners_14 : decode cX7_possibleCorners 14 = .ok (.iload_n 2, 1) := by decide +kernel
theorem dX7_possibleCorners_15 : decode cX7_possibleCorners 15 = .ok (.aload_n 0, 1) := by decide +kernel
theorem dX7_possibleCorners_16 : decode cX7_possibleCorners 16 = .ok (.getfield 49, 3) := by decide +kernel
theorem dX7_possibleCorners_19 : decode cX7_possibleCorners 19 = .ok (.getfield 105, 3) := by decide +kernel
theorem dX7_possibleCorners_22 : decode cX7_possibleCorners 22 = .ok (.if_icmp .ge 45, 3) := by decide +kernel
theorem dX7_possibleCorners_25 : decode cX7_possibleCorners 25 = .ok (.aload_n 0, 1) := by decide +kernel
theorem dX7_possibleCorners_26 : decode cX7_possibleCorners 26 = .ok (.aload_n 0, 1) := by decide +kernel
theorem dX7_possibleCorners_27 : decode cX7_possibleCorners 27 = .ok (.getfield 49, 3) := by decide +kernel
theorem dX7_possibleCorners_30 : decode cX7_possibleCorners 30 = .ok (.getfield 218, 3) := by decide +kernel
theorem dX7_possibleCorners_33 : decode cX7_possibleCorners 33 = .ok (.iload_n 2, 1) := by decide +kernel
theorem dX7_possibleCorners_34 : decode cX7_possibleCorners 34 = .ok (.iaload, 1) := by decide +kernel
theorem dX7_possibleCorners_35 : decode cX7_possibleCorners 35 = .ok (.invokevirtual 292, 3) := by decide +kernel
theorem dX7_possibleCorners_38 : decode cX7_possibleCorners 38 = .ok (.istore_n 3, 1) := by decide +kernel
theorem dX7_possibleCorners_39 : decode cX7_possibleCorners 39 = .ok (.iload_n 1, 1) := by decide +kernel
theorem dX7_possibleCorners_40 : decode cX7_possibleCorners 40 = .ok (.aload_n 0, 1) := by decide +kernel
theorem dX7_possibleCorners_41 : decode cX7_possibleCorners 41 = .ok (.getfield 49, 3) := by decide +kernel
theorem dX7_possibleCorners_44 : decode cX7_possibleCorners 44 = .ok (.getfield 221, 3) := by decide +kernel
theorem dX7_possibleCorners_47 : decode cX7_possibleCorners 47 = .ok (.iload_n 2, 1) := by decide +kernel
theorem dX7_possibleCorners_48 : decode cX7_possibleCorners 48 = .ok (.baload, 1) := by decide +kernel
theorem dX7_possibleCorners_49 : decode cX7_possibleCorners 49 = .ok (.ifCond .eq 7, 3) := by decide +kernel
theorem dX7_possibleCorners_52 : decode cX7_possibleCorners 52 = .ok (.iload_n 3, 1) := by decide +kernel
theorem dX7_possibleCorners_53 : decode cX7_possibleCorners 53 = .ok (.goto 6, 3) := by decide +kernel
theorem dX7_possibleCorners_56 : decode cX7_possibleCorners 56 = .ok (.iload_n 3, 1) := by decide +kernel
theorem dX7_possibleCorners_57 : decode cX7_possibleCorners 57 = .ok (.iconst (-1), 1) := by decide +kernel
theorem dX7_possibleCorners_58 : decode cX7_possibleCorners 58 = .ok (.ixor, 1) := by decide +kernel
theorem dX7_possibleCorners_59 : decode cX7_possibleCorners 59 = .ok (.iand, 1) := by decide +kernel
theorem dX7_possibleCorners_60 : decode cX7_possibleCorners 60 = .ok (.istore_n 1, 1) := by decide +kernel
theorem dX7_possibleCorners_61 : decode cX7_possibleCorners 61 = .ok (.iinc 2 1, 3) := by decide +kernel
theorem dX7_possibleCorners_64 : decode cX7_possibleCorners 64 = .ok (.goto (-50), 3) := by decide +kernel
theorem dX7_possibleCorners_67 : decode cX7_possibleCorners 67 = .ok (.iload_n 1, 1) := by decide +kernel
theorem dX7_possibleCorners_68 : decode cX7_possibleCorners 68 = .ok (.ireturn, 1) := by decide +kernel
theorem dX7_bestWitness_0 : decode cX7_bestWitness 0 = .ok (.iload_n 1, 1) := by decide +kernel
theorem dX7_bestWitness_1 : decode cX7_bestWitness 1 = .ok (.invokestatic 299, 3) := by decide +kernel
theorem dX7_bestWitness_4 : decode cX7_bestWitness 4 = .ok (.istore_n 2, 1) := by decide +kernel
theorem dX7_bestWitness_5 : decode cX7_bestWitness 5 = .ok (.iload_n 2, 1) := by decide +kernel
theorem dX7_bestWitness_6 : decode cX7_bestWitness 6 = .ok (.ifCond .ne 5, 3) := by decide +kernel
theorem dX7_bestWitness_9 : decode cX7_bestWitness 9 = .ok (.iconst (-1), 1) := by decide +kernel
theorem dX7_bestWitness_10 : decode cX7_bestWitness 10 = .ok (.ireturn, 1) := by decide +kernel
theorem dX7_bestWitness_11 : decode cX7_bestWitness 11 = .ok (.iconst (-1), 1) := by decide +kernel
theorem dX7_bestWitness_12 : decode cX7_bestWitness 12 = .ok (.istore_n 3, 1) := by decide +kernel
theorem dX7_bestWitness_13 : decode cX7_bestWitness 13 = .ok (.iload_n 2, 1) := by decide +kernel
theorem dX7_bestWitness_14 : decode cX7_bestWitness 14 = .ok (.iconst 1, 1) := by decide +kernel
theorem dX7_bestWitness_15 : decode cX7_bestWitness 15 = .ok (.iadd, 1) := by decide +kernel
theorem dX7_bestWitness_16 : decode cX7_bestWitness 16 = .ok (.istore 4, 2) := by decide +kernel
theorem dX7_bestWitness_18 : decode cX7_bestWitness 18 = .ok (.iconst 0, 1) := by decide +kernel
theorem dX7_bestWitness_19 : decode cX7_bestWitness 19 = .ok (.istore 5, 2) := by decide +kernel
theorem dX7_bestWitness_21 : decode cX7_bestWitness 21 = .ok (.iload 5, 2) := by decide +kernel
theorem dX7_bestWitness_23 : decode cX7_bestWitness 23 = .ok (.aload_n 0, 1) := by decide +kernel
theorem dX7_bestWitness_24 : decode cX7_bestWitness 24 = .ok (.getfield 26, 3) := by decide +kernel
theorem dX7_bestWitness_27 : decode cX7_bestWitness 27 = .ok (.getfield 113, 3) := by decide +kernel
theorem dX7_bestWitness_30 : decode cX7_bestWitness 30 = .ok (.if_icmp .ge 47, 3) := by decide +kernel
theorem dX7_bestWitness_33 : decode cX7_bestWitness 33 = .ok (.iload_n 1, 1) := by decide +kernel
theorem dX7_bestWitness_34 : decode cX7_bestWitness 34 = .ok (.aload_n 0, 1) := by decide +kernel
theorem dX7_bestWitness_35 : decode cX7_bestWitness 35 = .ok (.iload 5, 2) := by decide +kernel
theorem dX7_bestWitness_37 : decode cX7_bestWitness 37 = .ok (.invokevirtual 292, 3) := by decide +kernel
theorem dX7_bestWitness_40 : decode cX7_bestWitness 40 = .ok (.iand, 1) := by decide +kernel
theorem dX7_bestWitness_41 : decode cX7_bestWitness 41 = .ok (.invokestatic 299, 3) := by decide +kernel
theorem dX7_bestWitness_44 : decode cX7_bestWitness 44 = .ok (.istore 6, 2) := by decide +kernel
theorem dX7_bestWitness_46 : decode cX7_bestWitness 46 = .ok (.iload 6, 2) := by decide +kernel
theorem dX7_bestWitness_48 : decode cX7_bestWitness 48 = .ok (.iload_n 2, 1) := by decide +kernel
theorem dX7_bestWitness_49 : decode cX7_bestWitness 49 = .ok (.iload 6, 2) := by decide +kernel
theorem dX7_bestWitness_51 : decode cX7_bestWitness 51 = .ok (.isub, 1) := by decide +kernel
theorem dX7_bestWitness_52 : decode cX7_bestWitness 52 = .ok (.invokestatic 304, 3) := by decide +kernel
theorem dX7_bestWitness_55 : decode cX7_bestWitness 55 = .ok (.istore 7, 2) := by decide +kernel
theorem dX7_bestWitness_57 : decode cX7_bestWitness 57 = .ok (.iload 7, 2) := by decide +kernel
theorem dX7_bestWitness_59 : decode cX7_bestWitness 59 = .ok (.iload 4, 2) := by decide +kernel
theorem dX7_bestWitness_61 : decode cX7_bestWitness 61 = .ok (.if_icmp .ge 10, 3) := by decide +kernel
theorem dX7_bestWitness_64 : decode cX7_bestWitness 64 = .ok (.iload 7, 2) := by decide +kernel
theorem dX7_bestWitness_66 : decode cX7_bestWitness 66 = .ok (.istore 4, 2) := by decide +kernel
theorem dX7_bestWitness_68 : decode cX7_bestWitness 68 = .ok (.iload 5, 2) := by decide +kernel
theorem dX7_bestWitness_70 : decode cX7_bestWitness 70 = .ok (.istore_n 3, 1) := by decide +kernel
theorem dX7_bestWitness_71 : decode cX7_bestWitness 71 = .ok (.iinc 5 1, 3) := by decide +kernel
theorem dX7_bestWitness_74 : decode cX7_bestWitness 74 = .ok (.goto (-53), 3) := by decide +kernel
theorem dX7_bestWitness_77 : decode cX7_bestWitness 77 = .ok (.iload_n 3, 1) := by decide +kernel
theorem dX7_bestWitness_78 : decode cX7_bestWitness 78 = .ok (.ireturn, 1) := by decide +kernel
theorem dX7_drift_0 : decode cX7_drift 0 = .ok (.iload_n 2, 1) := by decide +kernel
theorem dX7_drift_1 : decode cX7_drift 1 = .ok (.i2l, 1) := by decide +kernel
theorem dX7_drift_2 : decode cX7_drift 2 = .ok (.lstore_n 3, 1) := by decide +kernel
theorem dX7_drift_3 : decode cX7_drift 3 = .ok (.iconst 0, 1) := by decide +kernel
theorem dX7_drift_4 : decode cX7_drift 4 = .ok (.istore 5, 2) := by decide +kernel
theorem dX7_drift_6 : decode cX7_drift 6 = .ok (.iload 5, 2) := by decide +kernel
theorem dX7_drift_8 : decode cX7_drift 8 = .ok (.iload_n 1, 1) := by decide +kernel
theorem dX7_drift_9 : decode cX7_drift 9 = .ok (.if_icmp .ge 78, 3) := by decide +kernel
theorem dX7_drift_12 : decode cX7_drift 12 = .ok (.aload_n 0, 1) := by decide +kernel
theorem dX7_drift_13 : decode cX7_drift 13 = .ok (.getfield 19, 3) := by decide +kernel
theorem dX7_drift_16 : decode cX7_drift 16 = .ok (.getfield 149, 3) := by decide +kernel
theorem dX7_drift_19 : decode cX7_drift 19 = .ok (.ifCond .le 68, 3) := by decide +kernel
theorem dX7_drift_22 : decode cX7_drift 22 = .ok (.ldc2_w 309, 3) := by decide +kernel
theorem dX7_drift_25 : decode cX7_drift 25 = .ok (.lload_n 3, 1) := by decide +kernel
theorem dX7_drift_26 : decode cX7_drift 26 = .ok (.lmul, 1) := by decide +kernel
theorem dX7_drift_27 : decode cX7_drift 27 = .ok (.ldc2_w 311, 3) := by decide +kernel
theorem dX7_drift_30 : decode cX7_drift 30 = .ok (.ladd, 1) := by decide +kernel
theorem dX7_drift_31 : decode cX7_drift 31 = .ok (.ldc2_w 313, 3) := by decide +kernel
theorem dX7_drift_34 : decode cX7_drift 34 = .ok (.land, 1) := by decide +kernel
theorem dX7_drift_35 : decode cX7_drift 35 = .ok (.lstore_n 3, 1) := by decide +kernel
theorem dX7_drift_36 : decode cX7_drift 36 = .ok (.lload_n 3, 1) := by decide +kernel
theorem dX7_drift_37 : decode cX7_drift 37 = .ok (.ldc2_w 315, 3) := by decide +kernel
theorem dX7_drift_40 : decode cX7_drift 40 = .ok (.ldiv, 1) := by decide +kernel
theorem dX7_drift_41 : decode cX7_drift 41 = .ok (.aload_n 0, 1) := by decide +kernel
theorem dX7_drift_42 : decode cX7_drift 42 = .ok (.getfield 19, 3) := by decide +kernel
theorem dX7_drift_45 : decode cX7_drift 45 = .ok (.getfield 149, 3) := by decide +kernel
theorem dX7_drift_48 : decode cX7_drift 48 = .ok (.i2l, 1) := by decide +kernel
theorem dX7_drift_49 : decode cX7_drift 49 = .ok (.lrem, 1) := by decide +kernel
theorem dX7_drift_50 : decode cX7_drift 50 = .ok (.l2i, 1) := by decide +kernel
theorem dX7_drift_51 : decode cX7_drift 51 = .ok (.istore 6, 2) := by decide +kernel
theorem dX7_drift_53 : decode cX7_drift 53 = .ok (.aload_n 0, 1) := by decide +kernel
theorem dX7_drift_54 : decode cX7_drift 54 = .ok (.getfield 43, 3) := by decide +kernel
theorem dX7_drift_57 : decode cX7_drift 57 = .ok (.aload_n 0, 1) := by decide +kernel
theorem dX7_drift_58 : decode cX7_drift 58 = .ok (.getfield 19, 3) := by decide +kernel
theorem dX7_drift_61 : decode cX7_drift 61 = .ok (.iload 6, 2) := by decide +kernel
theorem dX7_drift_63 : decode cX7_drift 63 = .ok (.aload_n 0, 1) := by decide +kernel
theorem dX7_drift_64 : decode cX7_drift 64 = .ok (.getfield 43, 3) := by decide +kernel
theorem dX7_drift_67 : decode cX7_drift 67 = .ok (.getfield 171, 3) := by decide +kernel
theorem dX7_drift_70 : decode cX7_drift 70 = .ok (.invokevirtual 317, 3) := by decide +kernel
theorem dX7_drift_73 : decode cX7_drift 73 = .ok (.aload_n 0, 1) := by decide +kernel
theorem dX7_drift_74 : decode cX7_drift 74 = .ok (.getfield 26, 3) := by decide +kernel
theorem dX7_drift_77 : decode cX7_drift 77 = .ok (.invokevirtual 183, 3) := by decide +kernel
theorem dX7_drift_80 : decode cX7_drift 80 = .ok (.pop, 1) := by decide +kernel
theorem dX7_drift_81 : decode cX7_drift 81 = .ok (.iinc 5 1, 3) := by decide +kernel
theorem dX7_drift_84 : decode cX7_drift 84 = .ok (.goto (-78), 3) := by decide +kernel
theorem dX7_drift_87 : decode cX7_drift 87 = .ok (.lload_n 3, 1) := by decide +kernel
theorem dX7_drift_88 : decode cX7_drift 88 = .ok (.l2i, 1) := by decide +kernel
theorem dX7_drift_89 : decode cX7_drift 89 = .ok (.ireturn, 1) := by decide +kernel
theorem dX7_isWithin_0 : decode cX7_isWithin 0 = .ok (.iload_n 0, 1) := by decide +kernel
theorem dX7_isWithin_1 : decode cX7_isWithin 1 = .ok (.iload_n 1, 1) := by decide +kernel
theorem dX7_isWithin_2 : decode cX7_isWithin 2 = .ok (.if_icmp .lt 12, 3) := by decide +kernel
theorem dX7_isWithin_5 : decode cX7_isWithin 5 = .ok (.iload_n 0, 1) := by decide +kernel
theorem dX7_isWithin_6 : decode cX7_isWithin 6 = .ok (.iload_n 2, 1) := by decide +kernel
theorem dX7_isWithin_7 : decode cX7_isWithin 7 = .ok (.if_icmp .gt 7, 3) := by decide +kernel
theorem dX7_isWithin_10 : decode cX7_isWithin 10 = .ok (.iconst 1, 1) := by decide +kernel
theorem dX7_isWithin_11 : decode cX7_isWithin 11 = .ok (.goto 4, 3) := by decide +kernel
theorem dX7_isWithin_14 : decode cX7_isWithin 14 = .ok (.iconst 0, 1) := by decide +kernel
theorem dX7_isWithin_15 : decode cX7_isWithin 15 = .ok (.ireturn, 1) := by decide +kernel
theorem dX7_hasBit_0 : decode cX7_hasBit 0 = .ok (.iload_n 0, 1) := by decide +kernel
theorem dX7_hasBit_1 : decode cX7_hasBit 1 = .ok (.iload_n 1, 1) := by decide +kernel
theorem dX7_hasBit_2 : decode cX7_hasBit 2 = .ok (.ishr, 1) := by decide +kernel
theorem dX7_hasBit_3 : decode cX7_hasBit 3 = .ok (.iconst 1, 1) := by decide +kernel
theorem dX7_hasBit_4 : decode cX7_hasBit 4 = .ok (.iand, 1) := by decide +kernel
theorem dX7_hasBit_5 : decode cX7_hasBit 5 = .ok (.ifCond .eq 7, 3) := by decide +kernel
theorem dX7_hasBit_8 : decode cX7_hasBit 8 = .ok (.iconst 1, 1) := by decide +kernel
theorem dX7_hasBit_9 : decode cX7_hasBit 9 = .ok (.goto 4, 3) := by decide +kernel
theorem dX7_hasBit_12 : decode cX7_hasBit 12 = .ok (.iconst 0, 1) := by decide +kernel
theorem dX7_hasBit_13 : decode cX7_hasBit 13 = .ok (.ireturn, 1) := by decide +kernel
theorem dX7_mix_0 : decode cX7_mix 0 = .ok (.ldc2_w 320, 3) := by decide +kernel
theorem dX7_mix_3 : decode cX7_mix 3 = .ok (.lload_n 0, 1) := by decide +kernel
theorem dX7_mix_4 : decode cX7_mix 4 = .ok (.lmul, 1) := by decide +kernel
theorem dX7_mix_5 : decode cX7_mix 5 = .ok (.lload_n 2, 1) := by decide +kernel
theorem dX7_mix_6 : decode cX7_mix 6 = .ok (.ladd, 1) := by decide +kernel
theorem dX7_mix_7 : decode cX7_mix 7 = .ok (.lreturn, 1) := by decide +kernel
end
section
theorem dX8_init_0 : decode cX8_init 0 = .ok (.aload_n 0, 1) := by decide +kernel
theorem dX8_init_1 : decode cX8_init 1 = .ok (.invokespecial 1, 3) := by decide +kernel
theorem dX8_init_4 : decode cX8_init 4 = .ok (.aload_n 0, 1) := by decide +kernel
theorem dX8_init_5 : decode cX8_init 5 = .ok (.bipush 60, 2) := by decide +kernel
theorem dX8_init_7 : decode cX8_init 7 = .ok (.newarray .int, 2) := by decide +kernel
theorem dX8_init_9 : decode cX8_init 9 = .ok (.putfield 7, 3) := by decide +kernel
theorem dX8_init_12 : decode cX8_init 12 = .ok (.aload_n 0, 1) := by decide +kernel
theorem dX8_init_13 : decode cX8_init 13 = .ok (.bipush 8, 2) := by decide +kernel
theorem dX8_init_15 : decode cX8_init 15 = .ok (.newarray .int, 2) := by decide +kernel
theorem dX8_init_17 : decode cX8_init 17 = .ok (.putfield 13, 3) := by decide +kernel
theorem dX8_init_20 : decode cX8_init 20 = .ok (.aload_n 0, 1) := by decide +kernel
theorem dX8_init_21 : decode cX8_init 21 = .ok (.bipush 8, 2) := by decide +kernel
theorem dX8_init_23 : decode cX8_init 23 = .ok (.newarray .int, 2) := by decide +kernel
theorem dX8_init_25 : decode cX8_init 25 = .ok (.putfield 16, 3) := by decide +kernel
theorem dX8_init_28 : decode cX8_init 28 = .ok (.aload_n 0, 1) := by decide +kernel
theorem dX8_init_29 : decode cX8_init 29 = .ok (.bipush 6, 2) := by decide +kernel
theorem dX8_init_31 : decode cX8_init 31 = .ok (.newarray .int, 2) := by decide +kernel
theorem dX8_init_33 : decode cX8_init 33 = .ok (.putfield 19, 3) := by decide +kernel
theorem dX8_init_36 : decode cX8_init 36 = .ok (.aload_n 0, 1) := by decide +kernel
theorem dX8_init_37 : decode cX8_init 37 = .ok (.bipush 6, 2) := by decide +kernel
theorem dX8_init_39 : decode cX8_init 39 = .ok (.newarray .int, 2) := by decide +kernel
theorem dX8_init_41 : decode cX8_init 41 = .ok (.putfield 22, 3) := by decide +kernel
theorem dX8_init_44 : decode cX8_init 44 = .ok (.aload_n 0, 1) := by decide +kernel
theorem dX8_init_45 : decode cX8_init 45 = .ok (.bipush 6, 2) := by decide +kernel
theorem dX8_init_47 : decode cX8_init 47 = .ok (.newarray .int, 2) := by decide +kernel
theorem dX8_init_49 : decode cX8_init 49 = .ok (.putfield 25, 3) := by decide +kernel
theorem dX8_init_52 : decode cX8_init 52 = .ok (.aload_n 0, 1) := by decide +kernel
theorem dX8_init_53 : decode cX8_init 53 = .ok (.bipush 6, 2) := by decide +kernel
theorem dX8_init_55 : decode cX8_init 55 = .ok (.newarray .int, 2) := by decide +kernel
theorem dX8_init_57 : decode cX8_init 57 = .ok (.putfield 28, 3) := by decide +kernel
theorem dX8_init_60 : decode cX8_init 60 = .ok (.aload_n 0, 1) := by decide +kernel
theorem dX8_init_61 : decode cX8_init 61 = .ok (.bipush 6, 2) := by decide +kernel
theorem dX8_init_63 : decode cX8_init 63 = .ok (.newarray .int, 2) := by decide +kernel
theorem dX8_init_65 : decode cX8_init 65 = .ok (.putfield 31, 3) := by decide +kernel
theorem dX8_init_68 : decode cX8_init 68 = .ok (.aload_n 0, 1) := by decide +kernel
theorem dX8_init_69 : decode cX8_init 69 = .ok (.bipush 6, 2) := by decide +kernel
theorem dX8_init_71 : decode cX8_init 71 = .ok (.newarray .int, 2) := by decide +kernel
theorem dX8_init_73 : decode cX8_init 73 = .ok (.putfield 34, 3) := by decide +kernel
theorem dX8_init_76 : decode cX8_init 76 = .ok (.aload_n 0, 1) := by decide +kernel
theorem dX8_init_77 : decode cX8_init 77 = .ok (.bipush 36, 2) := by decide +kernel
theorem dX8_init_79 : decode cX8_init 79 = .ok (.newarray .int, 2) := by decide +kernel
theorem dX8_init_81 : decode cX8_init 81 = .ok (.putfield 37, 3) := by decide +kernel
theorem dX8_init_84 : decode cX8_init 84 = .ok (.aload_n 0, 1) := by decide +kernel
theorem dX8_init_85 : decode cX8_init 85 = .ok (.bipush 6, 2) := by decide +kernel
theorem dX8_init_87 : decode cX8_init 87 = .ok (.newarray .int, 2) := by decide +kernel
theorem dX8_init_89 : decode cX8_init 89 = .ok (.putfield 40, 3) := by decide +kernel
theorem dX8_init_92 : decode cX8_init 92 = .ok (.aload_n 0, 1) := by decide +kernel
theorem dX8_init_93 : decode cX8_init 93 = .ok (.bipush 6, 2) := by decide +kernel
theorem dX8_init_95 : decode cX8_init 95 = .ok (.newarray .int, 2) := by decide +kernel
theorem dX8_init_97 : decode cX8_init 97 = .ok (.putfield 43, 3) := by decide +kernel
theorem dX8_init_100 : decode cX8_init 100 = .ok (.aload_n 0, 1) := by decide +kernel
theorem dX8_init_101 : decode cX8_init 101 = .ok (.bipush 24, 2) := by decide +kernel
theorem dX8_init_103 : decode cX8_init 103 = .ok (.newarray .int, 2) := by decide +kernel
theorem dX8_init_105 : decode cX8_init 105 = .ok (.putfield 46, 3) := by decide +kernel
theorem dX8_init_108 : decode cX8_init 108 = .ok (.aload_n 0, 1) := by decide +kernel
theorem dX8_init_109 : decode cX8_init 109 = .ok (.bipush 24, 2) := by decide +kernel
theorem dX8_init_111 : decode cX8_init 111 = .ok (.newarray .int, 2) := by decide +kernel
theorem dX8_init_113 : decode cX8_init 113 = .ok (.putfield 49, 3) := by decide +kernel
theorem dX8_init_116 : decode cX8_init 116 = .ok (.aload_n 0, 1) := by decide +kernel
theorem dX8_init_117 : decode cX8_init 117 = .ok (.bipush 36, 2) := by decide +kernel
theorem dX8_init_119 : decode cX8_init 119 = .ok (.newarray .int, 2) := by decide +kernel
theorem dX8_init_121 : decode cX8_init 121 = .ok (.putfield 52, 3) := by decide +kernel
theorem dX8_init_124 : decode cX8_init 124 = .ok (.aload_n 0, 1) := by decide +kernel
theorem dX8_init_125 : decode cX8_init 125 = .ok (.bipush 36, 2) := by decide +kernel
theorem dX8_init_127 : decode cX8_init 127 = .ok (.newarray .int, 2) := by decide +kernel
theorem dX8_init_129 : decode cX8_init 129 = .ok (.putfield 55, 3) := by decide +kernel
theorem dX8_init_132 : decode cX8_init 132 = .ok (.aload_n 0, 1) := by decide +kernel
theorem dX8_init_133 : decode cX8_init 133 = .ok (.bipush 6, 2) := by decide +kernel
theorem dX8_init_135 : decode cX8_init 135 = .ok (.newarray .long, 2) := by decide +kernel
theorem dX8_init_137 : decode cX8_init 137 = .ok (.putfield 58, 3) := by decide +kernel
theorem dX8_init_140 : decode cX8_init 140 = .ok (.aload_n 0, 1) := by decide +kernel
theorem dX8_init_141 : decode cX8_init 141 = .ok (.bipush 6, 2) := by decide +kernel
theorem dX8_init_143 : decode cX8_init 143 = .ok (.newarray .long, 2) := by decide +kernel
theorem dX8_init_145 : decode cX8_init 145 = .ok (.putfield 62, 3) := by decide +kernel
theorem dX8_init_148 : decode cX8_init 148 = .ok (.aload_n 0, 1) := by decide +kernel
theorem dX8_init_149 : decode cX8_init 149 = .ok (.bipush 12, 2) := by decide +kernel
theorem dX8_init_151 : decode cX8_init 151 = .ok (.newarray .int, 2) := by decide +kernel
theorem dX8_init_153 : decode cX8_init 153 = .ok (.putfield 65, 3) := by decide +kernel
theorem dX8_init_156 : decode cX8_init 156 = .ok (.aload_n 0, 1) := by decide +kernel
theorem dX8_init_157 : decode cX8_init 157 = .ok (.bipush 6, 2) := by decide +kernel
theorem dX8_init_159 : decode cX8_init 159 = .ok (.newarray .int, 2) := by decide +kernel
theorem dX8_init_161 : decode cX8_init 161 = .ok (.putfield 68, 3) := by decide +kernel
theorem dX8_init_164 : decode cX8_init 164 = .ok (.aload_n 0, 1) := by decide +kernel
theorem dX8_init_165 : decode cX8_init 165 = .ok (.bipush 6, 2) := by decide +kernel
theorem dX8_init_167 : decode cX8_init 167 = .ok (.newarray .int, 2) := by decide +kernel
theorem dX8_init_169 : decode cX8_init 169 = .ok (.putfield 71, 3) := by decide +kernel
theorem dX8_init_172 : decode cX8_init 172 = .ok (.aload_n 0, 1) := by decide +kernel
theorem dX8_init_173 : decode cX8_init 173 = .ok (.bipush 6, 2) := by decide +kernel
theorem dX8_init_175 : decode cX8_init 175 = .ok (.newarray .int, 2) := by decide +kernel
theorem dX8_init_177 : decode cX8_init 177 = .ok (.putfield 74, 3) := by decide +kernel
theorem dX8_init_180 : decode cX8_init 180 = .ok (.aload_n 0, 1) := by decide +kernel
theorem dX8_init_181 : decode cX8_init 181 = .ok (.bipush 6, 2) := by decide +kernel
theorem dX8_init_183 : decode cX8_init 183 = .ok (.newarray .int, 2) := by decide +kernel
theorem dX8_init_185 : decode cX8_init 185 = .ok (.putfield 77, 3) := by decide +kernel
theorem dX8_init_188 : decode cX8_init 188 = .ok (.aload_n 0, 1) := by decide +kernel
theorem dX8_init_189 : decode cX8_init 189 = .ok (.bipush 6, 2) := by decide +kernel
theorem dX8_init_191 : decode cX8_init 191 = .ok (.newarray .int, 2) := by decide +kernel
theorem dX8_init_193 : decode cX8_init 193 = .ok (.putfield 80, 3) := by decide +kernel
theorem dX8_init_196 : decode cX8_init 196 = .ok (.aload_n 0, 1) := by decide +kernel
theorem dX8_init_197 : decode cX8_init 197 = .ok (.bipush 12, 2) := by decide +kernel
theorem dX8_init_199 : decode cX8_init 199 = .ok (.newarray .int, 2) := by decide +kernel
theorem dX8_init_201 : decode cX8_init 201 = .ok (.putfield 83, 3) := by decide +kernel
theorem dX8_init_204 : decode cX8_init 204 = .ok (.aload_n 0, 1) := by decide +kernel
theorem dX8_init_205 : decode cX8_init 205 = .ok (.iconst (-1), 1) := by decide +kernel
theorem dX8_init_206 : decode cX8_init 206 = .ok (.putfield 86, 3) := by decide +kernel
theorem dX8_init_209 : decode cX8_init 209 = .ok (.return_, 1) := by decide +kernel
theorem dX8_in_0 : decode cX8_in 0 = .ok (.lload_n 0, 1) := by decide +kernel
theorem dX8_in_1 : decode cX8_in 1 = .ok (.lload_n 2, 1) := by decide +kernel
theorem dX8_in_2 : decode cX8_in 2 = .ok (.lcmp, 1) := by decide +kernel
theorem dX8_in_3 : decode cX8_in 3 = .ok (.ifCond .lt 14, 3) := by decide +kernel
theorem dX8_in_6 : decode cX8_in 6 = .ok (.lload_n 0, 1) := by decide +kernel
theorem dX8_in_7 : decode cX8_in 7 = .ok (.lload 4, 2) := by decide +kernel
theorem dX8_in_9 : decode cX8_in 9 = .ok (.lcmp, 1) := by decide +kernel
theorem dX8_in_10 : decode cX8_in 10 = .ok (.ifCond .gt 7, 3) := by decide +kernel
theorem dX8_in_13 : decode cX8_in 13 = .ok (.iconst 1, 1) := by decide +kernel
theorem dX8_in_14 : decode cX8_in 14 = .ok (.goto 4, 3) := by decide +kernel
theorem dX8_in_17 : decode cX8_in 17 = .ok (.iconst 0, 1) := by decide +kernel
theorem dX8_in_18 : decode cX8_in 18 = .ok (.ireturn, 1) := by decide +kernel
theorem dX8_copy_0 : decode cX8_copy 0 = .ok (.iconst 0, 1) := by decide +kernel
theorem dX8_copy_1 : decode cX8_copy 1 = .ok (.istore_n 2, 1) := by decide +kernel
theorem dX8_copy_2 : decode cX8_copy 2 = .ok (.iload_n 2, 1) := by decide +kernel
theorem dX8_copy_3 : decode cX8_copy 3 = .ok (.aload_n 0, 1) := by decide +kernel
theorem dX8_copy_4 : decode cX8_copy 4 = .ok (.arraylength, 1) := by decide +kernel
theorem dX8_copy_5 : decode cX8_copy 5 = .ok (.if_icmp .ge 15, 3) := by decide +kernel
theorem dX8_copy_8 : decode cX8_copy 8 = .ok (.aload_n 1, 1) := by decide +kernel
theorem dX8_copy_9 : decode cX8_copy 9 = .ok (.iload_n 2, 1) := by decide +kernel
theorem dX8_copy_10 : decode cX8_copy 10 = .ok (.aload_n 0, 1) := by decide +kernel
theorem dX8_copy_11 : decode cX8_copy 11 = .ok (.iload_n 2, 1) := by decide +kernel
theorem dX8_copy_12 : decode cX8_copy 12 = .ok (.iaload, 1) := by decide +kernel
theorem dX8_copy_13 : decode cX8_copy 13 = .ok (.iastore, 1) := by decide +kernel
theorem dX8_copy_14 : decode cX8_copy 14 = .ok (.iinc 2 1, 3) := by decide +kernel
theorem dX8_copy_17 : decode cX8_copy 17 = .ok (.goto (-15), 3) := by decide +kernel
theorem dX8_copy_20 : decode cX8_copy 20 = .ok (.return_, 1) := by decide +kernel
theorem dX8_letter_0 : decode cX8_letter 0 = .ok (.iload_n 1, 1) := by decide +kernel
theorem dX8_letter_1 : decode cX8_letter 1 = .ok (.i2l, 1) := by decide +kernel
theorem dX8_letter_2 : decode cX8_letter 2 = .ok (.lconst 1, 1) := by decide +kernel
theorem dX8_letter_3 : decode cX8_letter 3 = .ok (.ldc2_w 90, 3) := by decide +kernel
theorem dX8_letter_6 : decode cX8_letter 6 = .ok (.invokestatic 92, 3) := by decide +kernel
theorem dX8_letter_9 : decode cX8_letter 9 = .ok (.ifCond .ne 6, 3) := by decide +kernel
theorem dX8_letter_12 : decode cX8_letter 12 = .ok (.bipush (-102), 2) := by decide +kernel
theorem dX8_letter_14 : decode cX8_letter 14 = .ok (.ireturn, 1) := by decide +kernel
theorem dX8_letter_15 : decode cX8_letter 15 = .ok (.aload_n 0, 1) := by decide +kernel
theorem dX8_letter_16 : decode cX8_letter 16 = .ok (.getfield 96, 3) := by decide +kernel
theorem dX8_letter_19 : decode cX8_letter 19 = .ok (.bipush 60, 2) := by decide +kernel
theorem dX8_letter_21 : decode cX8_letter 21 = .ok (.if_icmp .ne 6, 3) := by decide +kernel
theorem dX8_letter_24 : decode cX8_letter 24 = .ok (.bipush (-104), 2) := by decide +kernel
theorem dX8_letter_26 : decode cX8_letter 26 = .ok (.ireturn, 1) := by decide +kernel
theorem dX8_letter_27 : decode cX8_letter 27 = .ok (.aload_n 0, 1) := by decide +kernel
theorem dX8_letter_28 : decode cX8_letter 28 = .ok (.getfield 7, 3) := by decide +kernel
theorem dX8_letter_31 : decode cX8_letter 31 = .ok (.aload_n 0, 1) := by decide +kernel
theorem dX8_letter_32 : decode cX8_letter 32 = .ok (.getfield 96, 3) := by decide +kernel
theorem dX8_letter_35 : decode cX8_letter 35 = .ok (.iload_n 1, 1) := by decide +kernel
theorem dX8_letter_36 : decode cX8_letter 36 = .ok (.iastore, 1) := by decide +kernel
theorem dX8_letter_37 : decode cX8_letter 37 = .ok (.aload_n 0, 1) := by decide +kernel
theorem dX8_letter_38 : decode cX8_letter 38 = .ok (.dup, 1) := by decide +kernel
theorem dX8_letter_39 : decode cX8_letter 39 = .ok (.getfield 96, 3) := by decide +kernel
theorem dX8_letter_42 : decode cX8_letter 42 = .ok (.iconst 1, 1) := by decide +kernel
theorem dX8_letter_43 : decode cX8_letter 43 = .ok (.iadd, 1) := by decide +kernel
theorem dX8_letter_44 : decode cX8_letter 44 = .ok (.putfield 96, 3) := by decide +kernel
theorem dX8_letter_47 : decode cX8_letter 47 = .ok (.aload_n 0, 1) := by decide +kernel
theorem dX8_letter_48 : decode cX8_letter 48 = .ok (.getfield 96, 3) := by decide +kernel
theorem dX8_letter_51 : decode cX8_letter 51 = .ok (.ireturn, 1) := by decide +kernel
theorem dX8_blank_0 : decode cX8_blank 0 = .ok (.aload_n 0, 1) := by decide +kernel
theorem dX8_blank_1 : decode cX8_blank 1 = .ok (.getfield 96, 3) := by decide +kernel
theorem dX8_blank_4 : decode cX8_blank 4 = .ok (.istore_n 1, 1) := by decide +kernel
theorem dX8_blank_5 : decode cX8_blank 5 = .ok (.aload_n 0, 1) := by decide +kernel
theorem dX8_blank_6 : decode cX8_blank 6 = .ok (.iconst 0, 1) := by decide +kernel
theorem dX8_blank_7 : decode cX8_blank 7 = .ok (.putfield 96, 3) := by decide +kernel
theorem dX8_blank_10 : decode cX8_blank 10 = .ok (.iload_n 1, 1) := by decide +kernel
theorem dX8_blank_11 : decode cX8_blank 11 = .ok (.ireturn, 1) := by decide +kernel
theorem dX8_kindBy_0 : decode cX8_kindBy 0 = .ok (.iload_n 0, 1) := by decide +kernel
theorem dX8_kindBy_1 : decode cX8_kindBy 1 = .ok (.lookupswitch 61 #[(99, 55), (100, 59), (104, 57), (112, 51), (116, 53)], 51) := by decide +kernel
theorem dX8_kindBy_52 : decode cX8_kindBy 52 = .ok (.iconst 0, 1) := by decide +kernel
theorem dX8_kindBy_53 : decode cX8_kindBy 53 = .ok (.ireturn, 1) := by decide +kernel
theorem dX8_kindBy_54 : decode cX8_kindBy 54 = .ok (.iconst 1, 1) := by decide +kernel
theorem dX8_kindBy_55 : decode cX8_kindBy 55 = .ok (.ireturn, 1) := by decide +kernel
theorem dX8_kindBy_56 : decode cX8_kindBy 56 = .ok (.iconst 2, 1) := by decide +kernel
theorem dX8_kindBy_57 : decode cX8_kindBy 57 = .ok (.ireturn, 1) := by decide +kernel
theorem dX8_kindBy_58 : decode cX8_kindBy 58 = .ok (.iconst 3, 1) := by decide +kernel
theorem dX8_kindBy_59 : decode cX8_kindBy 59 = .ok (.ireturn, 1) := by decide +kernel
theorem dX8_kindBy_60 : decode cX8_kindBy 60 = .ok (.iconst 4, 1) := by decide +kernel
theorem dX8_kindBy_61 : decode cX8_kindBy 61 = .ok (.ireturn, 1) := by decide +kernel
theorem dX8_kindBy_62 : decode cX8_kindBy 62 = .ok (.iconst (-1), 1) := by decide +kernel
theorem dX8_kindBy_63 : decode cX8_kindBy 63 = .ok (.ireturn, 1) := by decide +kernel
theorem dX8_isCornerLetter_0 : decode cX8_isCornerLetter 0 = .ok (.iload_n 1, 1) := by decide +kernel
theorem dX8_isCornerLetter_1 : decode cX8_isCornerLetter 1 = .ok (.i2l, 1) := by decide +kernel
theorem dX8_isCornerLetter_2 : decode cX8_isCornerLetter 2 = .ok (.ldc2_w 99, 3) := by decide +kernel
theorem dX8_isCornerLetter_5 : decode cX8_isCornerLetter 5 = .ok (.aload_n 0, 1) := by decide +kernel
theorem dX8_isCornerLetter_6 : decode cX8_isCornerLetter 6 = .ok (.getfield 7, 3) := by decide +kernel
theorem dX8_isCornerLetter_9 : decode cX8_isCornerLetter 9 = .ok (.iconst 0, 1) := by decide +kernel
theorem dX8_isCornerLetter_10 : decode cX8_isCornerLetter 10 = .ok (.iaload, 1) := by decide +kernel
theorem dX8_isCornerLetter_11 : decode cX8_isCornerLetter 11 = .ok (.iconst 1, 1) := by decide +kernel
theorem dX8_isCornerLetter_12 : decode cX8_isCornerLetter 12 = .ok (.isub, 1) := by decide +kernel
theorem dX8_isCornerLetter_13 : decode cX8_isCornerLetter 13 = .ok (.i2l, 1) := by decide +kernel
theorem dX8_isCornerLetter_14 : decode cX8_isCornerLetter 14 = .ok (.invokestatic 92, 3) := by decide +kernel
theorem dX8_isCornerLetter_17 : decode cX8_isCornerLetter 17 = .ok (.ireturn, 1) := by decide +kernel
theorem dX8_isRoadLetter_0 : decode cX8_isRoadLetter 0 = .ok (.aload_n 0, 1) := by decide +kernel
theorem dX8_isRoadLetter_1 : decode cX8_isRoadLetter 1 = .ok (.getfield 7, 3) := by decide +kernel
theorem dX8_isRoadLetter_4 : decode cX8_isRoadLetter 4 = .ok (.iload_n 1, 1) := by decide +kernel
theorem dX8_isRoadLetter_5 : decode cX8_isRoadLetter 5 = .ok (.iaload, 1) := by decide +kernel
theorem dX8_isRoadLetter_6 : decode cX8_isRoadLetter 6 = .ok (.istore_n 2, 1) := by decide +kernel
theorem dX8_isRoadLetter_7 : decode cX8_isRoadLetter 7 = .ok (.iload_n 1, 1) := by decide +kernel
theorem dX8_isRoadLetter_8 : decode cX8_isRoadLetter 8 = .ok (.iconst 3, 1) := by decide +kernel
theorem dX8_isRoadLetter_9 : decode cX8_isRoadLetter 9 = .ok (.isub, 1) := by decide +kernel
theorem dX8_isRoadLetter_10 : decode cX8_isRoadLetter 10 = .ok (.istore_n 3, 1) := by decide +kernel
theorem dX8_isRoadLetter_11 : decode cX8_isRoadLetter 11 = .ok (.iload_n 3, 1) := by decide +kernel
theorem dX8_isRoadLetter_12 : decode cX8_isRoadLetter 12 = .ok (.iconst 3, 1) := by decide +kernel
theorem dX8_isRoadLetter_13 : decode cX8_isRoadLetter 13 = .ok (.irem, 1) := by decide +kernel
theorem dX8_isRoadLetter_14 : decode cX8_isRoadLetter 14 = .ok (.lookupswitch 58 #[(0, 26), (1, 32)], 26) := by decide +kernel
theorem dX8_isRoadLetter_40 : decode cX8_isRoadLetter 40 = .ok (.aload_n 0, 1) := by decide +kernel
theorem dX8_isRoadLetter_41 : decode cX8_isRoadLetter 41 = .ok (.iload_n 2, 1) := by decide +kernel
theorem dX8_isRoadLetter_42 : decode cX8_isRoadLetter 42 = .ok (.invokevirtual 101, 3) := by decide +kernel
theorem dX8_isRoadLetter_45 : decode cX8_isRoadLetter 45 = .ok (.ireturn, 1) := by decide +kernel
theorem dX8_isRoadLetter_46 : decode cX8_isRoadLetter 46 = .ok (.aload_n 0, 1) := by decide +kernel
theorem dX8_isRoadLetter_47 : decode cX8_isRoadLetter 47 = .ok (.iload_n 2, 1) := by decide +kernel
theorem dX8_isRoadLetter_48 : decode cX8_isRoadLetter 48 = .ok (.invokevirtual 101, 3) := by decide +kernel
theorem dX8_isRoadLetter_51 : decode cX8_isRoadLetter 51 = .ok (.ifCond .eq 19, 3) := by decide +kernel
theorem dX8_isRoadLetter_54 : decode cX8_isRoadLetter 54 = .ok (.iload_n 2, 1) := by decide +kernel
theorem dX8_isRoadLetter_55 : decode cX8_isRoadLetter 55 = .ok (.aload_n 0, 1) := by decide +kernel
theorem dX8_isRoadLetter_56 : decode cX8_isRoadLetter 56 = .ok (.getfield 7, 3) := by decide +kernel
theorem dX8_isRoadLetter_59 : decode cX8_isRoadLetter 59 = .ok (.iload_n 1, 1) := by decide +kernel
theorem dX8_isRoadLetter_60 : decode cX8_isRoadLetter 60 = .ok (.iconst 1, 1) := by decide +kernel
theorem dX8_isRoadLetter_61 : decode cX8_isRoadLetter 61 = .ok (.isub, 1) := by decide +kernel
theorem dX8_isRoadLetter_62 : decode cX8_isRoadLetter 62 = .ok (.iaload, 1) := by decide +kernel
theorem dX8_isRoadLetter_63 : decode cX8_isRoadLetter 63 = .ok (.if_icmp .eq 7, 3) := by decide +kernel
theorem dX8_isRoadLetter_66 : decode cX8_isRoadLetter 66 = .ok (.iconst 1, 1) := by decide +kernel
theorem dX8_isRoadLetter_67 : decode cX8_isRoadLetter 67 = .ok (.goto 4, 3) := by decide +kernel
theorem dX8_isRoadLetter_70 : decode cX8_isRoadLetter 70 = .ok (.iconst 0, 1) := by decide +kernel
theorem dX8_isRoadLetter_71 : decode cX8_isRoadLetter 71 = .ok (.ireturn, 1) := by decide +kernel
theorem dX8_isRoadLetter_72 : decode cX8_isRoadLetter 72 = .ok (.iload_n 2, 1) := by decide +kernel
theorem dX8_isRoadLetter_73 : decode cX8_isRoadLetter 73 = .ok (.bipush 59, 2) := by decide +kernel
theorem dX8_isRoadLetter_75 : decode cX8_isRoadLetter 75 = .ok (.if_icmp .ne 10, 3) := by decide +kernel
theorem dX8_isRoadLetter_78 : decode cX8_isRoadLetter 78 = .ok (.aload_n 0, 1) := by decide +kernel
theorem dX8_isRoadLetter_79 : decode cX8_isRoadLetter 79 = .ok (.iload_n 1, 1) := by decide +kernel
theorem dX8_isRoadLetter_80 : decode cX8_isRoadLetter 80 = .ok (.putfield 105, 3) := by decide +kernel
theorem dX8_isRoadLetter_83 : decode cX8_isRoadLetter 83 = .ok (.iconst 1, 1) := by decide +kernel
theorem dX8_isRoadLetter_84 : decode cX8_isRoadLetter 84 = .ok (.ireturn, 1) := by decide +kernel
theorem dX8_isRoadLetter_85 : decode cX8_isRoadLetter 85 = .ok (.iload_n 2, 1) := by decide +kernel
theorem dX8_isRoadLetter_86 : decode cX8_isRoadLetter 86 = .ok (.bipush 44, 2) := by decide +kernel
theorem dX8_isRoadLetter_88 : decode cX8_isRoadLetter 88 = .ok (.if_icmp .ne 13, 3) := by decide +kernel
theorem dX8_isRoadLetter_91 : decode cX8_isRoadLetter 91 = .ok (.iload_n 3, 1) := by decide +kernel
theorem dX8_isRoadLetter_92 : decode cX8_isRoadLetter 92 = .ok (.bipush 23, 2) := by decide +kernel
theorem dX8_isRoadLetter_94 : decode cX8_isRoadLetter 94 = .ok (.if_icmp .ge 7, 3) := by decide +kernel
theorem dX8_isRoadLetter_97 : decode cX8_isRoadLetter 97 = .ok (.iconst 1, 1) := by decide +kernel
theorem dX8_isRoadLetter_98 : decode cX8_isRoadLetter 98 = .ok (.goto 4, 3) := by decide +kernel
theorem dX8_isRoadLetter_101 : decode cX8_isRoadLetter 101 = .ok (.iconst 0, 1) := by decide +kernel
theorem dX8_isRoadLetter_102 : decode cX8_isRoadLetter 102 = .ok (.ireturn, 1) := by decide +kernel
theorem dX8_isPersonLetter_0 : decode cX8_isPersonLetter 0 = .ok (.aload_n 0, 1) := by decide +kernel
theorem dX8_isPersonLetter_1 : decode cX8_isPersonLetter 1 = .ok (.getfield 7, 3) := by decide +kernel
theorem dX8_isPersonLetter_4 : decode cX8_isPersonLetter 4 = .ok (.iload_n 1, 1) := by decide +kernel
theorem dX8_isPersonLetter_5 : decode cX8_isPersonLetter 5 = .ok (.iaload, 1) := by decide +kernel
theorem dX8_isPersonLetter_6 : decode cX8_isPersonLetter 6 = .ok (.istore_n 2, 1) := by decide +kernel
theorem dX8_isPersonLetter_7 : decode cX8_isPersonLetter 7 = .ok (.iload_n 1, 1) := by decide +kernel
theorem dX8_isPersonLetter_8 : decode cX8_isPersonLetter 8 = .ok (.aload_n 0, 1) := by decide +kernel
theorem dX8_isPersonLetter_9 : decode cX8_isPersonLetter 9 = .ok (.getfield 105, 3) := by decide +kernel
theorem dX8_isPersonLetter_12 : decode cX8_isPersonLetter 12 = .ok (.isub, 1) := by decide +kernel
theorem dX8_isPersonLetter_13 : decode cX8_isPersonLetter 13 = .ok (.iconst 1, 1) := by decide +kernel
theorem dX8_isPersonLetter_14 : decode cX8_isPersonLetter 14 = .ok (.isub, 1) := by decide +kernel
theorem dX8_isPersonLetter_15 : decode cX8_isPersonLetter 15 = .ok (.istore_n 3, 1) := by decide +kernel
theorem dX8_isPersonLetter_16 : decode cX8_isPersonLetter 16 = .ok (.iload_n 3, 1) := by decide +kernel
theorem dX8_isPersonLetter_17 : decode cX8_isPersonLetter 17 = .ok (.iconst 5, 1) := by decide +kernel
theorem dX8_isPersonLetter_18 : decode cX8_isPersonLetter 18 = .ok (.irem, 1) := by decide +kernel
theorem dX8_isPersonLetter_19 : decode cX8_isPersonLetter 19 = .ok (.tableswitch 71 0 4 #[33, 47, 71, 71, 53], 33) := by decide +kernel
theorem dX8_isPersonLetter_52 : decode cX8_isPersonLetter 52 = .ok (.iload_n 2, 1) := by decide +kernel
theorem dX8_isPersonLetter_53 : decode cX8_isPersonLetter 53 = .ok (.invokestatic 108, 3) := by decide +kernel
theorem dX8_isPersonLetter_56 : decode cX8_isPersonLetter 56 = .ok (.iconst (-1), 1) := by decide +kernel
theorem dX8_isPersonLetter_57 : decode cX8_isPersonLetter 57 = .ok (.if_icmp .eq 7, 3) := by decide +kernel
theorem dX8_isPersonLetter_60 : decode cX8_isPersonLetter 60 = .ok (.iconst 1, 1) := by decide +kernel
theorem dX8_isPersonLetter_61 : decode cX8_isPersonLetter 61 = .ok (.goto 4, 3) := by decide +kernel
theorem dX8_isPersonLetter_64 : decode cX8_isPersonLetter 64 = .ok (.iconst 0, 1) := by decide +kernel
theorem dX8_isPersonLetter_65 : decode cX8_isPersonLetter 65 = .ok (.ireturn, 1) := by decide +kernel
theorem dX8_isPersonLetter_66 : decode cX8_isPersonLetter 66 = .ok (.aload_n 0, 1) := by decide +kernel
theorem dX8_isPersonLetter_67 : decode cX8_isPersonLetter 67 = .ok (.iload_n 2, 1) := by decide +kernel
theorem dX8_isPersonLetter_68 : decode cX8_isPersonLetter 68 = .ok (.invokevirtual 101, 3) := by decide +kernel
theorem dX8_isPersonLetter_71 : decode cX8_isPersonLetter 71 = .ok (.ireturn, 1) := by decide +kernel
theorem dX8_isPersonLetter_72 : decode cX8_isPersonLetter 72 = .ok (.iload_n 2, 1) := by decide +kernel
theorem dX8_isPersonLetter_73 : decode cX8_isPersonLetter 73 = .ok (.bipush 44, 2) := by decide +kernel
theorem dX8_isPersonLetter_75 : decode cX8_isPersonLetter 75 = .ok (.if_icmp .ne 13, 3) := by decide +kernel
theorem dX8_isPersonLetter_78 : decode cX8_isPersonLetter 78 = .ok (.iload_n 3, 1) := by decide +kernel
theorem dX8_isPersonLetter_79 : decode cX8_isPersonLetter 79 = .ok (.bipush 29, 2) := by decide +kernel
theorem dX8_isPersonLetter_81 : decode cX8_isPersonLetter 81 = .ok (.if_icmp .ge 7, 3) := by decide +kernel
theorem dX8_isPersonLetter_84 : decode cX8_isPersonLetter 84 = .ok (.iconst 1, 1) := by decide +kernel
theorem dX8_isPersonLetter_85 : decode cX8_isPersonLetter 85 = .ok (.goto 4, 3) := by decide +kernel
theorem dX8_isPersonLetter_88 : decode cX8_isPersonLetter 88 = .ok (.iconst 0, 1) := by decide +kernel
theorem dX8_isPersonLetter_89 : decode cX8_isPersonLetter 89 = .ok (.ireturn, 1) := by decide +kernel
theorem dX8_isPersonLetter_90 : decode cX8_isPersonLetter 90 = .ok (.iload_n 2, 1) := by decide +kernel
theorem dX8_isPersonLetter_91 : decode cX8_isPersonLetter 91 = .ok (.i2l, 1) := by decide +kernel
theorem dX8_isPersonLetter_92 : decode cX8_isPersonLetter 92 = .ok (.ldc2_w 99, 3) := by decide +kernel
theorem dX8_isPersonLetter_95 : decode cX8_isPersonLetter 95 = .ok (.ldc2_w 112, 3) := by decide +kernel
theorem dX8_isPersonLetter_98 : decode cX8_isPersonLetter 98 = .ok (.invokestatic 92, 3) := by decide +kernel
theorem dX8_isPersonLetter_101 : decode cX8_isPersonLetter 101 = .ok (.ireturn, 1) := by decide +kernel
theorem dX8_isGood_0 : decode cX8_isGood 0 = .ok (.iload_n 1, 1) := by decide +kernel
theorem dX8_isGood_1 : decode cX8_isGood 1 = .ok (.iconst 3, 1) := by decide +kernel
theorem dX8_isGood_2 : decode cX8_isGood 2 = .ok (.if_icmp .ge 61, 3) := by decide +kernel
theorem dX8_isGood_5 : decode cX8_isGood 5 = .ok (.iload_n 1, 1) := by decide +kernel
theorem dX8_isGood_6 : decode cX8_isGood 6 = .ok (.ifCond .ne 22, 3) := by decide +kernel
theorem dX8_isGood_9 : decode cX8_isGood 9 = .ok (.aload_n 0, 1) := by decide +kernel
theorem dX8_isGood_10 : decode cX8_isGood 10 = .ok (.getfield 7, 3) := by decide +kernel
theorem dX8_isGood_13 : decode cX8_isGood 13 = .ok (.iconst 0, 1) := by decide +kernel
theorem dX8_isGood_14 : decode cX8_isGood 14 = .ok (.iaload, 1) := by decide +kernel
theorem dX8_isGood_15 : decode cX8_isGood 15 = .ok (.i2l, 1) := by decide +kernel
theorem dX8_isGood_16 : decode cX8_isGood 16 = .ok (.ldc2_w 114, 3) := by decide +kernel
theorem dX8_isGood_19 : decode cX8_isGood 19 = .ok (.ldc2_w 116, 3) := by decide +kernel
theorem dX8_isGood_22 : decode cX8_isGood 22 = .ok (.invokestatic 92, 3) := by decide +kernel
theorem dX8_isGood_25 : decode cX8_isGood 25 = .ok (.goto 37, 3) := by decide +kernel
theorem dX8_isGood_28 : decode cX8_isGood 28 = .ok (.iload_n 1, 1) := by decide +kernel
theorem dX8_isGood_29 : decode cX8_isGood 29 = .ok (.iconst 1, 1) := by decide +kernel
theorem dX8_isGood_30 : decode cX8_isGood 30 = .ok (.if_icmp .ne 16, 3) := by decide +kernel
theorem dX8_isGood_33 : decode cX8_isGood 33 = .ok (.aload_n 0, 1) := by decide +kernel
theorem dX8_isGood_34 : decode cX8_isGood 34 = .ok (.aload_n 0, 1) := by decide +kernel
theorem dX8_isGood_35 : decode cX8_isGood 35 = .ok (.getfield 7, 3) := by decide +kernel
theorem dX8_isGood_38 : decode cX8_isGood 38 = .ok (.iconst 1, 1) := by decide +kernel
theorem dX8_isGood_39 : decode cX8_isGood 39 = .ok (.iaload, 1) := by decide +kernel
theorem dX8_isGood_40 : decode cX8_isGood 40 = .ok (.invokevirtual 101, 3) := by decide +kernel
theorem dX8_isGood_43 : decode cX8_isGood 43 = .ok (.goto 19, 3) := by decide +kernel
theorem dX8_isGood_46 : decode cX8_isGood 46 = .ok (.aload_n 0, 1) := by decide +kernel
theorem dX8_isGood_47 : decode cX8_isGood 47 = .ok (.getfield 7, 3) := by decide +kernel
theorem dX8_isGood_50 : decode cX8_isGood 50 = .ok (.iconst 2, 1) := by decide +kernel
theorem dX8_isGood_51 : decode cX8_isGood 51 = .ok (.iaload, 1) := by decide +kernel
theorem dX8_isGood_52 : decode cX8_isGood 52 = .ok (.bipush 59, 2) := by decide +kernel
theorem dX8_isGood_54 : decode cX8_isGood 54 = .ok (.if_icmp .ne 7, 3) := by decide +kernel
theorem dX8_isGood_57 : decode cX8_isGood 57 = .ok (.iconst 1, 1) := by decide +kernel
theorem dX8_isGood_58 : decode cX8_isGood 58 = .ok (.goto 4, 3) := by decide +kernel
theorem dX8_isGood_61 : decode cX8_isGood 61 = .ok (.iconst 0, 1) := by decide +kernel
theorem dX8_isGood_62 : decode cX8_isGood 62 = .ok (.ireturn, 1) := by decide +kernel
theorem dX8_isGood_63 : decode cX8_isGood 63 = .ok (.aload_n 0, 1) := by decide +kernel
theorem dX8_isGood_64 : decode cX8_isGood 64 = .ok (.getfield 105, 3) := by decide +kernel
theorem dX8_isGood_67 : decode cX8_isGood 67 = .ok (.ifCond .ne 11, 3) := by decide +kernel
theorem dX8_isGood_70 : decode cX8_isGood 70 = .ok (.aload_n 0, 1) := by decide +kernel
theorem dX8_isGood_71 : decode cX8_isGood 71 = .ok (.iload_n 1, 1) := by decide +kernel
theorem dX8_isGood_72 : decode cX8_isGood 72 = .ok (.invokevirtual 118, 3) := by decide +kernel
theorem dX8_isGood_75 : decode cX8_isGood 75 = .ok (.goto 8, 3) := by decide +kernel
theorem dX8_isGood_78 : decode cX8_isGood 78 = .ok (.aload_n 0, 1) := by decide +kernel
theorem dX8_isGood_79 : decode cX8_isGood 79 = .ok (.iload_n 1, 1) := by decide +kernel
theorem dX8_isGood_80 : decode cX8_isGood 80 = .ok (.invokevirtual 121, 3) := by decide +kernel
theorem dX8_isGood_83 : decode cX8_isGood 83 = .ok (.ireturn, 1) := by decide +kernel
theorem dX8_faultOf_0 : decode cX8_faultOf 0 = .ok (.aload_n 0, 1) := by decide +kernel
theorem dX8_faultOf_1 : decode cX8_faultOf 1 = .ok (.iconst 0, 1) := by decide +kernel
theorem dX8_faultOf_2 : decode cX8_faultOf 2 = .ok (.putfield 105, 3) := by decide +kernel
theorem dX8_faultOf_5 : decode cX8_faultOf 5 = .ok (.iconst 0, 1) := by decide +kernel
theorem dX8_faultOf_6 : decode cX8_faultOf 6 = .ok (.istore_n 1, 1) := by decide +kernel
theorem dX8_faultOf_7 : decode cX8_faultOf 7 = .ok (.iload_n 1, 1) := by decide +kernel
theorem dX8_faultOf_8 : decode cX8_faultOf 8 = .ok (.aload_n 0, 1) := by decide +kernel
theorem dX8_faultOf_9 : decode cX8_faultOf 9 = .ok (.getfield 96, 3) := by decide +kernel
theorem dX8_faultOf_12 : decode cX8_faultOf 12 = .ok (.if_icmp .ge 17, 3) := by decide +kernel
theorem dX8_faultOf_15 : decode cX8_faultOf 15 = .ok (.aload_n 0, 1) := by decide +kernel
theorem dX8_faultOf_16 : decode cX8_faultOf 16 = .ok (.iload_n 1, 1) := by decide +kernel
theorem dX8_faultOf_17 : decode cX8_faultOf 17 = .ok (.invokevirtual 124, 3) := by decide +kernel
theorem dX8_faultOf_20 : decode cX8_faultOf 20 = .ok (.ifCond .eq 9, 3) := by decide +kernel
theorem dX8_faultOf_23 : decode cX8_faultOf 23 = .ok (.iinc 1 1, 3) := by decide +kernel
theorem dX8_faultOf_26 : decode cX8_faultOf 26 = .ok (.goto (-19), 3) := by decide +kernel
theorem dX8_faultOf_29 : decode cX8_faultOf 29 = .ok (.iload_n 1, 1) := by decide +kernel
theorem dX8_faultOf_30 : decode cX8_faultOf 30 = .ok (.ireturn, 1) := by decide +kernel
theorem dX8_fault_0 : decode cX8_fault 0 = .ok (.aload_n 0, 1) := by decide +kernel
theorem dX8_fault_1 : decode cX8_fault 1 = .ok (.invokevirtual 127, 3) := by decide +kernel
theorem dX8_fault_4 : decode cX8_fault 4 = .ok (.ireturn, 1) := by decide +kernel
theorem dX8_layFars_0 : decode cX8_layFars 0 = .ok (.iconst 0, 1) := by decide +kernel
theorem dX8_layFars_1 : decode cX8_layFars 1 = .ok (.istore_n 1, 1) := by decide +kernel
theorem dX8_layFars_2 : decode cX8_layFars 2 = .ok (.iload_n 1, 1) := by decide +kernel
theorem dX8_layFars_3 : decode cX8_layFars 3 = .ok (.bipush 36, 2) := by decide +kernel
theorem dX8_layFars_5 : decode cX8_layFars 5 = .ok (.if_icmp .ge 32, 3) := by decide +kernel
theorem dX8_layFars_8 : decode cX8_layFars 8 = .ok (.aload_n 0, 1) := by decide +kernel
theorem dX8_layFars_9 : decode cX8_layFars 9 = .ok (.getfield 37, 3) := by decide +kernel
theorem dX8_layFars_12 : decode cX8_layFars 12 = .ok (.iload_n 1, 1) := by decide +kernel
theorem dX8_layFars_13 : decode cX8_layFars 13 = .ok (.iload_n 1, 1) := by decide +kernel
theorem dX8_layFars_14 : decode cX8_layFars 14 = .ok (.bipush 6, 2) := by decide +kernel
theorem dX8_layFars_16 : decode cX8_layFars 16 = .ok (.idiv, 1) := by decide +kernel
theorem dX8_layFars_17 : decode cX8_layFars 17 = .ok (.iload_n 1, 1) := by decide +kernel
theorem dX8_layFars_18 : decode cX8_layFars 18 = .ok (.bipush 6, 2) := by decide +kernel
theorem dX8_layFars_20 : decode cX8_layFars 20 = .ok (.irem, 1) := by decide +kernel
theorem dX8_layFars_21 : decode cX8_layFars 21 = .ok (.if_icmp .ne 7, 3) := by decide +kernel
theorem dX8_layFars_24 : decode cX8_layFars 24 = .ok (.iconst 0, 1) := by decide +kernel
theorem dX8_layFars_25 : decode cX8_layFars 25 = .ok (.goto 5, 3) := by decide +kernel
theorem dX8_layFars_28 : decode cX8_layFars 28 = .ok (.bipush 99, 2) := by decide +kernel
theorem dX8_layFars_30 : decode cX8_layFars 30 = .ok (.iastore, 1) := by decide +kernel
theorem dX8_layFars_31 : decode cX8_layFars 31 = .ok (.iinc 1 1, 3) := by decide +kernel
theorem dX8_layFars_34 : decode cX8_layFars 34 = .ok (.goto (-32), 3) := by decide +kernel
theorem dX8_layFars_37 : decode cX8_layFars 37 = .ok (.iconst 0, 1) := by decide +kernel
theorem dX8_layFars_38 : decode cX8_layFars 38 = .ok (.istore_n 1, 1) := by decide +kernel
theorem dX8_layFars_39 : decode cX8_layFars 39 = .ok (.iload_n 1, 1) := by decide +kernel
theorem dX8_layFars_40 : decode cX8_layFars 40 = .ok (.bipush 6, 2) := by decide +kernel
theorem dX8_layFars_42 : decode cX8_layFars 42 = .ok (.if_icmp .ge 155, 3) := by decide +kernel
theorem dX8_layFars_45 : decode cX8_layFars 45 = .ok (.iconst 0, 1) := by decide +kernel
theorem dX8_layFars_46 : decode cX8_layFars 46 = .ok (.istore_n 2, 1) := by decide +kernel
theorem dX8_layFars_47 : decode cX8_layFars 47 = .ok (.iload_n 2, 1) := by decide +kernel
theorem dX8_layFars_48 : decode cX8_layFars 48 = .ok (.aload_n 0, 1) := by decide +kernel
theorem dX8_layFars_49 : decode cX8_layFars 49 = .ok (.getfield 131, 3) := by decide +kernel
theorem dX8_layFars_52 : decode cX8_layFars 52 = .ok (.if_icmp .ge 139, 3) := by decide +kernel
theorem dX8_layFars_55 : decode cX8_layFars 55 = .ok (.iconst 0, 1) := by decide +kernel
theorem dX8_layFars_56 : decode cX8_layFars 56 = .ok (.istore_n 3, 1) := by decide +kernel
theorem dX8_layFars_57 : decode cX8_layFars 57 = .ok (.iload_n 3, 1) := by decide +kernel
theorem dX8_layFars_58 : decode cX8_layFars 58 = .ok (.bipush 6, 2) := by decide +kernel
theorem dX8_layFars_60 : decode cX8_layFars 60 = .ok (.if_icmp .ge 125, 3) := by decide +kernel
theorem dX8_layFars_63 : decode cX8_layFars 63 = .ok (.bipush 6, 2) := by decide +kernel
theorem dX8_layFars_65 : decode cX8_layFars 65 = .ok (.aload_n 0, 1) := by decide +kernel
theorem dX8_layFars_66 : decode cX8_layFars 66 = .ok (.getfield 13, 3) := by decide +kernel
theorem dX8_layFars_69 : decode cX8_layFars 69 = .ok (.iload_n 2, 1) := by decide +kernel
theorem dX8_layFars_70 : decode cX8_layFars 70 = .ok (.iaload, 1) := by decide +kernel
theorem dX8_layFars_71 : decode cX8_layFars 71 = .ok (.imul, 1) := by decide +kernel
theorem dX8_layFars_72 : decode cX8_layFars 72 = .ok (.iload_n 3, 1) := by decide +kernel
theorem dX8_layFars_73 : decode cX8_layFars 73 = .ok (.iadd, 1) := by decide +kernel
theorem dX8_layFars_74 : decode cX8_layFars 74 = .ok (.istore 4, 2) := by decide +kernel
theorem dX8_layFars_76 : decode cX8_layFars 76 = .ok (.bipush 6, 2) := by decide +kernel
theorem dX8_layFars_78 : decode cX8_layFars 78 = .ok (.aload_n 0, 1) := by decide +kernel
theorem dX8_layFars_79 : decode cX8_layFars 79 = .ok (.getfield 16, 3) := by decide +kernel
theorem dX8_layFars_82 : decode cX8_layFars 82 = .ok (.iload_n 2, 1) := by decide +kernel
theorem dX8_layFars_83 : decode cX8_layFars 83 = .ok (.iaload, 1) := by decide +kernel
theorem dX8_layFars_84 : decode cX8_layFars 84 = .ok (.imul, 1) := by decide +kernel
theorem dX8_layFars_85 : decode cX8_layFars 85 = .ok (.iload_n 3, 1) := by decide +kernel
theorem dX8_layFars_86 : decode cX8_layFars 86 = .ok (.iadd, 1) := by decide +kernel
theorem dX8_layFars_87 : decode cX8_layFars 87 = .ok (.istore 5, 2) := by decide +kernel
theorem dX8_layFars_89 : decode cX8_layFars 89 = .ok (.aload_n 0, 1) := by decide +kernel
theorem dX8_layFars_90 : decode cX8_layFars 90 = .ok (.getfield 37, 3) := by decide +kernel
theorem dX8_layFars_93 : decode cX8_layFars 93 = .ok (.iload 4, 2) := by decide +kernel
theorem dX8_layFars_95 : decode cX8_layFars 95 = .ok (.aload_n 0, 1) := by decide +kernel
theorem dX8_layFars_96 : decode cX8_layFars 96 = .ok (.getfield 37, 3) := by decide +kernel
theorem dX8_layFars_99 : decode cX8_layFars 99 = .ok (.iload 5, 2) := by decide +kernel
theorem dX8_layFars_101 : decode cX8_layFars 101 = .ok (.iaload, 1) := by decide +kernel
theorem dX8_layFars_102 : decode cX8_layFars 102 = .ok (.iconst 1, 1) := by decide +kernel
theorem dX8_layFars_103 : decode cX8_layFars 103 = .ok (.iadd, 1) := by decide +kernel
theorem dX8_layFars_104 : decode cX8_layFars 104 = .ok (.aload_n 0, 1) := by decide +kernel
theorem dX8_layFars_105 : decode cX8_layFars 105 = .ok (.getfield 37, 3) := by decide +kernel
theorem dX8_layFars_108 : decode cX8_layFars 108 = .ok (.iload 4, 2) := by decide +kernel
theorem dX8_layFars_110 : decode cX8_layFars 110 = .ok (.iaload, 1) := by decide +kernel
theorem dX8_layFars_111 : decode cX8_layFars 111 = .ok (.if_icmp .ge 15, 3) := by decide +kernel
theorem dX8_layFars_114 : decode cX8_layFars 114 = .ok (.aload_n 0, 1) := by decide +kernel
theorem dX8_layFars_115 : decode cX8_layFars 115 = .ok (.getfield 37, 3) := by decide +kernel
theorem dX8_layFars_118 : decode cX8_layFars 118 = .ok (.iload 5, 2) := by decide +kernel
theorem dX8_layFars_120 : decode cX8_layFars 120 = .ok (.iaload, 1) := by decide +kernel
theorem dX8_layFars_121 : decode cX8_layFars 121 = .ok (.iconst 1, 1) := by decide +kernel
theorem dX8_layFars_122 : decode cX8_layFars 122 = .ok (.iadd, 1) := by decide +kernel
theorem dX8_layFars_123 : decode cX8_layFars 123 = .ok (.goto 10, 3) := by decide +kernel
theorem dX8_layFars_126 : decode cX8_layFars 126 = .ok (.aload_n 0, 1) := by decide +kernel
theorem dX8_layFars_127 : decode cX8_layFars 127 = .ok (.getfield 37, 3) := by decide +kernel
theorem dX8_layFars_130 : decode cX8_layFars 130 = .ok (.iload 4, 2) := by decide +kernel
theorem dX8_layFars_132 : decode cX8_layFars 132 = .ok (.iaload, 1) := by decide +kernel
theorem dX8_layFars_133 : decode cX8_layFars 133 = .ok (.iastore, 1) := by decide +kernel
theorem dX8_layFars_134 : decode cX8_layFars 134 = .ok (.aload_n 0, 1) := by decide +kernel
theorem dX8_layFars_135 : decode cX8_layFars 135 = .ok (.getfield 37, 3) := by decide +kernel
theorem dX8_layFars_138 : decode cX8_layFars 138 = .ok (.iload 5, 2) := by decide +kernel
theorem dX8_layFars_140 : decode cX8_layFars 140 = .ok (.aload_n 0, 1) := by decide +kernel
theorem dX8_layFars_141 : decode cX8_layFars 141 = .ok (.getfield 37, 3) := by decide +kernel
theorem dX8_layFars_144 : decode cX8_layFars 144 = .ok (.iload 4, 2) := by decide +kernel
theorem dX8_layFars_146 : decode cX8_layFars 146 = .ok (.iaload, 1) := by decide +kernel
theorem dX8_layFars_147 : decode cX8_layFars 147 = .ok (.iconst 1, 1) := by decide +kernel
theorem dX8_layFars_148 : decode cX8_layFars 148 = .ok (.iadd, 1) := by decide +kernel
theorem dX8_layFars_149 : decode cX8_layFars 149 = .ok (.aload_n 0, 1) := by decide +kernel
theorem dX8_layFars_150 : decode cX8_layFars 150 = .ok (.getfield 37, 3) := by decide +kernel
theorem dX8_layFars_153 : decode cX8_layFars 153 = .ok (.iload 5, 2) := by decide +kernel
theorem dX8_layFars_155 : decode cX8_layFars 155 = .ok (.iaload, 1) := by decide +kernel
theorem dX8_layFars_156 : decode cX8_layFars 156 = .ok (.if_icmp .ge 15, 3) := by decide +kernel
theorem dX8_layFars_159 : decode cX8_layFars 159 = .ok (.aload_n 0, 1) := by decide +kernel
theorem dX8_layFars_160 : decode cX8_layFars 160 = .ok (.getfield 37, 3) := by decide +kernel
theorem dX8_layFars_163 : decode cX8_layFars 163 = .ok (.iload 4, 2) := by decide +kernel
theorem dX8_layFars_165 : decode cX8_layFars 165 = .ok (.iaload, 1) := by decide +kernel
theorem dX8_layFars_166 : decode cX8_layFars 166 = .ok (.iconst 1, 1) := by decide +kernel
theorem dX8_layFars_167 : decode cX8_layFars 167 = .ok (.iadd, 1) := by decide +kernel
theorem dX8_layFars_168 : decode cX8_layFars 168 = .ok (.goto 10, 3) := by decide +kernel
theorem dX8_layFars_171 : decode cX8_layFars 171 = .ok (.aload_n 0, 1) := by decide +kernel
theorem dX8_layFars_172 : decode cX8_layFars 172 = .ok (.getfield 37, 3) := by decide +kernel
theorem dX8_layFars_175 : decode cX8_layFars 175 = .ok (.iload 5, 2) := by decide +kernel
theorem dX8_layFars_177 : decode cX8_layFars 177 = .ok (.iaload, 1) := by decide +kernel
theorem dX8_layFars_178 : decode cX8_layFars 178 = .ok (.iastore, 1) := by decide +kernel
theorem dX8_layFars_179 : decode cX8_layFars 179 = .ok (.iinc 3 1, 3) := by decide +kernel
theorem dX8_layFars_182 : decode cX8_layFars 182 = .ok (.goto (-125), 3) := by decide +kernel
theorem dX8_layFars_185 : decode cX8_layFars 185 = .ok (.iinc 2 1, 3) := by decide +kernel
theorem dX8_layFars_188 : decode cX8_layFars 188 = .ok (.goto (-141), 3) := by decide +kernel
theorem dX8_layFars_191 : decode cX8_layFars 191 = .ok (.iinc 1 1, 3) := by decide +kernel
theorem dX8_layFars_194 : decode cX8_layFars 194 = .ok (.goto (-155), 3) := by decide +kernel
theorem dX8_layFars_197 : decode cX8_layFars 197 = .ok (.return_, 1) := by decide +kernel
theorem dX8_suburb_0 : decode cX8_suburb 0 = .ok (.aload_n 0, 1) := by decide +kernel
theorem dX8_suburb_1 : decode cX8_suburb 1 = .ok (.invokevirtual 127, 3) := by decide +kernel
theorem dX8_suburb_4 : decode cX8_suburb 4 = .ok (.aload_n 0, 1) := by decide +kernel
theorem dX8_suburb_5 : decode cX8_suburb 5 = .ok (.getfield 96, 3) := by decide +kernel
theorem dX8_suburb_8 : decode cX8_suburb 8 = .ok (.if_icmp .lt 38, 3) := by decide +kernel
theorem dX8_suburb_11 : decode cX8_suburb 11 = .ok (.aload_n 0, 1) := by decide +kernel
theorem dX8_suburb_12 : decode cX8_suburb 12 = .ok (.getfield 105, 3) := by decide +kernel
theorem dX8_suburb_15 : decode cX8_suburb 15 = .ok (.ifCond .eq 31, 3) := by decide +kernel
theorem dX8_suburb_18 : decode cX8_suburb 18 = .ok (.aload_n 0, 1) := by decide +kernel
theorem dX8_suburb_19 : decode cX8_suburb 19 = .ok (.getfield 96, 3) := by decide +kernel
theorem dX8_suburb_22 : decode cX8_suburb 22 = .ok (.aload_n 0, 1) := by decide +kernel
theorem dX8_suburb_23 : decode cX8_suburb 23 = .ok (.getfield 105, 3) := by decide +kernel
theorem dX8_suburb_26 : decode cX8_suburb 26 = .ok (.bipush 10, 2) := by decide +kernel
theorem dX8_suburb_28 : decode cX8_suburb 28 = .ok (.iadd, 1) := by decide +kernel
theorem dX8_suburb_29 : decode cX8_suburb 29 = .ok (.if_icmp .lt 17, 3) := by decide +kernel
theorem dX8_suburb_32 : decode cX8_suburb 32 = .ok (.aload_n 0, 1) := by decide +kernel
theorem dX8_suburb_33 : decode cX8_suburb 33 = .ok (.getfield 96, 3) := by decide +kernel
theorem dX8_suburb_36 : decode cX8_suburb 36 = .ok (.aload_n 0, 1) := by decide +kernel
theorem dX8_suburb_37 : decode cX8_suburb 37 = .ok (.getfield 105, 3) := by decide +kernel
theorem dX8_suburb_40 : decode cX8_suburb 40 = .ok (.isub, 1) := by decide +kernel
theorem dX8_suburb_41 : decode cX8_suburb 41 = .ok (.iconst 5, 1) := by decide +kernel
theorem dX8_suburb_42 : decode cX8_suburb 42 = .ok (.irem, 1) := by decide +kernel
theorem dX8_suburb_43 : decode cX8_suburb 43 = .ok (.ifCond .eq 6, 3) := by decide +kernel
theorem dX8_suburb_46 : decode cX8_suburb 46 = .ok (.bipush (-103), 2) := by decide +kernel
theorem dX8_suburb_48 : decode cX8_suburb 48 = .ok (.ireturn, 1) := by decide +kernel
theorem dX8_suburb_49 : decode cX8_suburb 49 = .ok (.aload_n 0, 1) := by decide +kernel
theorem dX8_suburb_50 : decode cX8_suburb 50 = .ok (.aload_n 0, 1) := by decide +kernel
theorem dX8_suburb_51 : decode cX8_suburb 51 = .ok (.getfield 7, 3) := by decide +kernel
theorem dX8_suburb_54 : decode cX8_suburb 54 = .ok (.iconst 0, 1) := by decide +kernel
theorem dX8_suburb_55 : decode cX8_suburb 55 = .ok (.iaload, 1) := by decide +kernel
theorem dX8_suburb_56 : decode cX8_suburb 56 = .ok (.bipush 48, 2) := by decide +kernel
theorem dX8_suburb_58 : decode cX8_suburb 58 = .ok (.isub, 1) := by decide +kernel
theorem dX8_suburb_59 : decode cX8_suburb 59 = .ok (.putfield 134, 3) := by decide +kernel
theorem dX8_suburb_62 : decode cX8_suburb 62 = .ok (.aload_n 0, 1) := by decide +kernel
theorem dX8_suburb_63 : decode cX8_suburb 63 = .ok (.aload_n 0, 1) := by decide +kernel
theorem dX8_suburb_64 : decode cX8_suburb 64 = .ok (.getfield 7, 3) := by decide +kernel
theorem dX8_suburb_67 : decode cX8_suburb 67 = .ok (.iconst 1, 1) := by decide +kernel
theorem dX8_suburb_68 : decode cX8_suburb 68 = .ok (.iaload, 1) := by decide +kernel
theorem dX8_suburb_69 : decode cX8_suburb 69 = .ok (.bipush 48, 2) := by decide +kernel
theorem dX8_suburb_71 : decode cX8_suburb 71 = .ok (.isub, 1) := by decide +kernel
theorem dX8_suburb_72 : decode cX8_suburb 72 = .ok (.putfield 137, 3) := by decide +kernel
theorem dX8_suburb_75 : decode cX8_suburb 75 = .ok (.aload_n 0, 1) := by decide +kernel
theorem dX8_suburb_76 : decode cX8_suburb 76 = .ok (.aload_n 0, 1) := by decide +kernel
theorem dX8_suburb_77 : decode cX8_suburb 77 = .ok (.getfield 105, 3) := by decide +kernel
theorem dX8_suburb_80 : decode cX8_suburb 80 = .ok (.iconst 2, 1) := by decide +kernel
theorem dX8_suburb_81 : decode cX8_suburb 81 = .ok (.isub, 1) := by decide +kernel
theorem dX8_suburb_82 : decode cX8_suburb 82 = .ok (.iconst 3, 1) := by decide +kernel
theorem dX8_suburb_83 : decode cX8_suburb 83 = .ok (.idiv, 1) := by decide +kernel
theorem dX8_suburb_84 : decode cX8_suburb 84 = .ok (.putfield 131, 3) := by decide +kernel
theorem dX8_suburb_87 : decode cX8_suburb 87 = .ok (.aload_n 0, 1) := by decide +kernel
theorem dX8_suburb_88 : decode cX8_suburb 88 = .ok (.aload_n 0, 1) := by decide +kernel
theorem dX8_suburb_89 : decode cX8_suburb 89 = .ok (.getfield 96, 3) := by decide +kernel
theorem dX8_suburb_92 : decode cX8_suburb 92 = .ok (.aload_n 0, 1) := by decide +kernel
theorem dX8_suburb_93 : decode cX8_suburb 93 = .ok (.getfield 105, 3) := by decide +kernel
theorem dX8_suburb_96 : decode cX8_suburb 96 = .ok (.isub, 1) := by decide +kernel
theorem dX8_suburb_97 : decode cX8_suburb 97 = .ok (.iconst 5, 1) := by decide +kernel
theorem dX8_suburb_98 : decode cX8_suburb 98 = .ok (.idiv, 1) := by decide +kernel
theorem dX8_suburb_99 : decode cX8_suburb 99 = .ok (.putfield 140, 3) := by decide +kernel
theorem dX8_suburb_102 : decode cX8_suburb 102 = .ok (.iconst 0, 1) := by decide +kernel
theorem dX8_suburb_103 : decode cX8_suburb 103 = .ok (.istore_n 1, 1) := by decide +kernel
theorem dX8_suburb_104 : decode cX8_suburb 104 = .ok (.iload_n 1, 1) := by decide +kernel
theorem dX8_suburb_105 : decode cX8_suburb 105 = .ok (.aload_n 0, 1) := by decide +kernel
theorem dX8_suburb_106 : decode cX8_suburb 106 = .ok (.getfield 131, 3) := by decide +kernel
theorem dX8_suburb_109 : decode cX8_suburb 109 = .ok (.if_icmp .ge 47, 3) := by decide +kernel
theorem dX8_suburb_112 : decode cX8_suburb 112 = .ok (.aload_n 0, 1) := by decide +kernel
theorem dX8_suburb_113 : decode cX8_suburb 113 = .ok (.getfield 13, 3) := by decide +kernel
theorem dX8_suburb_116 : decode cX8_suburb 116 = .ok (.iload_n 1, 1) := by decide +kernel
theorem dX8_suburb_117 : decode cX8_suburb 117 = .ok (.aload_n 0, 1) := by decide +kernel
theorem dX8_suburb_118 : decode cX8_suburb 118 = .ok (.getfield 7, 3) := by decide +kernel
theorem dX8_suburb_121 : decode cX8_suburb 121 = .ok (.iconst 3, 1) := by decide +kernel
theorem dX8_suburb_122 : decode cX8_suburb 122 = .ok (.iconst 3, 1) := by decide +kernel
theorem dX8_suburb_123 : decode cX8_suburb 123 = .ok (.iload_n 1, 1) := by decide +kernel
theorem dX8_suburb_124 : decode cX8_suburb 124 = .ok (.imul, 1) := by decide +kernel
theorem dX8_suburb_125 : decode cX8_suburb 125 = .ok (.iadd, 1) := by decide +kernel
theorem dX8_suburb_126 : decode cX8_suburb 126 = .ok (.iaload, 1) := by decide +kernel
theorem dX8_suburb_127 : decode cX8_suburb 127 = .ok (.bipush 48, 2) := by decide +kernel
theorem dX8_suburb_129 : decode cX8_suburb 129 = .ok (.isub, 1) := by decide +kernel
theorem dX8_suburb_130 : decode cX8_suburb 130 = .ok (.iastore, 1) := by decide +kernel
theorem dX8_suburb_131 : decode cX8_suburb 131 = .ok (.aload_n 0, 1) := by decide +kernel
theorem dX8_suburb_132 : decode cX8_suburb 132 = .ok (.getfield 16, 3) := by decide +kernel
theorem dX8_suburb_135 : decode cX8_suburb 135 = .ok (.iload_n 1, 1) := by decide +kernel
theorem dX8_suburb_136 : decode cX8_suburb 136 = .ok (.aload_n 0, 1) := by decide +kernel
theorem dX8_suburb_137 : decode cX8_suburb 137 = .ok (.getfield 7, 3) := by decide +kernel
theorem dX8_suburb_140 : decode cX8_suburb 140 = .ok (.iconst 4, 1) := by decide +kernel
theorem dX8_suburb_141 : decode cX8_suburb 141 = .ok (.iconst 3, 1) := by decide +kernel
theorem dX8_suburb_142 : decode cX8_suburb 142 = .ok (.iload_n 1, 1) := by decide +kernel
theorem dX8_suburb_143 : decode cX8_suburb 143 = .ok (.imul, 1) := by decide +kernel
theorem dX8_suburb_144 : decode cX8_suburb 144 = .ok (.iadd, 1) := by decide +kernel
theorem dX8_suburb_145 : decode cX8_suburb 145 = .ok (.iaload, 1) := by decide +kernel
theorem dX8_suburb_146 : decode cX8_suburb 146 = .ok (.bipush 48, 2) := by decide +kernel
theorem dX8_suburb_148 : decode cX8_suburb 148 = .ok (.isub, 1) := by decide +kernel
theorem dX8_suburb_149 : decode cX8_suburb 149 = .ok (.iastore, 1) := by decide +kernel
theorem dX8_suburb_150 : decode cX8_suburb 150 = .ok (.iinc 1 1, 3) := by decide +kernel
theorem dX8_suburb_153 : decode cX8_suburb 153 = .ok (.goto (-49), 3) := by decide +kernel
theorem dX8_suburb_156 : decode cX8_suburb 156 = .ok (.iconst 0, 1) := by decide +kernel
theorem dX8_suburb_157 : decode cX8_suburb 157 = .ok (.istore_n 1, 1) := by decide +kernel
theorem dX8_suburb_158 : decode cX8_suburb 158 = .ok (.iload_n 1, 1) := by decide +kernel
theorem dX8_suburb_159 : decode cX8_suburb 159 = .ok (.aload_n 0, 1) := by decide +kernel
theorem dX8_suburb_160 : decode cX8_suburb 160 = .ok (.getfield 140, 3) := by decide +kernel
theorem dX8_suburb_163 : decode cX8_suburb 163 = .ok (.if_icmp .ge 100, 3) := by decide +kernel
theorem dX8_suburb_166 : decode cX8_suburb 166 = .ok (.aload_n 0, 1) := by decide +kernel
theorem dX8_suburb_167 : decode cX8_suburb 167 = .ok (.getfield 105, 3) := by decide +kernel
theorem dX8_suburb_170 : decode cX8_suburb 170 = .ok (.iconst 1, 1) := by decide +kernel
theorem dX8_suburb_171 : decode cX8_suburb 171 = .ok (.iadd, 1) := by decide +kernel
theorem dX8_suburb_172 : decode cX8_suburb 172 = .ok (.iconst 5, 1) := by decide +kernel
theorem dX8_suburb_173 : decode cX8_suburb 173 = .ok (.iload_n 1, 1) := by decide +kernel
theorem dX8_suburb_174 : decode cX8_suburb 174 = .ok (.imul, 1) := by decide +kernel
theorem dX8_suburb_175 : decode cX8_suburb 175 = .ok (.iadd, 1) := by decide +kernel
theorem dX8_suburb_176 : decode cX8_suburb 176 = .ok (.istore_n 2, 1) := by decide +kernel
theorem dX8_suburb_177 : decode cX8_suburb 177 = .ok (.aload_n 0, 1) := by decide +kernel
theorem dX8_suburb_178 : decode cX8_suburb 178 = .ok (.getfield 19, 3) := by decide +kernel
theorem dX8_suburb_181 : decode cX8_suburb 181 = .ok (.iload_n 1, 1) := by decide +kernel
theorem dX8_suburb_182 : decode cX8_suburb 182 = .ok (.aload_n 0, 1) := by decide +kernel
theorem dX8_suburb_183 : decode cX8_suburb 183 = .ok (.getfield 7, 3) := by decide +kernel
theorem dX8_suburb_186 : decode cX8_suburb 186 = .ok (.iload_n 2, 1) := by decide +kernel
theorem dX8_suburb_187 : decode cX8_suburb 187 = .ok (.iaload, 1) := by decide +kernel
theorem dX8_suburb_188 : decode cX8_suburb 188 = .ok (.invokestatic 108, 3) := by decide +kernel
theorem dX8_suburb_191 : decode cX8_suburb 191 = .ok (.iastore, 1) := by decide +kernel
theorem dX8_suburb_192 : decode cX8_suburb 192 = .ok (.aload_n 0, 1) := by decide +kernel
theorem dX8_suburb_193 : decode cX8_suburb 193 = .ok (.getfield 22, 3) := by decide +kernel
theorem dX8_suburb_196 : decode cX8_suburb 196 = .ok (.iload_n 1, 1) := by decide +kernel
theorem dX8_suburb_197 : decode cX8_suburb 197 = .ok (.aload_n 0, 1) := by decide +kernel
theorem dX8_suburb_198 : decode cX8_suburb 198 = .ok (.getfield 7, 3) := by decide +kernel
theorem dX8_suburb_201 : decode cX8_suburb 201 = .ok (.iload_n 2, 1) := by decide +kernel
theorem dX8_suburb_202 : decode cX8_suburb 202 = .ok (.iconst 1, 1) := by decide +kernel
theorem dX8_suburb_203 : decode cX8_suburb 203 = .ok (.iadd, 1) := by decide +kernel
theorem dX8_suburb_204 : decode cX8_suburb 204 = .ok (.iaload, 1) := by decide +kernel
theorem dX8_suburb_205 : decode cX8_suburb 205 = .ok (.bipush 48, 2) := by decide +kernel
theorem dX8_suburb_207 : decode cX8_suburb 207 = .ok (.isub, 1) := by decide +kernel
theorem dX8_suburb_208 : decode cX8_suburb 208 = .ok (.iastore, 1) := by decide +kernel
theorem dX8_suburb_209 : decode cX8_suburb 209 = .ok (.aload_n 0, 1) := by decide +kernel
theorem dX8_suburb_210 : decode cX8_suburb 210 = .ok (.getfield 25, 3) := by decide +kernel
theorem dX8_suburb_213 : decode cX8_suburb 213 = .ok (.iload_n 1, 1) := by decide +kernel
theorem dX8_suburb_214 : decode cX8_suburb 214 = .ok (.aload_n 0, 1) := by decide +kernel
theorem dX8_suburb_215 : decode cX8_suburb 215 = .ok (.getfield 7, 3) := by decide +kernel
theorem dX8_suburb_218 : decode cX8_suburb 218 = .ok (.iload_n 2, 1) := by decide +kernel
theorem dX8_suburb_219 : decode cX8_suburb 219 = .ok (.iconst 2, 1) := by decide +kernel
theorem dX8_suburb_220 : decode cX8_suburb 220 = .ok (.iadd, 1) := by decide +kernel
theorem dX8_suburb_221 : decode cX8_suburb 221 = .ok (.iaload, 1) := by decide +kernel
theorem dX8_suburb_222 : decode cX8_suburb 222 = .ok (.bipush 48, 2) := by decide +kernel
theorem dX8_suburb_224 : decode cX8_suburb 224 = .ok (.isub, 1) := by decide +kernel
theorem dX8_suburb_225 : decode cX8_suburb 225 = .ok (.iastore, 1) := by decide +kernel
theorem dX8_suburb_226 : decode cX8_suburb 226 = .ok (.aload_n 0, 1) := by decide +kernel
theorem dX8_suburb_227 : decode cX8_suburb 227 = .ok (.getfield 28, 3) := by decide +kernel
theorem dX8_suburb_230 : decode cX8_suburb 230 = .ok (.iload_n 1, 1) := by decide +kernel
theorem dX8_suburb_231 : decode cX8_suburb 231 = .ok (.aload_n 0, 1) := by decide +kernel
theorem dX8_suburb_232 : decode cX8_suburb 232 = .ok (.getfield 7, 3) := by decide +kernel
theorem dX8_suburb_235 : decode cX8_suburb 235 = .ok (.iload_n 2, 1) := by decide +kernel
theorem dX8_suburb_236 : decode cX8_suburb 236 = .ok (.iconst 3, 1) := by decide +kernel
theorem dX8_suburb_237 : decode cX8_suburb 237 = .ok (.iadd, 1) := by decide +kernel
theorem dX8_suburb_238 : decode cX8_suburb 238 = .ok (.iaload, 1) := by decide +kernel
theorem dX8_suburb_239 : decode cX8_suburb 239 = .ok (.bipush 48, 2) := by decide +kernel
theorem dX8_suburb_241 : decode cX8_suburb 241 = .ok (.isub, 1) := by decide +kernel
theorem dX8_suburb_242 : decode cX8_suburb 242 = .ok (.iastore, 1) := by decide +kernel
theorem dX8_suburb_243 : decode cX8_suburb 243 = .ok (.aload_n 0, 1) := by decide +kernel
theorem dX8_suburb_244 : decode cX8_suburb 244 = .ok (.getfield 31, 3) := by decide +kernel
theorem dX8_suburb_247 : decode cX8_suburb 247 = .ok (.iload_n 1, 1) := by decide +kernel
theorem dX8_suburb_248 : decode cX8_suburb 248 = .ok (.iconst 0, 1) := by decide +kernel
theorem dX8_suburb_249 : decode cX8_suburb 249 = .ok (.iastore, 1) := by decide +kernel
theorem dX8_suburb_250 : decode cX8_suburb 250 = .ok (.aload_n 0, 1) := by decide +kernel
theorem dX8_suburb_251 : decode cX8_suburb 251 = .ok (.getfield 34, 3) := by decide +kernel
theorem dX8_suburb_254 : decode cX8_suburb 254 = .ok (.iload_n 1, 1) := by decide +kernel
theorem dX8_suburb_255 : decode cX8_suburb 255 = .ok (.iconst 0, 1) := by decide +kernel
theorem dX8_suburb_256 : decode cX8_suburb 256 = .ok (.iastore, 1) := by decide +kernel
theorem dX8_suburb_257 : decode cX8_suburb 257 = .ok (.iinc 1 1, 3) := by decide +kernel
theorem dX8_suburb_260 : decode cX8_suburb 260 = .ok (.goto (-102), 3) := by decide +kernel
theorem dX8_suburb_263 : decode cX8_suburb 263 = .ok (.aload_n 0, 1) := by decide +kernel
theorem dX8_suburb_264 : decode cX8_suburb 264 = .ok (.invokevirtual 143, 3) := by decide +kernel
theorem dX8_suburb_267 : decode cX8_suburb 267 = .ok (.aload_n 0, 1) := by decide +kernel
theorem dX8_suburb_268 : decode cX8_suburb 268 = .ok (.iconst 0, 1) := by decide +kernel
theorem dX8_suburb_269 : decode cX8_suburb 269 = .ok (.putfield 146, 3) := by decide +kernel
theorem dX8_suburb_272 : decode cX8_suburb 272 = .ok (.aload_n 0, 1) := by decide +kernel
theorem dX8_suburb_273 : decode cX8_suburb 273 = .ok (.iconst 0, 1) := by decide +kernel
theorem dX8_suburb_274 : decode cX8_suburb 274 = .ok (.putfield 149, 3) := by decide +kernel
theorem dX8_suburb_277 : decode cX8_suburb 277 = .ok (.aload_n 0, 1) := by decide +kernel
theorem dX8_suburb_278 : decode cX8_suburb 278 = .ok (.dup, 1) := by decide +kernel
theorem dX8_suburb_279 : decode cX8_suburb 279 = .ok (.getfield 152, 3) := by decide +kernel
theorem dX8_suburb_282 : decode cX8_suburb 282 = .ok (.iconst 1, 1) := by decide +kernel
theorem dX8_suburb_283 : decode cX8_suburb 283 = .ok (.iadd, 1) := by decide +kernel
theorem dX8_suburb_284 : decode cX8_suburb 284 = .ok (.putfield 152, 3) := by decide +kernel
theorem dX8_suburb_287 : decode cX8_suburb 287 = .ok (.aload_n 0, 1) := by decide +kernel
theorem dX8_suburb_288 : decode cX8_suburb 288 = .ok (.iconst 0, 1) := by decide +kernel
theorem dX8_suburb_289 : decode cX8_suburb 289 = .ok (.putfield 96, 3) := by decide +kernel
theorem dX8_suburb_292 : decode cX8_suburb 292 = .ok (.aload_n 0, 1) := by decide +kernel
theorem dX8_suburb_293 : decode cX8_suburb 293 = .ok (.getfield 140, 3) := by decide +kernel
theorem dX8_suburb_296 : decode cX8_suburb 296 = .ok (.ireturn, 1) := by decide +kernel
theorem dX8_lacks_0 : decode cX8_lacks 0 = .ok (.aload_n 0, 1) := by decide +kernel
theorem dX8_lacks_1 : decode cX8_lacks 1 = .ok (.getfield 140, 3) := by decide +kernel
theorem dX8_lacks_4 : decode cX8_lacks 4 = .ok (.ifCond .ne 7, 3) := by decide +kernel
theorem dX8_lacks_7 : decode cX8_lacks 7 = .ok (.iconst 1, 1) := by decide +kernel
theorem dX8_lacks_8 : decode cX8_lacks 8 = .ok (.goto 4, 3) := by decide +kernel
theorem dX8_lacks_11 : decode cX8_lacks 11 = .ok (.iconst 0, 1) := by decide +kernel
theorem dX8_lacks_12 : decode cX8_lacks 12 = .ok (.ireturn, 1) := by decide +kernel
theorem dX8_isPerson_0 : decode cX8_isPerson 0 = .ok (.iload_n 1, 1) := by decide +kernel
theorem dX8_isPerson_1 : decode cX8_isPerson 1 = .ok (.i2l, 1) := by decide +kernel
theorem dX8_isPerson_2 : decode cX8_isPerson 2 = .ok (.lconst 0, 1) := by decide +kernel
theorem dX8_isPerson_3 : decode cX8_isPerson 3 = .ok (.aload_n 0, 1) := by decide +kernel
theorem dX8_isPerson_4 : decode cX8_isPerson 4 = .ok (.getfield 140, 3) := by decide +kernel
theorem dX8_isPerson_7 : decode cX8_isPerson 7 = .ok (.iconst 1, 1) := by decide +kernel
theorem dX8_isPerson_8 : decode cX8_isPerson 8 = .ok (.isub, 1) := by decide +kernel
theorem dX8_isPerson_9 : decode cX8_isPerson 9 = .ok (.i2l, 1) := by decide +kernel
theorem dX8_isPerson_10 : decode cX8_isPerson 10 = .ok (.invokestatic 92, 3) := by decide +kernel
theorem dX8_isPerson_13 : decode cX8_isPerson 13 = .ok (.ireturn, 1) := by decide +kernel
theorem dX8_isCorner_0 : decode cX8_isCorner 0 = .ok (.iload_n 1, 1) := by decide +kernel
theorem dX8_isCorner_1 : decode cX8_isCorner 1 = .ok (.i2l, 1) := by decide +kernel
theorem dX8_isCorner_2 : decode cX8_isCorner 2 = .ok (.lconst 0, 1) := by decide +kernel
theorem dX8_isCorner_3 : decode cX8_isCorner 3 = .ok (.aload_n 0, 1) := by decide +kernel
theorem dX8_isCorner_4 : decode cX8_isCorner 4 = .ok (.getfield 134, 3) := by decide +kernel
theorem dX8_isCorner_7 : decode cX8_isCorner 7 = .ok (.iconst 1, 1) := by decide +kernel
theorem dX8_isCorner_8 : decode cX8_isCorner 8 = .ok (.isub, 1) := by decide +kernel
theorem dX8_isCorner_9 : decode cX8_isCorner 9 = .ok (.i2l, 1) := by decide +kernel
theorem dX8_isCorner_10 : decode cX8_isCorner 10 = .ok (.invokestatic 92, 3) := by decide +kernel
theorem dX8_isCorner_13 : decode cX8_isCorner 13 = .ok (.ireturn, 1) := by decide +kernel
theorem dX8_isNext_0 : decode cX8_isNext 0 = .ok (.aload_n 0, 1) := by decide +kernel
theorem dX8_isNext_1 : decode cX8_isNext 1 = .ok (.getfield 37, 3) := by decide +kernel
theorem dX8_isNext_4 : decode cX8_isNext 4 = .ok (.bipush 6, 2) := by decide +kernel
theorem dX8_isNext_6 : decode cX8_isNext 6 = .ok (.iload_n 1, 1) := by decide +kernel
theorem dX8_isNext_7 : decode cX8_isNext 7 = .ok (.imul, 1) := by decide +kernel
theorem dX8_isNext_8 : decode cX8_isNext 8 = .ok (.iload_n 2, 1) := by decide +kernel
theorem dX8_isNext_9 : decode cX8_isNext 9 = .ok (.iadd, 1) := by decide +kernel
theorem dX8_isNext_10 : decode cX8_isNext 10 = .ok (.iaload, 1) := by decide +kernel
theorem dX8_isNext_11 : decode cX8_isNext 11 = .ok (.iconst 2, 1) := by decide +kernel
theorem dX8_isNext_12 : decode cX8_isNext 12 = .ok (.if_icmp .ge 7, 3) := by decide +kernel
theorem dX8_isNext_15 : decode cX8_isNext 15 = .ok (.iconst 1, 1) := by decide +kernel
theorem dX8_isNext_16 : decode cX8_isNext 16 = .ok (.goto 4, 3) := by decide +kernel
theorem dX8_isNext_19 : decode cX8_isNext 19 = .ok (.iconst 0, 1) := by decide +kernel
theorem dX8_isNext_20 : decode cX8_isNext 20 = .ok (.ireturn, 1) := by decide +kernel
theorem dX8_needs_0 : decode cX8_needs 0 = .ok (.iload_n 0, 1) := by decide +kernel
theorem dX8_needs_1 : decode cX8_needs 1 = .ok (.iconst 4, 1) := by decide +kernel
theorem dX8_needs_2 : decode cX8_needs 2 = .ok (.if_icmp .ne 7, 3) := by decide +kernel
theorem dX8_needs_5 : decode cX8_needs 5 = .ok (.iconst 3, 1) := by decide +kernel
theorem dX8_needs_6 : decode cX8_needs 6 = .ok (.goto 18, 3) := by decide +kernel
theorem dX8_needs_9 : decode cX8_needs 9 = .ok (.iload_n 0, 1) := by decide +kernel
theorem dX8_needs_10 : decode cX8_needs 10 = .ok (.iconst 1, 1) := by decide +kernel
theorem dX8_needs_11 : decode cX8_needs 11 = .ok (.if_icmp .eq 8, 3) := by decide +kernel
theorem dX8_needs_14 : decode cX8_needs 14 = .ok (.iload_n 0, 1) := by decide +kernel
theorem dX8_needs_15 : decode cX8_needs 15 = .ok (.iconst 3, 1) := by decide +kernel
theorem dX8_needs_16 : decode cX8_needs 16 = .ok (.if_icmp .ne 7, 3) := by decide +kernel
theorem dX8_needs_19 : decode cX8_needs 19 = .ok (.iconst 2, 1) := by decide +kernel
theorem dX8_needs_20 : decode cX8_needs 20 = .ok (.goto 4, 3) := by decide +kernel
theorem dX8_needs_23 : decode cX8_needs 23 = .ok (.iconst 1, 1) := by decide +kernel
theorem dX8_needs_24 : decode cX8_needs 24 = .ok (.ireturn, 1) := by decide +kernel
theorem dX8_begin_0 : decode cX8_begin 0 = .ok (.aload_n 0, 1) := by decide +kernel
theorem dX8_begin_1 : decode cX8_begin 1 = .ok (.getfield 31, 3) := by decide +kernel
theorem dX8_begin_4 : decode cX8_begin 4 = .ok (.aload_n 0, 1) := by decide +kernel
theorem dX8_begin_5 : decode cX8_begin 5 = .ok (.getfield 40, 3) := by decide +kernel
theorem dX8_begin_8 : decode cX8_begin 8 = .ok (.invokestatic 155, 3) := by decide +kernel
theorem dX8_begin_11 : decode cX8_begin 11 = .ok (.aload_n 0, 1) := by decide +kernel
theorem dX8_begin_12 : decode cX8_begin 12 = .ok (.getfield 34, 3) := by decide +kernel
theorem dX8_begin_15 : decode cX8_begin 15 = .ok (.aload_n 0, 1) := by decide +kernel
theorem dX8_begin_16 : decode cX8_begin 16 = .ok (.getfield 43, 3) := by decide +kernel
theorem dX8_begin_19 : decode cX8_begin 19 = .ok (.invokestatic 155, 3) := by decide +kernel
theorem dX8_begin_22 : decode cX8_begin 22 = .ok (.return_, 1) := by decide +kernel
theorem dX8_isTime_0 : decode cX8_isTime 0 = .ok (.iload_n 2, 1) := by decide +kernel
theorem dX8_isTime_1 : decode cX8_isTime 1 = .ok (.aload_n 0, 1) := by decide +kernel
theorem dX8_isTime_2 : decode cX8_isTime 2 = .ok (.getfield 25, 3) := by decide +kernel
theorem dX8_isTime_5 : decode cX8_isTime 5 = .ok (.iload_n 1, 1) := by decide +kernel
theorem dX8_isTime_6 : decode cX8_isTime 6 = .ok (.iaload, 1) := by decide +kernel
theorem dX8_isTime_7 : decode cX8_isTime 7 = .ok (.if_icmp .lt 24, 3) := by decide +kernel
theorem dX8_isTime_10 : decode cX8_isTime 10 = .ok (.aload_n 0, 1) := by decide +kernel
theorem dX8_isTime_11 : decode cX8_isTime 11 = .ok (.getfield 19, 3) := by decide +kernel
theorem dX8_isTime_14 : decode cX8_isTime 14 = .ok (.iload_n 1, 1) := by decide +kernel
theorem dX8_isTime_15 : decode cX8_isTime 15 = .ok (.iaload, 1) := by decide +kernel
theorem dX8_isTime_16 : decode cX8_isTime 16 = .ok (.iconst 2, 1) := by decide +kernel
theorem dX8_isTime_17 : decode cX8_isTime 17 = .ok (.if_icmp .ne 10, 3) := by decide +kernel
theorem dX8_isTime_20 : decode cX8_isTime 20 = .ok (.iload_n 2, 1) := by decide +kernel
theorem dX8_isTime_21 : decode cX8_isTime 21 = .ok (.iconst 2, 1) := by decide +kernel
theorem dX8_isTime_22 : decode cX8_isTime 22 = .ok (.irem, 1) := by decide +kernel
theorem dX8_isTime_23 : decode cX8_isTime 23 = .ok (.iconst 1, 1) := by decide +kernel
theorem dX8_isTime_24 : decode cX8_isTime 24 = .ok (.if_icmp .ne 7, 3) := by decide +kernel
theorem dX8_isTime_27 : decode cX8_isTime 27 = .ok (.iconst 1, 1) := by decide +kernel
theorem dX8_isTime_28 : decode cX8_isTime 28 = .ok (.goto 4, 3) := by decide +kernel
theorem dX8_isTime_31 : decode cX8_isTime 31 = .ok (.iconst 0, 1) := by decide +kernel
theorem dX8_isTime_32 : decode cX8_isTime 32 = .ok (.ireturn, 1) := by decide +kernel
theorem dX8_goThen_0 : decode cX8_goThen 0 = .ok (.iconst 0, 1) := by decide +kernel
theorem dX8_goThen_1 : decode cX8_goThen 1 = .ok (.istore_n 3, 1) := by decide +kernel
theorem dX8_goThen_2 : decode cX8_goThen 2 = .ok (.iconst 0, 1) := by decide +kernel
theorem dX8_goThen_3 : decode cX8_goThen 3 = .ok (.istore 4, 2) := by decide +kernel
theorem dX8_goThen_5 : decode cX8_goThen 5 = .ok (.iload 4, 2) := by decide +kernel
theorem dX8_goThen_7 : decode cX8_goThen 7 = .ok (.aload_n 0, 1) := by decide +kernel
theorem dX8_goThen_8 : decode cX8_goThen 8 = .ok (.getfield 140, 3) := by decide +kernel
theorem dX8_goThen_11 : decode cX8_goThen 11 = .ok (.if_icmp .ge 135, 3) := by decide +kernel
theorem dX8_goThen_14 : decode cX8_goThen 14 = .ok (.aload_n 0, 1) := by decide +kernel
theorem dX8_goThen_15 : decode cX8_goThen 15 = .ok (.getfield 22, 3) := by decide +kernel
theorem dX8_goThen_18 : decode cX8_goThen 18 = .ok (.iload 4, 2) := by decide +kernel
theorem dX8_goThen_20 : decode cX8_goThen 20 = .ok (.iaload, 1) := by decide +kernel
theorem dX8_goThen_21 : decode cX8_goThen 21 = .ok (.iload_n 1, 1) := by decide +kernel
theorem dX8_goThen_22 : decode cX8_goThen 22 = .ok (.if_icmp .eq 45, 3) := by decide +kernel
theorem dX8_goThen_25 : decode cX8_goThen 25 = .ok (.aload_n 0, 1) := by decide +kernel
theorem dX8_goThen_26 : decode cX8_goThen 26 = .ok (.getfield 40, 3) := by decide +kernel
theorem dX8_goThen_29 : decode cX8_goThen 29 = .ok (.iload 4, 2) := by decide +kernel
theorem dX8_goThen_31 : decode cX8_goThen 31 = .ok (.aload_n 0, 1) := by decide +kernel
theorem dX8_goThen_32 : decode cX8_goThen 32 = .ok (.getfield 19, 3) := by decide +kernel
theorem dX8_goThen_35 : decode cX8_goThen 35 = .ok (.iload 4, 2) := by decide +kernel
theorem dX8_goThen_37 : decode cX8_goThen 37 = .ok (.iaload, 1) := by decide +kernel
theorem dX8_goThen_38 : decode cX8_goThen 38 = .ok (.iconst 3, 1) := by decide +kernel
theorem dX8_goThen_39 : decode cX8_goThen 39 = .ok (.if_icmp .ne 17, 3) := by decide +kernel
theorem dX8_goThen_42 : decode cX8_goThen 42 = .ok (.aload_n 0, 1) := by decide +kernel
theorem dX8_goThen_43 : decode cX8_goThen 43 = .ok (.getfield 43, 3) := by decide +kernel
theorem dX8_goThen_46 : decode cX8_goThen 46 = .ok (.iload 4, 2) := by decide +kernel
theorem dX8_goThen_48 : decode cX8_goThen 48 = .ok (.iaload, 1) := by decide +kernel
theorem dX8_goThen_49 : decode cX8_goThen 49 = .ok (.ifCond .ne 7, 3) := by decide +kernel
theorem dX8_goThen_52 : decode cX8_goThen 52 = .ok (.iconst 0, 1) := by decide +kernel
theorem dX8_goThen_53 : decode cX8_goThen 53 = .ok (.goto 10, 3) := by decide +kernel
theorem dX8_goThen_56 : decode cX8_goThen 56 = .ok (.aload_n 0, 1) := by decide +kernel
theorem dX8_goThen_57 : decode cX8_goThen 57 = .ok (.getfield 40, 3) := by decide +kernel
theorem dX8_goThen_60 : decode cX8_goThen 60 = .ok (.iload 4, 2) := by decide +kernel
theorem dX8_goThen_62 : decode cX8_goThen 62 = .ok (.iaload, 1) := by decide +kernel
theorem dX8_goThen_63 : decode cX8_goThen 63 = .ok (.iastore, 1) := by decide +kernel
theorem dX8_goThen_64 : decode cX8_goThen 64 = .ok (.goto 76, 3) := by decide +kernel
theorem dX8_goThen_67 : decode cX8_goThen 67 = .ok (.aload_n 0, 1) := by decide +kernel
theorem dX8_goThen_68 : decode cX8_goThen 68 = .ok (.getfield 43, 3) := by decide +kernel
theorem dX8_goThen_71 : decode cX8_goThen 71 = .ok (.iload 4, 2) := by decide +kernel
theorem dX8_goThen_73 : decode cX8_goThen 73 = .ok (.iaload, 1) := by decide +kernel
theorem dX8_goThen_74 : decode cX8_goThen 74 = .ok (.ifCond .ne 66, 3) := by decide +kernel
theorem dX8_goThen_77 : decode cX8_goThen 77 = .ok (.aload_n 0, 1) := by decide +kernel
theorem dX8_goThen_78 : decode cX8_goThen 78 = .ok (.iload 4, 2) := by decide +kernel
theorem dX8_goThen_80 : decode cX8_goThen 80 = .ok (.iload_n 2, 1) := by decide +kernel
theorem dX8_goThen_81 : decode cX8_goThen 81 = .ok (.invokevirtual 159, 3) := by decide +kernel
theorem dX8_goThen_84 : decode cX8_goThen 84 = .ok (.ifCond .eq 56, 3) := by decide +kernel
theorem dX8_goThen_87 : decode cX8_goThen 87 = .ok (.aload_n 0, 1) := by decide +kernel
theorem dX8_goThen_88 : decode cX8_goThen 88 = .ok (.getfield 40, 3) := by decide +kernel
theorem dX8_goThen_91 : decode cX8_goThen 91 = .ok (.iload 4, 2) := by decide +kernel
theorem dX8_goThen_93 : decode cX8_goThen 93 = .ok (.dup2, 1) := by decide +kernel
theorem dX8_goThen_94 : decode cX8_goThen 94 = .ok (.iaload, 1) := by decide +kernel
theorem dX8_goThen_95 : decode cX8_goThen 95 = .ok (.iconst 1, 1) := by decide +kernel
theorem dX8_goThen_96 : decode cX8_goThen 96 = .ok (.iadd, 1) := by decide +kernel
theorem dX8_goThen_97 : decode cX8_goThen 97 = .ok (.iastore, 1) := by decide +kernel
theorem dX8_goThen_98 : decode cX8_goThen 98 = .ok (.aload_n 0, 1) := by decide +kernel
theorem dX8_goThen_99 : decode cX8_goThen 99 = .ok (.getfield 43, 3) := by decide +kernel
theorem dX8_goThen_102 : decode cX8_goThen 102 = .ok (.iload 4, 2) := by decide +kernel
theorem dX8_goThen_104 : decode cX8_goThen 104 = .ok (.aload_n 0, 1) := by decide +kernel
theorem dX8_goThen_105 : decode cX8_goThen 105 = .ok (.getfield 40, 3) := by decide +kernel
theorem dX8_goThen_108 : decode cX8_goThen 108 = .ok (.iload 4, 2) := by decide +kernel
theorem dX8_goThen_110 : decode cX8_goThen 110 = .ok (.iaload, 1) := by decide +kernel
theorem dX8_goThen_111 : decode cX8_goThen 111 = .ok (.aload_n 0, 1) := by decide +kernel
theorem dX8_goThen_112 : decode cX8_goThen 112 = .ok (.getfield 19, 3) := by decide +kernel
theorem dX8_goThen_115 : decode cX8_goThen 115 = .ok (.iload 4, 2) := by decide +kernel
theorem dX8_goThen_117 : decode cX8_goThen 117 = .ok (.iaload, 1) := by decide +kernel
theorem dX8_goThen_118 : decode cX8_goThen 118 = .ok (.invokestatic 163, 3) := by decide +kernel
theorem dX8_goThen_121 : decode cX8_goThen 121 = .ok (.if_icmp .lt 7, 3) := by decide +kernel
theorem dX8_goThen_124 : decode cX8_goThen 124 = .ok (.iconst 1, 1) := by decide +kernel
theorem dX8_goThen_125 : decode cX8_goThen 125 = .ok (.goto 4, 3) := by decide +kernel
theorem dX8_goThen_128 : decode cX8_goThen 128 = .ok (.iconst 0, 1) := by decide +kernel
theorem dX8_goThen_129 : decode cX8_goThen 129 = .ok (.iastore, 1) := by decide +kernel
theorem dX8_goThen_130 : decode cX8_goThen 130 = .ok (.iload_n 3, 1) := by decide +kernel
theorem dX8_goThen_131 : decode cX8_goThen 131 = .ok (.aload_n 0, 1) := by decide +kernel
theorem dX8_goThen_132 : decode cX8_goThen 132 = .ok (.getfield 43, 3) := by decide +kernel
theorem dX8_goThen_135 : decode cX8_goThen 135 = .ok (.iload 4, 2) := by decide +kernel
theorem dX8_goThen_137 : decode cX8_goThen 137 = .ok (.iaload, 1) := by decide +kernel
theorem dX8_goThen_138 : decode cX8_goThen 138 = .ok (.iadd, 1) := by decide +kernel
theorem dX8_goThen_139 : decode cX8_goThen 139 = .ok (.istore_n 3, 1) := by decide +kernel
theorem dX8_goThen_140 : decode cX8_goThen 140 = .ok (.iinc 4 1, 3) := by decide +kernel
theorem dX8_goThen_143 : decode cX8_goThen 143 = .ok (.goto (-138), 3) := by decide +kernel
theorem dX8_goThen_146 : decode cX8_goThen 146 = .ok (.iload_n 3, 1) := by decide +kernel
theorem dX8_goThen_147 : decode cX8_goThen 147 = .ok (.ireturn, 1) := by decide +kernel
theorem dX8_hears_0 : decode cX8_hears 0 = .ok (.aload_n 0, 1) := by decide +kernel
theorem dX8_hears_1 : decode cX8_hears 1 = .ok (.getfield 37, 3) := by decide +kernel
theorem dX8_hears_4 : decode cX8_hears 4 = .ok (.bipush 6, 2) := by decide +kernel
theorem dX8_hears_6 : decode cX8_hears 6 = .ok (.aload_n 0, 1) := by decide +kernel
theorem dX8_hears_7 : decode cX8_hears 7 = .ok (.getfield 22, 3) := by decide +kernel
theorem dX8_hears_10 : decode cX8_hears 10 = .ok (.iload_n 1, 1) := by decide +kernel
theorem dX8_hears_11 : decode cX8_hears 11 = .ok (.iaload, 1) := by decide +kernel
theorem dX8_hears_12 : decode cX8_hears 12 = .ok (.imul, 1) := by decide +kernel
theorem dX8_hears_13 : decode cX8_hears 13 = .ok (.aload_n 0, 1) := by decide +kernel
theorem dX8_hears_14 : decode cX8_hears 14 = .ok (.getfield 137, 3) := by decide +kernel
theorem dX8_hears_17 : decode cX8_hears 17 = .ok (.iadd, 1) := by decide +kernel
theorem dX8_hears_18 : decode cX8_hears 18 = .ok (.iaload, 1) := by decide +kernel
theorem dX8_hears_19 : decode cX8_hears 19 = .ok (.aload_n 0, 1) := by decide +kernel
theorem dX8_hears_20 : decode cX8_hears 20 = .ok (.getfield 28, 3) := by decide +kernel
theorem dX8_hears_23 : decode cX8_hears 23 = .ok (.iload_n 1, 1) := by decide +kernel
theorem dX8_hears_24 : decode cX8_hears 24 = .ok (.iaload, 1) := by decide +kernel
theorem dX8_hears_25 : decode cX8_hears 25 = .ok (.if_icmp .gt 7, 3) := by decide +kernel
theorem dX8_hears_28 : decode cX8_hears 28 = .ok (.iconst 1, 1) := by decide +kernel
theorem dX8_hears_29 : decode cX8_hears 29 = .ok (.goto 4, 3) := by decide +kernel
theorem dX8_hears_32 : decode cX8_hears 32 = .ok (.iconst 0, 1) := by decide +kernel
theorem dX8_hears_33 : decode cX8_hears 33 = .ok (.ireturn, 1) := by decide +kernel
theorem dX8_soonOf_0 : decode cX8_soonOf 0 = .ok (.aload_n 0, 1) := by decide +kernel
theorem dX8_soonOf_1 : decode cX8_soonOf 1 = .ok (.getfield 34, 3) := by decide +kernel
theorem dX8_soonOf_4 : decode cX8_soonOf 4 = .ok (.iload_n 1, 1) := by decide +kernel
theorem dX8_soonOf_5 : decode cX8_soonOf 5 = .ok (.iaload, 1) := by decide +kernel
theorem dX8_soonOf_6 : decode cX8_soonOf 6 = .ok (.iconst 1, 1) := by decide +kernel
theorem dX8_soonOf_7 : decode cX8_soonOf 7 = .ok (.if_icmp .ne 5, 3) := by decide +kernel
theorem dX8_soonOf_10 : decode cX8_soonOf 10 = .ok (.iconst 0, 1) := by decide +kernel
theorem dX8_soonOf_11 : decode cX8_soonOf 11 = .ok (.ireturn, 1) := by decide +kernel
theorem dX8_soonOf_12 : decode cX8_soonOf 12 = .ok (.iconst 0, 1) := by decide +kernel
theorem dX8_soonOf_13 : decode cX8_soonOf 13 = .ok (.istore_n 2, 1) := by decide +kernel
theorem dX8_soonOf_14 : decode cX8_soonOf 14 = .ok (.iload_n 2, 1) := by decide +kernel
theorem dX8_soonOf_15 : decode cX8_soonOf 15 = .ok (.bipush 24, 2) := by decide +kernel
theorem dX8_soonOf_17 : decode cX8_soonOf 17 = .ok (.if_icmp .ge 37, 3) := by decide +kernel
theorem dX8_soonOf_20 : decode cX8_soonOf 20 = .ok (.aload_n 0, 1) := by decide +kernel
theorem dX8_soonOf_21 : decode cX8_soonOf 21 = .ok (.getfield 46, 3) := by decide +kernel
theorem dX8_soonOf_24 : decode cX8_soonOf 24 = .ok (.iload_n 2, 1) := by decide +kernel
theorem dX8_soonOf_25 : decode cX8_soonOf 25 = .ok (.iload_n 2, 1) := by decide +kernel
theorem dX8_soonOf_26 : decode cX8_soonOf 26 = .ok (.iconst 4, 1) := by decide +kernel
theorem dX8_soonOf_27 : decode cX8_soonOf 27 = .ok (.aload_n 0, 1) := by decide +kernel
theorem dX8_soonOf_28 : decode cX8_soonOf 28 = .ok (.getfield 137, 3) := by decide +kernel
theorem dX8_soonOf_31 : decode cX8_soonOf 31 = .ok (.imul, 1) := by decide +kernel
theorem dX8_soonOf_32 : decode cX8_soonOf 32 = .ok (.aload_n 0, 1) := by decide +kernel
theorem dX8_soonOf_33 : decode cX8_soonOf 33 = .ok (.getfield 31, 3) := by decide +kernel
theorem dX8_soonOf_36 : decode cX8_soonOf 36 = .ok (.iload_n 1, 1) := by decide +kernel
theorem dX8_soonOf_37 : decode cX8_soonOf 37 = .ok (.iaload, 1) := by decide +kernel
theorem dX8_soonOf_38 : decode cX8_soonOf 38 = .ok (.iadd, 1) := by decide +kernel
theorem dX8_soonOf_39 : decode cX8_soonOf 39 = .ok (.if_icmp .ne 7, 3) := by decide +kernel
theorem dX8_soonOf_42 : decode cX8_soonOf 42 = .ok (.iconst 1, 1) := by decide +kernel
theorem dX8_soonOf_43 : decode cX8_soonOf 43 = .ok (.goto 4, 3) := by decide +kernel
theorem dX8_soonOf_46 : decode cX8_soonOf 46 = .ok (.iconst 0, 1) := by decide +kernel
theorem dX8_soonOf_47 : decode cX8_soonOf 47 = .ok (.iastore, 1) := by decide +kernel
theorem dX8_soonOf_48 : decode cX8_soonOf 48 = .ok (.iinc 2 1, 3) := by decide +kernel
theorem dX8_soonOf_51 : decode cX8_soonOf 51 = .ok (.goto (-37), 3) := by decide +kernel
theorem dX8_soonOf_54 : decode cX8_soonOf 54 = .ok (.iconst 1, 1) := by decide +kernel
theorem dX8_soonOf_55 : decode cX8_soonOf 55 = .ok (.istore_n 2, 1) := by decide +kernel
theorem dX8_soonOf_56 : decode cX8_soonOf 56 = .ok (.iload_n 2, 1) := by decide +kernel
theorem dX8_soonOf_57 : decode cX8_soonOf 57 = .ok (.bipush 41, 2) := by decide +kernel
theorem dX8_soonOf_59 : decode cX8_soonOf 59 = .ok (.if_icmp .ge 188, 3) := by decide +kernel
theorem dX8_soonOf_62 : decode cX8_soonOf 62 = .ok (.iconst 0, 1) := by decide +kernel
theorem dX8_soonOf_63 : decode cX8_soonOf 63 = .ok (.istore_n 3, 1) := by decide +kernel
theorem dX8_soonOf_64 : decode cX8_soonOf 64 = .ok (.iload_n 3, 1) := by decide +kernel
theorem dX8_soonOf_65 : decode cX8_soonOf 65 = .ok (.bipush 24, 2) := by decide +kernel
theorem dX8_soonOf_67 : decode cX8_soonOf 67 = .ok (.if_icmp .ge 16, 3) := by decide +kernel
theorem dX8_soonOf_70 : decode cX8_soonOf 70 = .ok (.aload_n 0, 1) := by decide +kernel
theorem dX8_soonOf_71 : decode cX8_soonOf 71 = .ok (.getfield 49, 3) := by decide +kernel
theorem dX8_soonOf_74 : decode cX8_soonOf 74 = .ok (.iload_n 3, 1) := by decide +kernel
theorem dX8_soonOf_75 : decode cX8_soonOf 75 = .ok (.iconst 0, 1) := by decide +kernel
theorem dX8_soonOf_76 : decode cX8_soonOf 76 = .ok (.iastore, 1) := by decide +kernel
theorem dX8_soonOf_77 : decode cX8_soonOf 77 = .ok (.iinc 3 1, 3) := by decide +kernel
theorem dX8_soonOf_80 : decode cX8_soonOf 80 = .ok (.goto (-16), 3) := by decide +kernel
theorem dX8_soonOf_83 : decode cX8_soonOf 83 = .ok (.iconst 0, 1) := by decide +kernel
theorem dX8_soonOf_84 : decode cX8_soonOf 84 = .ok (.istore_n 3, 1) := by decide +kernel
theorem dX8_soonOf_85 : decode cX8_soonOf 85 = .ok (.iload_n 3, 1) := by decide +kernel
theorem dX8_soonOf_86 : decode cX8_soonOf 86 = .ok (.iconst 4, 1) := by decide +kernel
theorem dX8_soonOf_87 : decode cX8_soonOf 87 = .ok (.aload_n 0, 1) := by decide +kernel
theorem dX8_soonOf_88 : decode cX8_soonOf 88 = .ok (.getfield 134, 3) := by decide +kernel
theorem dX8_soonOf_91 : decode cX8_soonOf 91 = .ok (.imul, 1) := by decide +kernel
theorem dX8_soonOf_92 : decode cX8_soonOf 92 = .ok (.if_icmp .ge 138, 3) := by decide +kernel
theorem dX8_soonOf_95 : decode cX8_soonOf 95 = .ok (.iconst 0, 1) := by decide +kernel
theorem dX8_soonOf_96 : decode cX8_soonOf 96 = .ok (.istore 4, 2) := by decide +kernel
theorem dX8_soonOf_98 : decode cX8_soonOf 98 = .ok (.iload 4, 2) := by decide +kernel
theorem dX8_soonOf_100 : decode cX8_soonOf 100 = .ok (.aload_n 0, 1) := by decide +kernel
theorem dX8_soonOf_101 : decode cX8_soonOf 101 = .ok (.getfield 134, 3) := by decide +kernel
theorem dX8_soonOf_104 : decode cX8_soonOf 104 = .ok (.if_icmp .ge 120, 3) := by decide +kernel
theorem dX8_soonOf_107 : decode cX8_soonOf 107 = .ok (.aload_n 0, 1) := by decide +kernel
theorem dX8_soonOf_108 : decode cX8_soonOf 108 = .ok (.getfield 46, 3) := by decide +kernel
theorem dX8_soonOf_111 : decode cX8_soonOf 111 = .ok (.iload_n 3, 1) := by decide +kernel
theorem dX8_soonOf_112 : decode cX8_soonOf 112 = .ok (.iaload, 1) := by decide +kernel
theorem dX8_soonOf_113 : decode cX8_soonOf 113 = .ok (.iconst 1, 1) := by decide +kernel
theorem dX8_soonOf_114 : decode cX8_soonOf 114 = .ok (.if_icmp .ne 110, 3) := by decide +kernel
theorem dX8_soonOf_117 : decode cX8_soonOf 117 = .ok (.aload_n 0, 1) := by decide +kernel
theorem dX8_soonOf_118 : decode cX8_soonOf 118 = .ok (.iload_n 3, 1) := by decide +kernel
theorem dX8_soonOf_119 : decode cX8_soonOf 119 = .ok (.iconst 4, 1) := by decide +kernel
theorem dX8_soonOf_120 : decode cX8_soonOf 120 = .ok (.idiv, 1) := by decide +kernel
theorem dX8_soonOf_121 : decode cX8_soonOf 121 = .ok (.iload 4, 2) := by decide +kernel
theorem dX8_soonOf_123 : decode cX8_soonOf 123 = .ok (.invokevirtual 166, 3) := by decide +kernel
theorem dX8_soonOf_126 : decode cX8_soonOf 126 = .ok (.ifCond .eq 92, 3) := by decide +kernel
theorem dX8_soonOf_129 : decode cX8_soonOf 129 = .ok (.iload_n 3, 1) := by decide +kernel
theorem dX8_soonOf_130 : decode cX8_soonOf 130 = .ok (.iconst 4, 1) := by decide +kernel
theorem dX8_soonOf_131 : decode cX8_soonOf 131 = .ok (.irem, 1) := by decide +kernel
theorem dX8_soonOf_132 : decode cX8_soonOf 132 = .ok (.istore 5, 2) := by decide +kernel
theorem dX8_soonOf_134 : decode cX8_soonOf 134 = .ok (.iload 4, 2) := by decide +kernel
theorem dX8_soonOf_136 : decode cX8_soonOf 136 = .ok (.aload_n 0, 1) := by decide +kernel
theorem dX8_soonOf_137 : decode cX8_soonOf 137 = .ok (.getfield 22, 3) := by decide +kernel
theorem dX8_soonOf_140 : decode cX8_soonOf 140 = .ok (.iload_n 1, 1) := by decide +kernel
theorem dX8_soonOf_141 : decode cX8_soonOf 141 = .ok (.iaload, 1) := by decide +kernel
theorem dX8_soonOf_142 : decode cX8_soonOf 142 = .ok (.if_icmp .eq 22, 3) := by decide +kernel
theorem dX8_soonOf_145 : decode cX8_soonOf 145 = .ok (.aload_n 0, 1) := by decide +kernel
theorem dX8_soonOf_146 : decode cX8_soonOf 146 = .ok (.getfield 19, 3) := by decide +kernel
theorem dX8_soonOf_149 : decode cX8_soonOf 149 = .ok (.iload_n 1, 1) := by decide +kernel
theorem dX8_soonOf_150 : decode cX8_soonOf 150 = .ok (.iaload, 1) := by decide +kernel
theorem dX8_soonOf_151 : decode cX8_soonOf 151 = .ok (.iconst 3, 1) := by decide +kernel
theorem dX8_soonOf_152 : decode cX8_soonOf 152 = .ok (.if_icmp .ne 7, 3) := by decide +kernel
theorem dX8_soonOf_155 : decode cX8_soonOf 155 = .ok (.iconst 0, 1) := by decide +kernel
theorem dX8_soonOf_156 : decode cX8_soonOf 156 = .ok (.goto 31, 3) := by decide +kernel
theorem dX8_soonOf_159 : decode cX8_soonOf 159 = .ok (.iload 5, 2) := by decide +kernel
theorem dX8_soonOf_161 : decode cX8_soonOf 161 = .ok (.goto 26, 3) := by decide +kernel
theorem dX8_soonOf_164 : decode cX8_soonOf 164 = .ok (.aload_n 0, 1) := by decide +kernel
theorem dX8_soonOf_165 : decode cX8_soonOf 165 = .ok (.iload_n 1, 1) := by decide +kernel
theorem dX8_soonOf_166 : decode cX8_soonOf 166 = .ok (.aload_n 0, 1) := by decide +kernel
theorem dX8_soonOf_167 : decode cX8_soonOf 167 = .ok (.getfield 146, 3) := by decide +kernel
theorem dX8_soonOf_170 : decode cX8_soonOf 170 = .ok (.iload_n 2, 1) := by decide +kernel
theorem dX8_soonOf_171 : decode cX8_soonOf 171 = .ok (.iadd, 1) := by decide +kernel
theorem dX8_soonOf_172 : decode cX8_soonOf 172 = .ok (.invokevirtual 159, 3) := by decide +kernel
theorem dX8_soonOf_175 : decode cX8_soonOf 175 = .ok (.ifCond .eq 10, 3) := by decide +kernel
theorem dX8_soonOf_178 : decode cX8_soonOf 178 = .ok (.iload 5, 2) := by decide +kernel
theorem dX8_soonOf_180 : decode cX8_soonOf 180 = .ok (.iconst 1, 1) := by decide +kernel
theorem dX8_soonOf_181 : decode cX8_soonOf 181 = .ok (.iadd, 1) := by decide +kernel
theorem dX8_soonOf_182 : decode cX8_soonOf 182 = .ok (.goto 5, 3) := by decide +kernel
theorem dX8_soonOf_185 : decode cX8_soonOf 185 = .ok (.iload 5, 2) := by decide +kernel
theorem dX8_soonOf_187 : decode cX8_soonOf 187 = .ok (.istore 5, 2) := by decide +kernel
theorem dX8_soonOf_189 : decode cX8_soonOf 189 = .ok (.iload 5, 2) := by decide +kernel
theorem dX8_soonOf_191 : decode cX8_soonOf 191 = .ok (.aload_n 0, 1) := by decide +kernel
theorem dX8_soonOf_192 : decode cX8_soonOf 192 = .ok (.getfield 19, 3) := by decide +kernel
theorem dX8_soonOf_195 : decode cX8_soonOf 195 = .ok (.iload_n 1, 1) := by decide +kernel
theorem dX8_soonOf_196 : decode cX8_soonOf 196 = .ok (.iaload, 1) := by decide +kernel
theorem dX8_soonOf_197 : decode cX8_soonOf 197 = .ok (.invokestatic 163, 3) := by decide +kernel
theorem dX8_soonOf_200 : decode cX8_soonOf 200 = .ok (.if_icmp .lt 5, 3) := by decide +kernel
theorem dX8_soonOf_203 : decode cX8_soonOf 203 = .ok (.iload_n 2, 1) := by decide +kernel
theorem dX8_soonOf_204 : decode cX8_soonOf 204 = .ok (.ireturn, 1) := by decide +kernel
theorem dX8_soonOf_205 : decode cX8_soonOf 205 = .ok (.aload_n 0, 1) := by decide +kernel
theorem dX8_soonOf_206 : decode cX8_soonOf 206 = .ok (.getfield 49, 3) := by decide +kernel
theorem dX8_soonOf_209 : decode cX8_soonOf 209 = .ok (.iconst 4, 1) := by decide +kernel
theorem dX8_soonOf_210 : decode cX8_soonOf 210 = .ok (.iload 4, 2) := by decide +kernel
theorem dX8_soonOf_212 : decode cX8_soonOf 212 = .ok (.imul, 1) := by decide +kernel
theorem dX8_soonOf_213 : decode cX8_soonOf 213 = .ok (.iload 5, 2) := by decide +kernel
theorem dX8_soonOf_215 : decode cX8_soonOf 215 = .ok (.iadd, 1) := by decide +kernel
theorem dX8_soonOf_216 : decode cX8_soonOf 216 = .ok (.iconst 1, 1) := by decide +kernel
theorem dX8_soonOf_217 : decode cX8_soonOf 217 = .ok (.iastore, 1) := by decide +kernel
theorem dX8_soonOf_218 : decode cX8_soonOf 218 = .ok (.iinc 4 1, 3) := by decide +kernel
theorem dX8_soonOf_221 : decode cX8_soonOf 221 = .ok (.goto (-123), 3) := by decide +kernel
theorem dX8_soonOf_224 : decode cX8_soonOf 224 = .ok (.iinc 3 1, 3) := by decide +kernel
theorem dX8_soonOf_227 : decode cX8_soonOf 227 = .ok (.goto (-142), 3) := by decide +kernel
theorem dX8_soonOf_230 : decode cX8_soonOf 230 = .ok (.aload_n 0, 1) := by decide +kernel
theorem dX8_soonOf_231 : decode cX8_soonOf 231 = .ok (.getfield 49, 3) := by decide +kernel
theorem dX8_soonOf_234 : decode cX8_soonOf 234 = .ok (.aload_n 0, 1) := by decide +kernel
theorem dX8_soonOf_235 : decode cX8_soonOf 235 = .ok (.getfield 46, 3) := by decide +kernel
theorem dX8_soonOf_238 : decode cX8_soonOf 238 = .ok (.invokestatic 155, 3) := by decide +kernel
theorem dX8_soonOf_241 : decode cX8_soonOf 241 = .ok (.iinc 2 1, 3) := by decide +kernel
theorem dX8_soonOf_244 : decode cX8_soonOf 244 = .ok (.goto (-188), 3) := by decide +kernel
theorem dX8_soonOf_247 : decode cX8_soonOf 247 = .ok (.iconst (-1), 1) := by decide +kernel
theorem dX8_soonOf_248 : decode cX8_soonOf 248 = .ok (.ireturn, 1) := by decide +kernel
theorem dX8_tellPerson_0 : decode cX8_tellPerson 0 = .ok (.iload_n 2, 1) := by decide +kernel
theorem dX8_tellPerson_1 : decode cX8_tellPerson 1 = .ok (.tableswitch 115 0 8 #[51, 58, 65, 72, 79, 86, 93, 103, 109], 51) := by decide +kernel
theorem dX8_tellPerson_52 : decode cX8_tellPerson 52 = .ok (.aload_n 0, 1) := by decide +kernel
theorem dX8_tellPerson_53 : decode cX8_tellPerson 53 = .ok (.getfield 19, 3) := by decide +kernel
theorem dX8_tellPerson_56 : decode cX8_tellPerson 56 = .ok (.iload_n 1, 1) := by decide +kernel
theorem dX8_tellPerson_57 : decode cX8_tellPerson 57 = .ok (.iaload, 1) := by decide +kernel
theorem dX8_tellPerson_58 : decode cX8_tellPerson 58 = .ok (.ireturn, 1) := by decide +kernel
theorem dX8_tellPerson_59 : decode cX8_tellPerson 59 = .ok (.aload_n 0, 1) := by decide +kernel
theorem dX8_tellPerson_60 : decode cX8_tellPerson 60 = .ok (.getfield 22, 3) := by decide +kernel
theorem dX8_tellPerson_63 : decode cX8_tellPerson 63 = .ok (.iload_n 1, 1) := by decide +kernel
theorem dX8_tellPerson_64 : decode cX8_tellPerson 64 = .ok (.iaload, 1) := by decide +kernel
theorem dX8_tellPerson_65 : decode cX8_tellPerson 65 = .ok (.ireturn, 1) := by decide +kernel
theorem dX8_tellPerson_66 : decode cX8_tellPerson 66 = .ok (.aload_n 0, 1) := by decide +kernel
theorem dX8_tellPerson_67 : decode cX8_tellPerson 67 = .ok (.getfield 25, 3) := by decide +kernel
theorem dX8_tellPerson_70 : decode cX8_tellPerson 70 = .ok (.iload_n 1, 1) := by decide +kernel
theorem dX8_tellPerson_71 : decode cX8_tellPerson 71 = .ok (.iaload, 1) := by decide +kernel
theorem dX8_tellPerson_72 : decode cX8_tellPerson 72 = .ok (.ireturn, 1) := by decide +kernel
theorem dX8_tellPerson_73 : decode cX8_tellPerson 73 = .ok (.aload_n 0, 1) := by decide +kernel
theorem dX8_tellPerson_74 : decode cX8_tellPerson 74 = .ok (.getfield 28, 3) := by decide +kernel
theorem dX8_tellPerson_77 : decode cX8_tellPerson 77 = .ok (.iload_n 1, 1) := by decide +kernel
theorem dX8_tellPerson_78 : decode cX8_tellPerson 78 = .ok (.iaload, 1) := by decide +kernel
theorem dX8_tellPerson_79 : decode cX8_tellPerson 79 = .ok (.ireturn, 1) := by decide +kernel
theorem dX8_tellPerson_80 : decode cX8_tellPerson 80 = .ok (.aload_n 0, 1) := by decide +kernel
theorem dX8_tellPerson_81 : decode cX8_tellPerson 81 = .ok (.getfield 34, 3) := by decide +kernel
theorem dX8_tellPerson_84 : decode cX8_tellPerson 84 = .ok (.iload_n 1, 1) := by decide +kernel
theorem dX8_tellPerson_85 : decode cX8_tellPerson 85 = .ok (.iaload, 1) := by decide +kernel
theorem dX8_tellPerson_86 : decode cX8_tellPerson 86 = .ok (.ireturn, 1) := by decide +kernel
theorem dX8_tellPerson_87 : decode cX8_tellPerson 87 = .ok (.aload_n 0, 1) := by decide +kernel
theorem dX8_tellPerson_88 : decode cX8_tellPerson 88 = .ok (.getfield 31, 3) := by decide +kernel
theorem dX8_tellPerson_91 : decode cX8_tellPerson 91 = .ok (.iload_n 1, 1) := by decide +kernel
theorem dX8_tellPerson_92 : decode cX8_tellPerson 92 = .ok (.iaload, 1) := by decide +kernel
theorem dX8_tellPerson_93 : decode cX8_tellPerson 93 = .ok (.ireturn, 1) := by decide +kernel
theorem dX8_tellPerson_94 : decode cX8_tellPerson 94 = .ok (.aload_n 0, 1) := by decide +kernel
theorem dX8_tellPerson_95 : decode cX8_tellPerson 95 = .ok (.getfield 19, 3) := by decide +kernel
theorem dX8_tellPerson_98 : decode cX8_tellPerson 98 = .ok (.iload_n 1, 1) := by decide +kernel
theorem dX8_tellPerson_99 : decode cX8_tellPerson 99 = .ok (.iaload, 1) := by decide +kernel
theorem dX8_tellPerson_100 : decode cX8_tellPerson 100 = .ok (.invokestatic 163, 3) := by decide +kernel
theorem dX8_tellPerson_103 : decode cX8_tellPerson 103 = .ok (.ireturn, 1) := by decide +kernel
theorem dX8_tellPerson_104 : decode cX8_tellPerson 104 = .ok (.aload_n 0, 1) := by decide +kernel
theorem dX8_tellPerson_105 : decode cX8_tellPerson 105 = .ok (.iload_n 1, 1) := by decide +kernel
theorem dX8_tellPerson_106 : decode cX8_tellPerson 106 = .ok (.invokevirtual 169, 3) := by decide +kernel
theorem dX8_tellPerson_109 : decode cX8_tellPerson 109 = .ok (.ireturn, 1) := by decide +kernel
theorem dX8_tellPerson_110 : decode cX8_tellPerson 110 = .ok (.aload_n 0, 1) := by decide +kernel
theorem dX8_tellPerson_111 : decode cX8_tellPerson 111 = .ok (.iload_n 1, 1) := by decide +kernel
theorem dX8_tellPerson_112 : decode cX8_tellPerson 112 = .ok (.invokevirtual 172, 3) := by decide +kernel
theorem dX8_tellPerson_115 : decode cX8_tellPerson 115 = .ok (.ireturn, 1) := by decide +kernel
theorem dX8_tellPerson_116 : decode cX8_tellPerson 116 = .ok (.bipush (-102), 2) := by decide +kernel
theorem dX8_tellPerson_118 : decode cX8_tellPerson 118 = .ok (.ireturn, 1) := by decide +kernel
theorem dX8_person_0 : decode cX8_person 0 = .ok (.aload_n 0, 1) := by decide +kernel
theorem dX8_person_1 : decode cX8_person 1 = .ok (.iload_n 1, 1) := by decide +kernel
theorem dX8_person_2 : decode cX8_person 2 = .ok (.invokevirtual 175, 3) := by decide +kernel
theorem dX8_person_5 : decode cX8_person 5 = .ok (.ifCond .eq 12, 3) := by decide +kernel
theorem dX8_person_8 : decode cX8_person 8 = .ok (.aload_n 0, 1) := by decide +kernel
theorem dX8_person_9 : decode cX8_person 9 = .ok (.iload_n 1, 1) := by decide +kernel
theorem dX8_person_10 : decode cX8_person 10 = .ok (.iload_n 2, 1) := by decide +kernel
theorem dX8_person_11 : decode cX8_person 11 = .ok (.invokevirtual 178, 3) := by decide +kernel
theorem dX8_person_14 : decode cX8_person 14 = .ok (.goto 5, 3) := by decide +kernel
theorem dX8_person_17 : decode cX8_person 17 = .ok (.bipush (-101), 2) := by decide +kernel
theorem dX8_person_19 : decode cX8_person 19 = .ok (.ireturn, 1) := by decide +kernel
theorem dX8_as_0 : decode cX8_as 0 = .ok (.aload_n 0, 1) := by decide +kernel
theorem dX8_as_1 : decode cX8_as 1 = .ok (.iload_n 1, 1) := by decide +kernel
theorem dX8_as_2 : decode cX8_as 2 = .ok (.invokevirtual 175, 3) := by decide +kernel
theorem dX8_as_5 : decode cX8_as 5 = .ok (.ifCond .ne 6, 3) := by decide +kernel
theorem dX8_as_8 : decode cX8_as 8 = .ok (.bipush (-101), 2) := by decide +kernel
theorem dX8_as_10 : decode cX8_as 10 = .ok (.ireturn, 1) := by decide +kernel
theorem dX8_as_11 : decode cX8_as 11 = .ok (.iload_n 2, 1) := by decide +kernel
theorem dX8_as_12 : decode cX8_as 12 = .ok (.i2l, 1) := by decide +kernel
theorem dX8_as_13 : decode cX8_as 13 = .ok (.lconst 0, 1) := by decide +kernel
theorem dX8_as_14 : decode cX8_as 14 = .ok (.ldc2_w 182, 3) := by decide +kernel
theorem dX8_as_17 : decode cX8_as 17 = .ok (.invokestatic 92, 3) := by decide +kernel
theorem dX8_as_20 : decode cX8_as 20 = .ok (.ifCond .ne 6, 3) := by decide +kernel
theorem dX8_as_23 : decode cX8_as 23 = .ok (.bipush (-102), 2) := by decide +kernel
theorem dX8_as_25 : decode cX8_as 25 = .ok (.ireturn, 1) := by decide +kernel
theorem dX8_as_26 : decode cX8_as 26 = .ok (.iload_n 2, 1) := by decide +kernel
theorem dX8_as_27 : decode cX8_as 27 = .ok (.ifCond .eq 28, 3) := by decide +kernel
theorem dX8_as_30 : decode cX8_as 30 = .ok (.iload_n 2, 1) := by decide +kernel
theorem dX8_as_31 : decode cX8_as 31 = .ok (.aload_n 0, 1) := by decide +kernel
theorem dX8_as_32 : decode cX8_as 32 = .ok (.getfield 19, 3) := by decide +kernel
theorem dX8_as_35 : decode cX8_as 35 = .ok (.iload_n 1, 1) := by decide +kernel
theorem dX8_as_36 : decode cX8_as 36 = .ok (.iaload, 1) := by decide +kernel
theorem dX8_as_37 : decode cX8_as 37 = .ok (.if_icmp .eq 18, 3) := by decide +kernel
theorem dX8_as_40 : decode cX8_as 40 = .ok (.iload_n 2, 1) := by decide +kernel
theorem dX8_as_41 : decode cX8_as 41 = .ok (.iconst 1, 1) := by decide +kernel
theorem dX8_as_42 : decode cX8_as 42 = .ok (.if_icmp .ne 17, 3) := by decide +kernel
theorem dX8_as_45 : decode cX8_as 45 = .ok (.aload_n 0, 1) := by decide +kernel
theorem dX8_as_46 : decode cX8_as 46 = .ok (.getfield 19, 3) := by decide +kernel
theorem dX8_as_49 : decode cX8_as 49 = .ok (.iload_n 1, 1) := by decide +kernel
theorem dX8_as_50 : decode cX8_as 50 = .ok (.iaload, 1) := by decide +kernel
theorem dX8_as_51 : decode cX8_as 51 = .ok (.iconst 4, 1) := by decide +kernel
theorem dX8_as_52 : decode cX8_as 52 = .ok (.if_icmp .ne 7, 3) := by decide +kernel
theorem dX8_as_55 : decode cX8_as 55 = .ok (.iconst 1, 1) := by decide +kernel
theorem dX8_as_56 : decode cX8_as 56 = .ok (.goto 4, 3) := by decide +kernel
theorem dX8_as_59 : decode cX8_as 59 = .ok (.iconst 0, 1) := by decide +kernel
theorem dX8_as_60 : decode cX8_as 60 = .ok (.istore_n 3, 1) := by decide +kernel
theorem dX8_as_61 : decode cX8_as 61 = .ok (.iload_n 3, 1) := by decide +kernel
theorem dX8_as_62 : decode cX8_as 62 = .ok (.ifCond .eq 7, 3) := by decide +kernel
theorem dX8_as_65 : decode cX8_as 65 = .ok (.iload_n 1, 1) := by decide +kernel
theorem dX8_as_66 : decode cX8_as 66 = .ok (.goto 4, 3) := by decide +kernel
theorem dX8_as_69 : decode cX8_as 69 = .ok (.iconst (-1), 1) := by decide +kernel
theorem dX8_as_70 : decode cX8_as 70 = .ok (.ireturn, 1) := by decide +kernel
theorem dX8_road_0 : decode cX8_road 0 = .ok (.iload_n 1, 1) := by decide +kernel
theorem dX8_road_1 : decode cX8_road 1 = .ok (.i2l, 1) := by decide +kernel
theorem dX8_road_2 : decode cX8_road 2 = .ok (.lconst 0, 1) := by decide +kernel
theorem dX8_road_3 : decode cX8_road 3 = .ok (.aload_n 0, 1) := by decide +kernel
theorem dX8_road_4 : decode cX8_road 4 = .ok (.getfield 131, 3) := by decide +kernel
theorem dX8_road_7 : decode cX8_road 7 = .ok (.iconst 1, 1) := by decide +kernel
theorem dX8_road_8 : decode cX8_road 8 = .ok (.isub, 1) := by decide +kernel
theorem dX8_road_9 : decode cX8_road 9 = .ok (.i2l, 1) := by decide +kernel
theorem dX8_road_10 : decode cX8_road 10 = .ok (.invokestatic 92, 3) := by decide +kernel
theorem dX8_road_13 : decode cX8_road 13 = .ok (.ifCond .ne 6, 3) := by decide +kernel
theorem dX8_road_16 : decode cX8_road 16 = .ok (.bipush (-101), 2) := by decide +kernel
theorem dX8_road_18 : decode cX8_road 18 = .ok (.ireturn, 1) := by decide +kernel
theorem dX8_road_19 : decode cX8_road 19 = .ok (.iload_n 2, 1) := by decide +kernel
theorem dX8_road_20 : decode cX8_road 20 = .ok (.i2l, 1) := by decide +kernel
theorem dX8_road_21 : decode cX8_road 21 = .ok (.lconst 0, 1) := by decide +kernel
theorem dX8_road_22 : decode cX8_road 22 = .ok (.lconst 1, 1) := by decide +kernel
theorem dX8_road_23 : decode cX8_road 23 = .ok (.invokestatic 92, 3) := by decide +kernel
theorem dX8_road_26 : decode cX8_road 26 = .ok (.ifCond .ne 6, 3) := by decide +kernel
theorem dX8_road_29 : decode cX8_road 29 = .ok (.bipush (-102), 2) := by decide +kernel
theorem dX8_road_31 : decode cX8_road 31 = .ok (.ireturn, 1) := by decide +kernel
theorem dX8_road_32 : decode cX8_road 32 = .ok (.iload_n 2, 1) := by decide +kernel
theorem dX8_road_33 : decode cX8_road 33 = .ok (.ifCond .ne 12, 3) := by decide +kernel
theorem dX8_road_36 : decode cX8_road 36 = .ok (.aload_n 0, 1) := by decide +kernel
theorem dX8_road_37 : decode cX8_road 37 = .ok (.getfield 13, 3) := by decide +kernel
theorem dX8_road_40 : decode cX8_road 40 = .ok (.iload_n 1, 1) := by decide +kernel
theorem dX8_road_41 : decode cX8_road 41 = .ok (.iaload, 1) := by decide +kernel
theorem dX8_road_42 : decode cX8_road 42 = .ok (.goto 9, 3) := by decide +kernel
theorem dX8_road_45 : decode cX8_road 45 = .ok (.aload_n 0, 1) := by decide +kernel
theorem dX8_road_46 : decode cX8_road 46 = .ok (.getfield 16, 3) := by decide +kernel
theorem dX8_road_49 : decode cX8_road 49 = .ok (.iload_n 1, 1) := by decide +kernel
theorem dX8_road_50 : decode cX8_road 50 = .ok (.iaload, 1) := by decide +kernel
theorem dX8_road_51 : decode cX8_road 51 = .ok (.ireturn, 1) := by decide +kernel
theorem dX8_nextTo_0 : decode cX8_nextTo 0 = .ok (.iconst 0, 1) := by decide +kernel
theorem dX8_nextTo_1 : decode cX8_nextTo 1 = .ok (.istore_n 2, 1) := by decide +kernel
theorem dX8_nextTo_2 : decode cX8_nextTo 2 = .ok (.iconst 0, 1) := by decide +kernel
theorem dX8_nextTo_3 : decode cX8_nextTo 3 = .ok (.istore_n 3, 1) := by decide +kernel
theorem dX8_nextTo_4 : decode cX8_nextTo 4 = .ok (.iload_n 3, 1) := by decide +kernel
theorem dX8_nextTo_5 : decode cX8_nextTo 5 = .ok (.aload_n 0, 1) := by decide +kernel
theorem dX8_nextTo_6 : decode cX8_nextTo 6 = .ok (.getfield 134, 3) := by decide +kernel
theorem dX8_nextTo_9 : decode cX8_nextTo 9 = .ok (.if_icmp .ge 34, 3) := by decide +kernel
theorem dX8_nextTo_12 : decode cX8_nextTo 12 = .ok (.iload_n 2, 1) := by decide +kernel
theorem dX8_nextTo_13 : decode cX8_nextTo 13 = .ok (.aload_n 0, 1) := by decide +kernel
theorem dX8_nextTo_14 : decode cX8_nextTo 14 = .ok (.getfield 37, 3) := by decide +kernel
theorem dX8_nextTo_17 : decode cX8_nextTo 17 = .ok (.bipush 6, 2) := by decide +kernel
theorem dX8_nextTo_19 : decode cX8_nextTo 19 = .ok (.iload_n 1, 1) := by decide +kernel
theorem dX8_nextTo_20 : decode cX8_nextTo 20 = .ok (.imul, 1) := by decide +kernel
theorem dX8_nextTo_21 : decode cX8_nextTo 21 = .ok (.iload_n 3, 1) := by decide +kernel
theorem dX8_nextTo_22 : decode cX8_nextTo 22 = .ok (.iadd, 1) := by decide +kernel
theorem dX8_nextTo_23 : decode cX8_nextTo 23 = .ok (.iaload, 1) := by decide +kernel
theorem dX8_nextTo_24 : decode cX8_nextTo 24 = .ok (.iconst 1, 1) := by decide +kernel
theorem dX8_nextTo_25 : decode cX8_nextTo 25 = .ok (.if_icmp .ne 9, 3) := by decide +kernel
theorem dX8_nextTo_28 : decode cX8_nextTo 28 = .ok (.iconst 1, 1) := by decide +kernel
theorem dX8_nextTo_29 : decode cX8_nextTo 29 = .ok (.iload_n 3, 1) := by decide +kernel
theorem dX8_nextTo_30 : decode cX8_nextTo 30 = .ok (.ishl, 1) := by decide +kernel
theorem dX8_nextTo_31 : decode cX8_nextTo 31 = .ok (.goto 4, 3) := by decide +kernel
theorem dX8_nextTo_34 : decode cX8_nextTo 34 = .ok (.iconst 0, 1) := by decide +kernel
theorem dX8_nextTo_35 : decode cX8_nextTo 35 = .ok (.ior, 1) := by decide +kernel
theorem dX8_nextTo_36 : decode cX8_nextTo 36 = .ok (.istore_n 2, 1) := by decide +kernel
theorem dX8_nextTo_37 : decode cX8_nextTo 37 = .ok (.iinc 3 1, 3) := by decide +kernel
theorem dX8_nextTo_40 : decode cX8_nextTo 40 = .ok (.goto (-36), 3) := by decide +kernel
theorem dX8_nextTo_43 : decode cX8_nextTo 43 = .ok (.iload_n 2, 1) := by decide +kernel
theorem dX8_nextTo_44 : decode cX8_nextTo 44 = .ok (.ireturn, 1) := by decide +kernel
theorem dX8_whoAt_0 : decode cX8_whoAt 0 = .ok (.iconst 0, 1) := by decide +kernel
theorem dX8_whoAt_1 : decode cX8_whoAt 1 = .ok (.istore_n 2, 1) := by decide +kernel
theorem dX8_whoAt_2 : decode cX8_whoAt 2 = .ok (.iconst 0, 1) := by decide +kernel
theorem dX8_whoAt_3 : decode cX8_whoAt 3 = .ok (.istore_n 3, 1) := by decide +kernel
theorem dX8_whoAt_4 : decode cX8_whoAt 4 = .ok (.iload_n 3, 1) := by decide +kernel
theorem dX8_whoAt_5 : decode cX8_whoAt 5 = .ok (.aload_n 0, 1) := by decide +kernel
theorem dX8_whoAt_6 : decode cX8_whoAt 6 = .ok (.getfield 140, 3) := by decide +kernel
theorem dX8_whoAt_9 : decode cX8_whoAt 9 = .ok (.if_icmp .ge 29, 3) := by decide +kernel
theorem dX8_whoAt_12 : decode cX8_whoAt 12 = .ok (.iload_n 2, 1) := by decide +kernel
theorem dX8_whoAt_13 : decode cX8_whoAt 13 = .ok (.aload_n 0, 1) := by decide +kernel
theorem dX8_whoAt_14 : decode cX8_whoAt 14 = .ok (.getfield 22, 3) := by decide +kernel
theorem dX8_whoAt_17 : decode cX8_whoAt 17 = .ok (.iload_n 3, 1) := by decide +kernel
theorem dX8_whoAt_18 : decode cX8_whoAt 18 = .ok (.iaload, 1) := by decide +kernel
theorem dX8_whoAt_19 : decode cX8_whoAt 19 = .ok (.iload_n 1, 1) := by decide +kernel
theorem dX8_whoAt_20 : decode cX8_whoAt 20 = .ok (.if_icmp .ne 9, 3) := by decide +kernel
theorem dX8_whoAt_23 : decode cX8_whoAt 23 = .ok (.iconst 1, 1) := by decide +kernel
theorem dX8_whoAt_24 : decode cX8_whoAt 24 = .ok (.iload_n 3, 1) := by decide +kernel
theorem dX8_whoAt_25 : decode cX8_whoAt 25 = .ok (.ishl, 1) := by decide +kernel
theorem dX8_whoAt_26 : decode cX8_whoAt 26 = .ok (.goto 4, 3) := by decide +kernel
theorem dX8_whoAt_29 : decode cX8_whoAt 29 = .ok (.iconst 0, 1) := by decide +kernel
theorem dX8_whoAt_30 : decode cX8_whoAt 30 = .ok (.ior, 1) := by decide +kernel
theorem dX8_whoAt_31 : decode cX8_whoAt 31 = .ok (.istore_n 2, 1) := by decide +kernel
theorem dX8_whoAt_32 : decode cX8_whoAt 32 = .ok (.iinc 3 1, 3) := by decide +kernel
theorem dX8_whoAt_35 : decode cX8_whoAt 35 = .ok (.goto (-31), 3) := by decide +kernel
theorem dX8_whoAt_38 : decode cX8_whoAt 38 = .ok (.iload_n 2, 1) := by decide +kernel
theorem dX8_whoAt_39 : decode cX8_whoAt 39 = .ok (.ireturn, 1) := by decide +kernel
theorem dX8_farOf_0 : decode cX8_farOf 0 = .ok (.aload_n 0, 1) := by decide +kernel
theorem dX8_farOf_1 : decode cX8_farOf 1 = .ok (.getfield 37, 3) := by decide +kernel
theorem dX8_farOf_4 : decode cX8_farOf 4 = .ok (.bipush 6, 2) := by decide +kernel
theorem dX8_farOf_6 : decode cX8_farOf 6 = .ok (.iload_n 1, 1) := by decide +kernel
theorem dX8_farOf_7 : decode cX8_farOf 7 = .ok (.imul, 1) := by decide +kernel
theorem dX8_farOf_8 : decode cX8_farOf 8 = .ok (.iload_n 2, 1) := by decide +kernel
theorem dX8_farOf_9 : decode cX8_farOf 9 = .ok (.iadd, 1) := by decide +kernel
theorem dX8_farOf_10 : decode cX8_farOf 10 = .ok (.iaload, 1) := by decide +kernel
theorem dX8_farOf_11 : decode cX8_farOf 11 = .ok (.bipush 99, 2) := by decide +kernel
theorem dX8_farOf_13 : decode cX8_farOf 13 = .ok (.if_icmp .ne 7, 3) := by decide +kernel
theorem dX8_farOf_16 : decode cX8_farOf 16 = .ok (.iconst (-1), 1) := by decide +kernel
theorem dX8_farOf_17 : decode cX8_farOf 17 = .ok (.goto 14, 3) := by decide +kernel
theorem dX8_farOf_20 : decode cX8_farOf 20 = .ok (.aload_n 0, 1) := by decide +kernel
theorem dX8_farOf_21 : decode cX8_farOf 21 = .ok (.getfield 37, 3) := by decide +kernel
theorem dX8_farOf_24 : decode cX8_farOf 24 = .ok (.bipush 6, 2) := by decide +kernel
theorem dX8_farOf_26 : decode cX8_farOf 26 = .ok (.iload_n 1, 1) := by decide +kernel
theorem dX8_farOf_27 : decode cX8_farOf 27 = .ok (.imul, 1) := by decide +kernel
theorem dX8_farOf_28 : decode cX8_farOf 28 = .ok (.iload_n 2, 1) := by decide +kernel
theorem dX8_farOf_29 : decode cX8_farOf 29 = .ok (.iadd, 1) := by decide +kernel
theorem dX8_farOf_30 : decode cX8_farOf 30 = .ok (.iaload, 1) := by decide +kernel
theorem dX8_farOf_31 : decode cX8_farOf 31 = .ok (.ireturn, 1) := by decide +kernel
theorem dX8_canCatch_0 : decode cX8_canCatch 0 = .ok (.iconst 0, 1) := by decide +kernel
theorem dX8_canCatch_1 : decode cX8_canCatch 1 = .ok (.istore_n 3, 1) := by decide +kernel
theorem dX8_canCatch_2 : decode cX8_canCatch 2 = .ok (.iconst 0, 1) := by decide +kernel
theorem dX8_canCatch_3 : decode cX8_canCatch 3 = .ok (.istore 4, 2) := by decide +kernel
theorem dX8_canCatch_5 : decode cX8_canCatch 5 = .ok (.iload 4, 2) := by decide +kernel
theorem dX8_canCatch_7 : decode cX8_canCatch 7 = .ok (.aload_n 0, 1) := by decide +kernel
theorem dX8_canCatch_8 : decode cX8_canCatch 8 = .ok (.getfield 134, 3) := by decide +kernel
theorem dX8_canCatch_11 : decode cX8_canCatch 11 = .ok (.if_icmp .ge 45, 3) := by decide +kernel
theorem dX8_canCatch_14 : decode cX8_canCatch 14 = .ok (.iload_n 3, 1) := by decide +kernel
theorem dX8_canCatch_15 : decode cX8_canCatch 15 = .ok (.ifCond .ne 29, 3) := by decide +kernel
theorem dX8_canCatch_18 : decode cX8_canCatch 18 = .ok (.aload_n 0, 1) := by decide +kernel
theorem dX8_canCatch_19 : decode cX8_canCatch 19 = .ok (.iload_n 2, 1) := by decide +kernel
theorem dX8_canCatch_20 : decode cX8_canCatch 20 = .ok (.iload 4, 2) := by decide +kernel
theorem dX8_canCatch_22 : decode cX8_canCatch 22 = .ok (.invokevirtual 166, 3) := by decide +kernel
theorem dX8_canCatch_25 : decode cX8_canCatch 25 = .ok (.ifCond .eq 23, 3) := by decide +kernel
theorem dX8_canCatch_28 : decode cX8_canCatch 28 = .ok (.aload_n 0, 1) := by decide +kernel
theorem dX8_canCatch_29 : decode cX8_canCatch 29 = .ok (.getfield 52, 3) := by decide +kernel
theorem dX8_canCatch_32 : decode cX8_canCatch 32 = .ok (.bipush 6, 2) := by decide +kernel
theorem dX8_canCatch_34 : decode cX8_canCatch 34 = .ok (.iload_n 1, 1) := by decide +kernel
theorem dX8_canCatch_35 : decode cX8_canCatch 35 = .ok (.imul, 1) := by decide +kernel
theorem dX8_canCatch_36 : decode cX8_canCatch 36 = .ok (.iload 4, 2) := by decide +kernel
theorem dX8_canCatch_38 : decode cX8_canCatch 38 = .ok (.iadd, 1) := by decide +kernel
theorem dX8_canCatch_39 : decode cX8_canCatch 39 = .ok (.iaload, 1) := by decide +kernel
theorem dX8_canCatch_40 : decode cX8_canCatch 40 = .ok (.iconst 1, 1) := by decide +kernel
theorem dX8_canCatch_41 : decode cX8_canCatch 41 = .ok (.if_icmp .ne 7, 3) := by decide +kernel
theorem dX8_canCatch_44 : decode cX8_canCatch 44 = .ok (.iconst 1, 1) := by decide +kernel
theorem dX8_canCatch_45 : decode cX8_canCatch 45 = .ok (.goto 4, 3) := by decide +kernel
theorem dX8_canCatch_48 : decode cX8_canCatch 48 = .ok (.iconst 0, 1) := by decide +kernel
theorem dX8_canCatch_49 : decode cX8_canCatch 49 = .ok (.istore_n 3, 1) := by decide +kernel
theorem dX8_canCatch_50 : decode cX8_canCatch 50 = .ok (.iinc 4 1, 3) := by decide +kernel
theorem dX8_canCatch_53 : decode cX8_canCatch 53 = .ok (.goto (-48), 3) := by decide +kernel
theorem dX8_canCatch_56 : decode cX8_canCatch 56 = .ok (.iload_n 3, 1) := by decide +kernel
theorem dX8_canCatch_57 : decode cX8_canCatch 57 = .ok (.ireturn, 1) := by decide +kernel
theorem dX8_isSure_0 : decode cX8_isSure 0 = .ok (.iconst 1, 1) := by decide +kernel
theorem dX8_isSure_1 : decode cX8_isSure 1 = .ok (.istore_n 3, 1) := by decide +kernel
theorem dX8_isSure_2 : decode cX8_isSure 2 = .ok (.iconst 0, 1) := by decide +kernel
theorem dX8_isSure_3 : decode cX8_isSure 3 = .ok (.istore 4, 2) := by decide +kernel
theorem dX8_isSure_5 : decode cX8_isSure 5 = .ok (.iload 4, 2) := by decide +kernel
theorem dX8_isSure_7 : decode cX8_isSure 7 = .ok (.aload_n 0, 1) := by decide +kernel
theorem dX8_isSure_8 : decode cX8_isSure 8 = .ok (.getfield 134, 3) := by decide +kernel
theorem dX8_isSure_11 : decode cX8_isSure 11 = .ok (.if_icmp .ge 39, 3) := by decide +kernel
theorem dX8_isSure_14 : decode cX8_isSure 14 = .ok (.iload_n 3, 1) := by decide +kernel
theorem dX8_isSure_15 : decode cX8_isSure 15 = .ok (.ifCond .eq 27, 3) := by decide +kernel
theorem dX8_isSure_18 : decode cX8_isSure 18 = .ok (.aload_n 0, 1) := by decide +kernel
theorem dX8_isSure_19 : decode cX8_isSure 19 = .ok (.iload_n 1, 1) := by decide +kernel
theorem dX8_isSure_20 : decode cX8_isSure 20 = .ok (.iload 4, 2) := by decide +kernel
theorem dX8_isSure_22 : decode cX8_isSure 22 = .ok (.invokevirtual 166, 3) := by decide +kernel
theorem dX8_isSure_25 : decode cX8_isSure 25 = .ok (.ifCond .eq 13, 3) := by decide +kernel
theorem dX8_isSure_28 : decode cX8_isSure 28 = .ok (.aload_n 0, 1) := by decide +kernel
theorem dX8_isSure_29 : decode cX8_isSure 29 = .ok (.iload 4, 2) := by decide +kernel
theorem dX8_isSure_31 : decode cX8_isSure 31 = .ok (.iload_n 2, 1) := by decide +kernel
theorem dX8_isSure_32 : decode cX8_isSure 32 = .ok (.invokevirtual 184, 3) := by decide +kernel
theorem dX8_isSure_35 : decode cX8_isSure 35 = .ok (.ifCond .eq 7, 3) := by decide +kernel
theorem dX8_isSure_38 : decode cX8_isSure 38 = .ok (.iconst 1, 1) := by decide +kernel
theorem dX8_isSure_39 : decode cX8_isSure 39 = .ok (.goto 4, 3) := by decide +kernel
theorem dX8_isSure_42 : decode cX8_isSure 42 = .ok (.iconst 0, 1) := by decide +kernel
theorem dX8_isSure_43 : decode cX8_isSure 43 = .ok (.istore_n 3, 1) := by decide +kernel
theorem dX8_isSure_44 : decode cX8_isSure 44 = .ok (.iinc 4 1, 3) := by decide +kernel
theorem dX8_isSure_47 : decode cX8_isSure 47 = .ok (.goto (-42), 3) := by decide +kernel
theorem dX8_isSure_50 : decode cX8_isSure 50 = .ok (.iload_n 3, 1) := by decide +kernel
theorem dX8_isSure_51 : decode cX8_isSure 51 = .ok (.ireturn, 1) := by decide +kernel
theorem dX8_catchOf_0 : decode cX8_catchOf 0 = .ok (.iconst 0, 1) := by decide +kernel
theorem dX8_catchOf_1 : decode cX8_catchOf 1 = .ok (.istore_n 2, 1) := by decide +kernel
theorem dX8_catchOf_2 : decode cX8_catchOf 2 = .ok (.iload_n 2, 1) := by decide +kernel
theorem dX8_catchOf_3 : decode cX8_catchOf 3 = .ok (.bipush 36, 2) := by decide +kernel
theorem dX8_catchOf_5 : decode cX8_catchOf 5 = .ok (.if_icmp .ge 31, 3) := by decide +kernel
theorem dX8_catchOf_8 : decode cX8_catchOf 8 = .ok (.aload_n 0, 1) := by decide +kernel
theorem dX8_catchOf_9 : decode cX8_catchOf 9 = .ok (.getfield 52, 3) := by decide +kernel
theorem dX8_catchOf_12 : decode cX8_catchOf 12 = .ok (.iload_n 2, 1) := by decide +kernel
theorem dX8_catchOf_13 : decode cX8_catchOf 13 = .ok (.iload_n 2, 1) := by decide +kernel
theorem dX8_catchOf_14 : decode cX8_catchOf 14 = .ok (.bipush 6, 2) := by decide +kernel
theorem dX8_catchOf_16 : decode cX8_catchOf 16 = .ok (.idiv, 1) := by decide +kernel
theorem dX8_catchOf_17 : decode cX8_catchOf 17 = .ok (.iload_n 2, 1) := by decide +kernel
theorem dX8_catchOf_18 : decode cX8_catchOf 18 = .ok (.bipush 6, 2) := by decide +kernel
theorem dX8_catchOf_20 : decode cX8_catchOf 20 = .ok (.irem, 1) := by decide +kernel
theorem dX8_catchOf_21 : decode cX8_catchOf 21 = .ok (.if_icmp .ne 7, 3) := by decide +kernel
theorem dX8_catchOf_24 : decode cX8_catchOf 24 = .ok (.iconst 1, 1) := by decide +kernel
theorem dX8_catchOf_25 : decode cX8_catchOf 25 = .ok (.goto 4, 3) := by decide +kernel
theorem dX8_catchOf_28 : decode cX8_catchOf 28 = .ok (.iconst 0, 1) := by decide +kernel
theorem dX8_catchOf_29 : decode cX8_catchOf 29 = .ok (.iastore, 1) := by decide +kernel
theorem dX8_catchOf_30 : decode cX8_catchOf 30 = .ok (.iinc 2 1, 3) := by decide +kernel
theorem dX8_catchOf_33 : decode cX8_catchOf 33 = .ok (.goto (-31), 3) := by decide +kernel
theorem dX8_catchOf_36 : decode cX8_catchOf 36 = .ok (.iconst 0, 1) := by decide +kernel
theorem dX8_catchOf_37 : decode cX8_catchOf 37 = .ok (.istore_n 2, 1) := by decide +kernel
theorem dX8_catchOf_38 : decode cX8_catchOf 38 = .ok (.iload_n 2, 1) := by decide +kernel
theorem dX8_catchOf_39 : decode cX8_catchOf 39 = .ok (.bipush 41, 2) := by decide +kernel
theorem dX8_catchOf_41 : decode cX8_catchOf 41 = .ok (.if_icmp .ge 124, 3) := by decide +kernel
theorem dX8_catchOf_44 : decode cX8_catchOf 44 = .ok (.aload_n 0, 1) := by decide +kernel
theorem dX8_catchOf_45 : decode cX8_catchOf 45 = .ok (.getfield 52, 3) := by decide +kernel
theorem dX8_catchOf_48 : decode cX8_catchOf 48 = .ok (.bipush 6, 2) := by decide +kernel
theorem dX8_catchOf_50 : decode cX8_catchOf 50 = .ok (.aload_n 0, 1) := by decide +kernel
theorem dX8_catchOf_51 : decode cX8_catchOf 51 = .ok (.getfield 137, 3) := by decide +kernel
theorem dX8_catchOf_54 : decode cX8_catchOf 54 = .ok (.imul, 1) := by decide +kernel
theorem dX8_catchOf_55 : decode cX8_catchOf 55 = .ok (.iload_n 1, 1) := by decide +kernel
theorem dX8_catchOf_56 : decode cX8_catchOf 56 = .ok (.iadd, 1) := by decide +kernel
theorem dX8_catchOf_57 : decode cX8_catchOf 57 = .ok (.iaload, 1) := by decide +kernel
theorem dX8_catchOf_58 : decode cX8_catchOf 58 = .ok (.iconst 1, 1) := by decide +kernel
theorem dX8_catchOf_59 : decode cX8_catchOf 59 = .ok (.if_icmp .ne 5, 3) := by decide +kernel
theorem dX8_catchOf_62 : decode cX8_catchOf 62 = .ok (.iload_n 2, 1) := by decide +kernel
theorem dX8_catchOf_63 : decode cX8_catchOf 63 = .ok (.ireturn, 1) := by decide +kernel
theorem dX8_catchOf_64 : decode cX8_catchOf 64 = .ok (.iconst 0, 1) := by decide +kernel
theorem dX8_catchOf_65 : decode cX8_catchOf 65 = .ok (.istore_n 3, 1) := by decide +kernel
theorem dX8_catchOf_66 : decode cX8_catchOf 66 = .ok (.iload_n 3, 1) := by decide +kernel
theorem dX8_catchOf_67 : decode cX8_catchOf 67 = .ok (.bipush 36, 2) := by decide +kernel
theorem dX8_catchOf_69 : decode cX8_catchOf 69 = .ok (.if_icmp .ge 79, 3) := by decide +kernel
theorem dX8_catchOf_72 : decode cX8_catchOf 72 = .ok (.iload_n 3, 1) := by decide +kernel
theorem dX8_catchOf_73 : decode cX8_catchOf 73 = .ok (.bipush 6, 2) := by decide +kernel
theorem dX8_catchOf_75 : decode cX8_catchOf 75 = .ok (.idiv, 1) := by decide +kernel
theorem dX8_catchOf_76 : decode cX8_catchOf 76 = .ok (.aload_n 0, 1) := by decide +kernel
theorem dX8_catchOf_77 : decode cX8_catchOf 77 = .ok (.getfield 134, 3) := by decide +kernel
theorem dX8_catchOf_80 : decode cX8_catchOf 80 = .ok (.if_icmp .ge 18, 3) := by decide +kernel
theorem dX8_catchOf_83 : decode cX8_catchOf 83 = .ok (.iload_n 3, 1) := by decide +kernel
theorem dX8_catchOf_84 : decode cX8_catchOf 84 = .ok (.bipush 6, 2) := by decide +kernel
theorem dX8_catchOf_86 : decode cX8_catchOf 86 = .ok (.irem, 1) := by decide +kernel
theorem dX8_catchOf_87 : decode cX8_catchOf 87 = .ok (.aload_n 0, 1) := by decide +kernel
theorem dX8_catchOf_88 : decode cX8_catchOf 88 = .ok (.getfield 134, 3) := by decide +kernel
theorem dX8_catchOf_91 : decode cX8_catchOf 91 = .ok (.if_icmp .ge 7, 3) := by decide +kernel
theorem dX8_catchOf_94 : decode cX8_catchOf 94 = .ok (.iconst 1, 1) := by decide +kernel
theorem dX8_catchOf_95 : decode cX8_catchOf 95 = .ok (.goto 4, 3) := by decide +kernel
theorem dX8_catchOf_98 : decode cX8_catchOf 98 = .ok (.iconst 0, 1) := by decide +kernel
theorem dX8_catchOf_99 : decode cX8_catchOf 99 = .ok (.istore 4, 2) := by decide +kernel
theorem dX8_catchOf_101 : decode cX8_catchOf 101 = .ok (.aload_n 0, 1) := by decide +kernel
theorem dX8_catchOf_102 : decode cX8_catchOf 102 = .ok (.getfield 55, 3) := by decide +kernel
theorem dX8_catchOf_105 : decode cX8_catchOf 105 = .ok (.iload_n 3, 1) := by decide +kernel
theorem dX8_catchOf_106 : decode cX8_catchOf 106 = .ok (.aload_n 0, 1) := by decide +kernel
theorem dX8_catchOf_107 : decode cX8_catchOf 107 = .ok (.getfield 52, 3) := by decide +kernel
theorem dX8_catchOf_110 : decode cX8_catchOf 110 = .ok (.iload_n 3, 1) := by decide +kernel
theorem dX8_catchOf_111 : decode cX8_catchOf 111 = .ok (.iaload, 1) := by decide +kernel
theorem dX8_catchOf_112 : decode cX8_catchOf 112 = .ok (.iconst 1, 1) := by decide +kernel
theorem dX8_catchOf_113 : decode cX8_catchOf 113 = .ok (.if_icmp .eq 23, 3) := by decide +kernel
theorem dX8_catchOf_116 : decode cX8_catchOf 116 = .ok (.iload 4, 2) := by decide +kernel
theorem dX8_catchOf_118 : decode cX8_catchOf 118 = .ok (.ifCond .eq 22, 3) := by decide +kernel
theorem dX8_catchOf_121 : decode cX8_catchOf 121 = .ok (.aload_n 0, 1) := by decide +kernel
theorem dX8_catchOf_122 : decode cX8_catchOf 122 = .ok (.iload_n 3, 1) := by decide +kernel
theorem dX8_catchOf_123 : decode cX8_catchOf 123 = .ok (.bipush 6, 2) := by decide +kernel
theorem dX8_catchOf_125 : decode cX8_catchOf 125 = .ok (.idiv, 1) := by decide +kernel
theorem dX8_catchOf_126 : decode cX8_catchOf 126 = .ok (.iload_n 3, 1) := by decide +kernel
theorem dX8_catchOf_127 : decode cX8_catchOf 127 = .ok (.bipush 6, 2) := by decide +kernel
theorem dX8_catchOf_129 : decode cX8_catchOf 129 = .ok (.irem, 1) := by decide +kernel
theorem dX8_catchOf_130 : decode cX8_catchOf 130 = .ok (.invokevirtual 187, 3) := by decide +kernel
theorem dX8_catchOf_133 : decode cX8_catchOf 133 = .ok (.ifCond .eq 7, 3) := by decide +kernel
theorem dX8_catchOf_136 : decode cX8_catchOf 136 = .ok (.iconst 1, 1) := by decide +kernel
theorem dX8_catchOf_137 : decode cX8_catchOf 137 = .ok (.goto 4, 3) := by decide +kernel
theorem dX8_catchOf_140 : decode cX8_catchOf 140 = .ok (.iconst 0, 1) := by decide +kernel
theorem dX8_catchOf_141 : decode cX8_catchOf 141 = .ok (.iastore, 1) := by decide +kernel
theorem dX8_catchOf_142 : decode cX8_catchOf 142 = .ok (.iinc 3 1, 3) := by decide +kernel
theorem dX8_catchOf_145 : decode cX8_catchOf 145 = .ok (.goto (-79), 3) := by decide +kernel
theorem dX8_catchOf_148 : decode cX8_catchOf 148 = .ok (.aload_n 0, 1) := by decide +kernel
theorem dX8_catchOf_149 : decode cX8_catchOf 149 = .ok (.getfield 55, 3) := by decide +kernel
theorem dX8_catchOf_152 : decode cX8_catchOf 152 = .ok (.aload_n 0, 1) := by decide +kernel
theorem dX8_catchOf_153 : decode cX8_catchOf 153 = .ok (.getfield 52, 3) := by decide +kernel
theorem dX8_catchOf_156 : decode cX8_catchOf 156 = .ok (.invokestatic 155, 3) := by decide +kernel
theorem dX8_catchOf_159 : decode cX8_catchOf 159 = .ok (.iinc 2 1, 3) := by decide +kernel
theorem dX8_catchOf_162 : decode cX8_catchOf 162 = .ok (.goto (-124), 3) := by decide +kernel
theorem dX8_catchOf_165 : decode cX8_catchOf 165 = .ok (.iconst (-1), 1) := by decide +kernel
theorem dX8_catchOf_166 : decode cX8_catchOf 166 = .ok (.ireturn, 1) := by decide +kernel
theorem dX8_tellCorner_0 : decode cX8_tellCorner 0 = .ok (.iload_n 2, 1) := by decide +kernel
theorem dX8_tellCorner_1 : decode cX8_tellCorner 1 = .ok (.tableswitch 59 0 3 #[31, 37, 43, 53], 31) := by decide +kernel
theorem dX8_tellCorner_32 : decode cX8_tellCorner 32 = .ok (.aload_n 0, 1) := by decide +kernel
theorem dX8_tellCorner_33 : decode cX8_tellCorner 33 = .ok (.iload_n 1, 1) := by decide +kernel
theorem dX8_tellCorner_34 : decode cX8_tellCorner 34 = .ok (.invokevirtual 190, 3) := by decide +kernel
theorem dX8_tellCorner_37 : decode cX8_tellCorner 37 = .ok (.ireturn, 1) := by decide +kernel
theorem dX8_tellCorner_38 : decode cX8_tellCorner 38 = .ok (.aload_n 0, 1) := by decide +kernel
theorem dX8_tellCorner_39 : decode cX8_tellCorner 39 = .ok (.iload_n 1, 1) := by decide +kernel
theorem dX8_tellCorner_40 : decode cX8_tellCorner 40 = .ok (.invokevirtual 193, 3) := by decide +kernel
theorem dX8_tellCorner_43 : decode cX8_tellCorner 43 = .ok (.ireturn, 1) := by decide +kernel
theorem dX8_tellCorner_44 : decode cX8_tellCorner 44 = .ok (.aload_n 0, 1) := by decide +kernel
theorem dX8_tellCorner_45 : decode cX8_tellCorner 45 = .ok (.iload_n 1, 1) := by decide +kernel
theorem dX8_tellCorner_46 : decode cX8_tellCorner 46 = .ok (.aload_n 0, 1) := by decide +kernel
theorem dX8_tellCorner_47 : decode cX8_tellCorner 47 = .ok (.getfield 137, 3) := by decide +kernel
theorem dX8_tellCorner_50 : decode cX8_tellCorner 50 = .ok (.invokevirtual 196, 3) := by decide +kernel
theorem dX8_tellCorner_53 : decode cX8_tellCorner 53 = .ok (.ireturn, 1) := by decide +kernel
theorem dX8_tellCorner_54 : decode cX8_tellCorner 54 = .ok (.aload_n 0, 1) := by decide +kernel
theorem dX8_tellCorner_55 : decode cX8_tellCorner 55 = .ok (.iload_n 1, 1) := by decide +kernel
theorem dX8_tellCorner_56 : decode cX8_tellCorner 56 = .ok (.invokevirtual 199, 3) := by decide +kernel
theorem dX8_tellCorner_59 : decode cX8_tellCorner 59 = .ok (.ireturn, 1) := by decide +kernel
theorem dX8_tellCorner_60 : decode cX8_tellCorner 60 = .ok (.bipush (-102), 2) := by decide +kernel
theorem dX8_tellCorner_62 : decode cX8_tellCorner 62 = .ok (.ireturn, 1) := by decide +kernel
theorem dX8_corner_0 : decode cX8_corner 0 = .ok (.aload_n 0, 1) := by decide +kernel
theorem dX8_corner_1 : decode cX8_corner 1 = .ok (.iload_n 1, 1) := by decide +kernel
theorem dX8_corner_2 : decode cX8_corner 2 = .ok (.invokevirtual 202, 3) := by decide +kernel
theorem dX8_corner_5 : decode cX8_corner 5 = .ok (.ifCond .eq 12, 3) := by decide +kernel
theorem dX8_corner_8 : decode cX8_corner 8 = .ok (.aload_n 0, 1) := by decide +kernel
theorem dX8_corner_9 : decode cX8_corner 9 = .ok (.iload_n 1, 1) := by decide +kernel
theorem dX8_corner_10 : decode cX8_corner 10 = .ok (.iload_n 2, 1) := by decide +kernel
theorem dX8_corner_11 : decode cX8_corner 11 = .ok (.invokevirtual 205, 3) := by decide +kernel
theorem dX8_corner_14 : decode cX8_corner 14 = .ok (.goto 5, 3) := by decide +kernel
theorem dX8_corner_17 : decode cX8_corner 17 = .ok (.bipush (-101), 2) := by decide +kernel
theorem dX8_corner_19 : decode cX8_corner 19 = .ok (.ireturn, 1) := by decide +kernel
theorem dX8_far_0 : decode cX8_far 0 = .ok (.aload_n 0, 1) := by decide +kernel
theorem dX8_far_1 : decode cX8_far 1 = .ok (.iload_n 1, 1) := by decide +kernel
theorem dX8_far_2 : decode cX8_far 2 = .ok (.invokevirtual 202, 3) := by decide +kernel
theorem dX8_far_5 : decode cX8_far 5 = .ok (.ifCond .eq 20, 3) := by decide +kernel
theorem dX8_far_8 : decode cX8_far 8 = .ok (.aload_n 0, 1) := by decide +kernel
theorem dX8_far_9 : decode cX8_far 9 = .ok (.iload_n 2, 1) := by decide +kernel
theorem dX8_far_10 : decode cX8_far 10 = .ok (.invokevirtual 202, 3) := by decide +kernel
theorem dX8_far_13 : decode cX8_far 13 = .ok (.ifCond .eq 12, 3) := by decide +kernel
theorem dX8_far_16 : decode cX8_far 16 = .ok (.aload_n 0, 1) := by decide +kernel
theorem dX8_far_17 : decode cX8_far 17 = .ok (.iload_n 1, 1) := by decide +kernel
theorem dX8_far_18 : decode cX8_far 18 = .ok (.iload_n 2, 1) := by decide +kernel
theorem dX8_far_19 : decode cX8_far 19 = .ok (.invokevirtual 196, 3) := by decide +kernel
theorem dX8_far_22 : decode cX8_far 22 = .ok (.goto 5, 3) := by decide +kernel
theorem dX8_far_25 : decode cX8_far 25 = .ok (.bipush (-101), 2) := by decide +kernel
theorem dX8_far_27 : decode cX8_far 27 = .ok (.ireturn, 1) := by decide +kernel
theorem dX8_go_0 : decode cX8_go 0 = .ok (.aload_n 0, 1) := by decide +kernel
theorem dX8_go_1 : decode cX8_go 1 = .ok (.iload_n 1, 1) := by decide +kernel
theorem dX8_go_2 : decode cX8_go 2 = .ok (.invokevirtual 202, 3) := by decide +kernel
theorem dX8_go_5 : decode cX8_go 5 = .ok (.ifCond .ne 6, 3) := by decide +kernel
theorem dX8_go_8 : decode cX8_go 8 = .ok (.bipush (-101), 2) := by decide +kernel
theorem dX8_go_10 : decode cX8_go 10 = .ok (.ireturn, 1) := by decide +kernel
theorem dX8_go_11 : decode cX8_go 11 = .ok (.aload_n 0, 1) := by decide +kernel
theorem dX8_go_12 : decode cX8_go 12 = .ok (.aload_n 0, 1) := by decide +kernel
theorem dX8_go_13 : decode cX8_go 13 = .ok (.getfield 137, 3) := by decide +kernel
theorem dX8_go_16 : decode cX8_go 16 = .ok (.iload_n 1, 1) := by decide +kernel
theorem dX8_go_17 : decode cX8_go 17 = .ok (.invokevirtual 166, 3) := by decide +kernel
theorem dX8_go_20 : decode cX8_go 20 = .ok (.ifCond .ne 6, 3) := by decide +kernel
theorem dX8_go_23 : decode cX8_go 23 = .ok (.bipush (-103), 2) := by decide +kernel
theorem dX8_go_25 : decode cX8_go 25 = .ok (.ireturn, 1) := by decide +kernel
theorem dX8_go_26 : decode cX8_go 26 = .ok (.aload_n 0, 1) := by decide +kernel
theorem dX8_go_27 : decode cX8_go 27 = .ok (.getfield 146, 3) := by decide +kernel
theorem dX8_go_30 : decode cX8_go 30 = .ok (.sipush 999, 3) := by decide +kernel
theorem dX8_go_33 : decode cX8_go 33 = .ok (.if_icmp .ne 6, 3) := by decide +kernel
theorem dX8_go_36 : decode cX8_go 36 = .ok (.bipush (-104), 2) := by decide +kernel
theorem dX8_go_38 : decode cX8_go 38 = .ok (.ireturn, 1) := by decide +kernel
theorem dX8_go_39 : decode cX8_go 39 = .ok (.aload_n 0, 1) := by decide +kernel
theorem dX8_go_40 : decode cX8_go 40 = .ok (.dup, 1) := by decide +kernel
theorem dX8_go_41 : decode cX8_go 41 = .ok (.getfield 146, 3) := by decide +kernel
theorem dX8_go_44 : decode cX8_go 44 = .ok (.iconst 1, 1) := by decide +kernel
theorem dX8_go_45 : decode cX8_go 45 = .ok (.iadd, 1) := by decide +kernel
theorem dX8_go_46 : decode cX8_go 46 = .ok (.putfield 146, 3) := by decide +kernel
theorem dX8_go_49 : decode cX8_go 49 = .ok (.aload_n 0, 1) := by decide +kernel
theorem dX8_go_50 : decode cX8_go 50 = .ok (.iload_n 1, 1) := by decide +kernel
theorem dX8_go_51 : decode cX8_go 51 = .ok (.putfield 137, 3) := by decide +kernel
theorem dX8_go_54 : decode cX8_go 54 = .ok (.aload_n 0, 1) := by decide +kernel
theorem dX8_go_55 : decode cX8_go 55 = .ok (.invokevirtual 208, 3) := by decide +kernel
theorem dX8_go_58 : decode cX8_go 58 = .ok (.aload_n 0, 1) := by decide +kernel
theorem dX8_go_59 : decode cX8_go 59 = .ok (.aload_n 0, 1) := by decide +kernel
theorem dX8_go_60 : decode cX8_go 60 = .ok (.getfield 137, 3) := by decide +kernel
theorem dX8_go_63 : decode cX8_go 63 = .ok (.aload_n 0, 1) := by decide +kernel
theorem dX8_go_64 : decode cX8_go 64 = .ok (.getfield 146, 3) := by decide +kernel
theorem dX8_go_67 : decode cX8_go 67 = .ok (.invokevirtual 211, 3) := by decide +kernel
theorem dX8_go_70 : decode cX8_go 70 = .ok (.istore_n 2, 1) := by decide +kernel
theorem dX8_go_71 : decode cX8_go 71 = .ok (.aload_n 0, 1) := by decide +kernel
theorem dX8_go_72 : decode cX8_go 72 = .ok (.getfield 40, 3) := by decide +kernel
theorem dX8_go_75 : decode cX8_go 75 = .ok (.aload_n 0, 1) := by decide +kernel
theorem dX8_go_76 : decode cX8_go 76 = .ok (.getfield 31, 3) := by decide +kernel
theorem dX8_go_79 : decode cX8_go 79 = .ok (.invokestatic 155, 3) := by decide +kernel
theorem dX8_go_82 : decode cX8_go 82 = .ok (.aload_n 0, 1) := by decide +kernel
theorem dX8_go_83 : decode cX8_go 83 = .ok (.getfield 43, 3) := by decide +kernel
theorem dX8_go_86 : decode cX8_go 86 = .ok (.aload_n 0, 1) := by decide +kernel
theorem dX8_go_87 : decode cX8_go 87 = .ok (.getfield 34, 3) := by decide +kernel
theorem dX8_go_90 : decode cX8_go 90 = .ok (.invokestatic 155, 3) := by decide +kernel
theorem dX8_go_93 : decode cX8_go 93 = .ok (.iload_n 2, 1) := by decide +kernel
theorem dX8_go_94 : decode cX8_go 94 = .ok (.ireturn, 1) := by decide +kernel
theorem dX8_stand_0 : decode cX8_stand 0 = .ok (.aload_n 0, 1) := by decide +kernel
theorem dX8_stand_1 : decode cX8_stand 1 = .ok (.iload_n 1, 1) := by decide +kernel
theorem dX8_stand_2 : decode cX8_stand 2 = .ok (.invokevirtual 202, 3) := by decide +kernel
theorem dX8_stand_5 : decode cX8_stand 5 = .ok (.ifCond .ne 6, 3) := by decide +kernel
theorem dX8_stand_8 : decode cX8_stand 8 = .ok (.bipush (-101), 2) := by decide +kernel
theorem dX8_stand_10 : decode cX8_stand 10 = .ok (.ireturn, 1) := by decide +kernel
theorem dX8_stand_11 : decode cX8_stand 11 = .ok (.aload_n 0, 1) := by decide +kernel
theorem dX8_stand_12 : decode cX8_stand 12 = .ok (.getfield 137, 3) := by decide +kernel
theorem dX8_stand_15 : decode cX8_stand 15 = .ok (.istore_n 2, 1) := by decide +kernel
theorem dX8_stand_16 : decode cX8_stand 16 = .ok (.aload_n 0, 1) := by decide +kernel
theorem dX8_stand_17 : decode cX8_stand 17 = .ok (.iload_n 1, 1) := by decide +kernel
theorem dX8_stand_18 : decode cX8_stand 18 = .ok (.putfield 137, 3) := by decide +kernel
theorem dX8_stand_21 : decode cX8_stand 21 = .ok (.iload_n 2, 1) := by decide +kernel
theorem dX8_stand_22 : decode cX8_stand 22 = .ok (.ireturn, 1) := by decide +kernel
theorem dX8_call_0 : decode cX8_call 0 = .ok (.aload_n 0, 1) := by decide +kernel
theorem dX8_call_1 : decode cX8_call 1 = .ok (.iload_n 1, 1) := by decide +kernel
theorem dX8_call_2 : decode cX8_call 2 = .ok (.invokevirtual 175, 3) := by decide +kernel
theorem dX8_call_5 : decode cX8_call 5 = .ok (.ifCond .ne 6, 3) := by decide +kernel
theorem dX8_call_8 : decode cX8_call 8 = .ok (.bipush (-101), 2) := by decide +kernel
theorem dX8_call_10 : decode cX8_call 10 = .ok (.ireturn, 1) := by decide +kernel
theorem dX8_call_11 : decode cX8_call 11 = .ok (.iload_n 2, 1) := by decide +kernel
theorem dX8_call_12 : decode cX8_call 12 = .ok (.i2l, 1) := by decide +kernel
theorem dX8_call_13 : decode cX8_call 13 = .ok (.lconst 0, 1) := by decide +kernel
theorem dX8_call_14 : decode cX8_call 14 = .ok (.ldc2_w 182, 3) := by decide +kernel
theorem dX8_call_17 : decode cX8_call 17 = .ok (.invokestatic 92, 3) := by decide +kernel
theorem dX8_call_20 : decode cX8_call 20 = .ok (.ifCond .eq 28, 3) := by decide +kernel
theorem dX8_call_23 : decode cX8_call 23 = .ok (.iload_n 3, 1) := by decide +kernel
theorem dX8_call_24 : decode cX8_call 24 = .ok (.i2l, 1) := by decide +kernel
theorem dX8_call_25 : decode cX8_call 25 = .ok (.lconst 0, 1) := by decide +kernel
theorem dX8_call_26 : decode cX8_call 26 = .ok (.ldc2_w 214, 3) := by decide +kernel
theorem dX8_call_29 : decode cX8_call 29 = .ok (.invokestatic 92, 3) := by decide +kernel
theorem dX8_call_32 : decode cX8_call 32 = .ok (.ifCond .eq 16, 3) := by decide +kernel
theorem dX8_call_35 : decode cX8_call 35 = .ok (.iload 4, 2) := by decide +kernel
theorem dX8_call_37 : decode cX8_call 37 = .ok (.i2l, 1) := by decide +kernel
theorem dX8_call_38 : decode cX8_call 38 = .ok (.lconst 0, 1) := by decide +kernel
theorem dX8_call_39 : decode cX8_call 39 = .ok (.ldc2_w 214, 3) := by decide +kernel
theorem dX8_call_42 : decode cX8_call 42 = .ok (.invokestatic 92, 3) := by decide +kernel
theorem dX8_call_45 : decode cX8_call 45 = .ok (.ifCond .ne 6, 3) := by decide +kernel
theorem dX8_call_48 : decode cX8_call 48 = .ok (.bipush (-102), 2) := by decide +kernel
theorem dX8_call_50 : decode cX8_call 50 = .ok (.ireturn, 1) := by decide +kernel
theorem dX8_call_51 : decode cX8_call 51 = .ok (.aload_n 0, 1) := by decide +kernel
theorem dX8_call_52 : decode cX8_call 52 = .ok (.getfield 19, 3) := by decide +kernel
theorem dX8_call_55 : decode cX8_call 55 = .ok (.iload_n 1, 1) := by decide +kernel
theorem dX8_call_56 : decode cX8_call 56 = .ok (.iaload, 1) := by decide +kernel
theorem dX8_call_57 : decode cX8_call 57 = .ok (.istore 5, 2) := by decide +kernel
theorem dX8_call_59 : decode cX8_call 59 = .ok (.aload_n 0, 1) := by decide +kernel
theorem dX8_call_60 : decode cX8_call 60 = .ok (.getfield 19, 3) := by decide +kernel
theorem dX8_call_63 : decode cX8_call 63 = .ok (.iload_n 1, 1) := by decide +kernel
theorem dX8_call_64 : decode cX8_call 64 = .ok (.iload_n 2, 1) := by decide +kernel
theorem dX8_call_65 : decode cX8_call 65 = .ok (.iastore, 1) := by decide +kernel
theorem dX8_call_66 : decode cX8_call 66 = .ok (.aload_n 0, 1) := by decide +kernel
theorem dX8_call_67 : decode cX8_call 67 = .ok (.getfield 25, 3) := by decide +kernel
theorem dX8_call_70 : decode cX8_call 70 = .ok (.iload_n 1, 1) := by decide +kernel
theorem dX8_call_71 : decode cX8_call 71 = .ok (.iload_n 3, 1) := by decide +kernel
theorem dX8_call_72 : decode cX8_call 72 = .ok (.iastore, 1) := by decide +kernel
theorem dX8_call_73 : decode cX8_call 73 = .ok (.aload_n 0, 1) := by decide +kernel
theorem dX8_call_74 : decode cX8_call 74 = .ok (.getfield 28, 3) := by decide +kernel
theorem dX8_call_77 : decode cX8_call 77 = .ok (.iload_n 1, 1) := by decide +kernel
theorem dX8_call_78 : decode cX8_call 78 = .ok (.iload 4, 2) := by decide +kernel
theorem dX8_call_80 : decode cX8_call 80 = .ok (.iastore, 1) := by decide +kernel
theorem dX8_call_81 : decode cX8_call 81 = .ok (.aload_n 0, 1) := by decide +kernel
theorem dX8_call_82 : decode cX8_call 82 = .ok (.getfield 31, 3) := by decide +kernel
theorem dX8_call_85 : decode cX8_call 85 = .ok (.iload_n 1, 1) := by decide +kernel
theorem dX8_call_86 : decode cX8_call 86 = .ok (.iconst 0, 1) := by decide +kernel
theorem dX8_call_87 : decode cX8_call 87 = .ok (.iastore, 1) := by decide +kernel
theorem dX8_call_88 : decode cX8_call 88 = .ok (.aload_n 0, 1) := by decide +kernel
theorem dX8_call_89 : decode cX8_call 89 = .ok (.getfield 34, 3) := by decide +kernel
theorem dX8_call_92 : decode cX8_call 92 = .ok (.iload_n 1, 1) := by decide +kernel
theorem dX8_call_93 : decode cX8_call 93 = .ok (.iconst 0, 1) := by decide +kernel
theorem dX8_call_94 : decode cX8_call 94 = .ok (.iastore, 1) := by decide +kernel
theorem dX8_call_95 : decode cX8_call 95 = .ok (.iload 5, 2) := by decide +kernel
theorem dX8_call_97 : decode cX8_call 97 = .ok (.ireturn, 1) := by decide +kernel
theorem dX8_figure_0 : decode cX8_figure 0 = .ok (.iload_n 0, 1) := by decide +kernel
theorem dX8_figure_1 : decode cX8_figure 1 = .ok (.istore_n 3, 1) := by decide +kernel
theorem dX8_figure_2 : decode cX8_figure 2 = .ok (.iload_n 2, 1) := by decide +kernel
theorem dX8_figure_3 : decode cX8_figure 3 = .ok (.iconst 1, 1) := by decide +kernel
theorem dX8_figure_4 : decode cX8_figure 4 = .ok (.iadd, 1) := by decide +kernel
theorem dX8_figure_5 : decode cX8_figure 5 = .ok (.istore 4, 2) := by decide +kernel
theorem dX8_figure_7 : decode cX8_figure 7 = .ok (.iload 4, 2) := by decide +kernel
theorem dX8_figure_9 : decode cX8_figure 9 = .ok (.iload_n 1, 1) := by decide +kernel
theorem dX8_figure_10 : decode cX8_figure 10 = .ok (.if_icmp .ge 14, 3) := by decide +kernel
theorem dX8_figure_13 : decode cX8_figure 13 = .ok (.iload_n 3, 1) := by decide +kernel
theorem dX8_figure_14 : decode cX8_figure 14 = .ok (.bipush 6, 2) := by decide +kernel
theorem dX8_figure_16 : decode cX8_figure 16 = .ok (.idiv, 1) := by decide +kernel
theorem dX8_figure_17 : decode cX8_figure 17 = .ok (.istore_n 3, 1) := by decide +kernel
theorem dX8_figure_18 : decode cX8_figure 18 = .ok (.iinc 4 1, 3) := by decide +kernel
theorem dX8_figure_21 : decode cX8_figure 21 = .ok (.goto (-14), 3) := by decide +kernel
theorem dX8_figure_24 : decode cX8_figure 24 = .ok (.iload_n 3, 1) := by decide +kernel
theorem dX8_figure_25 : decode cX8_figure 25 = .ok (.bipush 6, 2) := by decide +kernel
theorem dX8_figure_27 : decode cX8_figure 27 = .ok (.irem, 1) := by decide +kernel
theorem dX8_figure_28 : decode cX8_figure 28 = .ok (.ireturn, 1) := by decide +kernel
theorem dX8_worthOf_0 : decode cX8_worthOf 0 = .ok (.aload_n 0, 1) := by decide +kernel
theorem dX8_worthOf_1 : decode cX8_worthOf 1 = .ok (.invokevirtual 208, 3) := by decide +kernel
theorem dX8_worthOf_4 : decode cX8_worthOf 4 = .ok (.aload_n 0, 1) := by decide +kernel
theorem dX8_worthOf_5 : decode cX8_worthOf 5 = .ok (.getfield 137, 3) := by decide +kernel
theorem dX8_worthOf_8 : decode cX8_worthOf 8 = .ok (.istore_n 3, 1) := by decide +kernel
theorem dX8_worthOf_9 : decode cX8_worthOf 9 = .ok (.iconst 0, 1) := by decide +kernel
theorem dX8_worthOf_10 : decode cX8_worthOf 10 = .ok (.istore 4, 2) := by decide +kernel
theorem dX8_worthOf_12 : decode cX8_worthOf 12 = .ok (.iconst 0, 1) := by decide +kernel
theorem dX8_worthOf_13 : decode cX8_worthOf 13 = .ok (.istore 5, 2) := by decide +kernel
theorem dX8_worthOf_15 : decode cX8_worthOf 15 = .ok (.iload 5, 2) := by decide +kernel
theorem dX8_worthOf_17 : decode cX8_worthOf 17 = .ok (.iload_n 2, 1) := by decide +kernel
theorem dX8_worthOf_18 : decode cX8_worthOf 18 = .ok (.if_icmp .ge 65, 3) := by decide +kernel
theorem dX8_worthOf_21 : decode cX8_worthOf 21 = .ok (.iload_n 1, 1) := by decide +kernel
theorem dX8_worthOf_22 : decode cX8_worthOf 22 = .ok (.iload_n 2, 1) := by decide +kernel
theorem dX8_worthOf_23 : decode cX8_worthOf 23 = .ok (.iload 5, 2) := by decide +kernel
theorem dX8_worthOf_25 : decode cX8_worthOf 25 = .ok (.invokestatic 216, 3) := by decide +kernel
theorem dX8_worthOf_28 : decode cX8_worthOf 28 = .ok (.istore 6, 2) := by decide +kernel
theorem dX8_worthOf_30 : decode cX8_worthOf 30 = .ok (.iload 6, 2) := by decide +kernel
theorem dX8_worthOf_32 : decode cX8_worthOf 32 = .ok (.aload_n 0, 1) := by decide +kernel
theorem dX8_worthOf_33 : decode cX8_worthOf 33 = .ok (.getfield 134, 3) := by decide +kernel
theorem dX8_worthOf_36 : decode cX8_worthOf 36 = .ok (.if_icmp .ge 13, 3) := by decide +kernel
theorem dX8_worthOf_39 : decode cX8_worthOf 39 = .ok (.aload_n 0, 1) := by decide +kernel
theorem dX8_worthOf_40 : decode cX8_worthOf 40 = .ok (.iload_n 3, 1) := by decide +kernel
theorem dX8_worthOf_41 : decode cX8_worthOf 41 = .ok (.iload 6, 2) := by decide +kernel
theorem dX8_worthOf_43 : decode cX8_worthOf 43 = .ok (.invokevirtual 166, 3) := by decide +kernel
theorem dX8_worthOf_46 : decode cX8_worthOf 46 = .ok (.ifCond .ne 5, 3) := by decide +kernel
theorem dX8_worthOf_49 : decode cX8_worthOf 49 = .ok (.iconst (-1), 1) := by decide +kernel
theorem dX8_worthOf_50 : decode cX8_worthOf 50 = .ok (.ireturn, 1) := by decide +kernel
theorem dX8_worthOf_51 : decode cX8_worthOf 51 = .ok (.iload 4, 2) := by decide +kernel
theorem dX8_worthOf_53 : decode cX8_worthOf 53 = .ok (.bipush 100, 2) := by decide +kernel
theorem dX8_worthOf_55 : decode cX8_worthOf 55 = .ok (.aload_n 0, 1) := by decide +kernel
theorem dX8_worthOf_56 : decode cX8_worthOf 56 = .ok (.iload 6, 2) := by decide +kernel
theorem dX8_worthOf_58 : decode cX8_worthOf 58 = .ok (.aload_n 0, 1) := by decide +kernel
theorem dX8_worthOf_59 : decode cX8_worthOf 59 = .ok (.getfield 146, 3) := by decide +kernel
theorem dX8_worthOf_62 : decode cX8_worthOf 62 = .ok (.iload 5, 2) := by decide +kernel
theorem dX8_worthOf_64 : decode cX8_worthOf 64 = .ok (.iadd, 1) := by decide +kernel
theorem dX8_worthOf_65 : decode cX8_worthOf 65 = .ok (.iconst 1, 1) := by decide +kernel
theorem dX8_worthOf_66 : decode cX8_worthOf 66 = .ok (.iadd, 1) := by decide +kernel
theorem dX8_worthOf_67 : decode cX8_worthOf 67 = .ok (.invokevirtual 211, 3) := by decide +kernel
theorem dX8_worthOf_70 : decode cX8_worthOf 70 = .ok (.imul, 1) := by decide +kernel
theorem dX8_worthOf_71 : decode cX8_worthOf 71 = .ok (.iadd, 1) := by decide +kernel
theorem dX8_worthOf_72 : decode cX8_worthOf 72 = .ok (.istore 4, 2) := by decide +kernel
theorem dX8_worthOf_74 : decode cX8_worthOf 74 = .ok (.iload 6, 2) := by decide +kernel
theorem dX8_worthOf_76 : decode cX8_worthOf 76 = .ok (.istore_n 3, 1) := by decide +kernel
theorem dX8_worthOf_77 : decode cX8_worthOf 77 = .ok (.iinc 5 1, 3) := by decide +kernel
theorem dX8_worthOf_80 : decode cX8_worthOf 80 = .ok (.goto (-65), 3) := by decide +kernel
theorem dX8_worthOf_83 : decode cX8_worthOf 83 = .ok (.iconst 0, 1) := by decide +kernel
theorem dX8_worthOf_84 : decode cX8_worthOf 84 = .ok (.istore 5, 2) := by decide +kernel
theorem dX8_worthOf_86 : decode cX8_worthOf 86 = .ok (.iload 5, 2) := by decide +kernel
theorem dX8_worthOf_88 : decode cX8_worthOf 88 = .ok (.aload_n 0, 1) := by decide +kernel
theorem dX8_worthOf_89 : decode cX8_worthOf 89 = .ok (.getfield 140, 3) := by decide +kernel
theorem dX8_worthOf_92 : decode cX8_worthOf 92 = .ok (.if_icmp .ge 35, 3) := by decide +kernel
theorem dX8_worthOf_95 : decode cX8_worthOf 95 = .ok (.iload 4, 2) := by decide +kernel
theorem dX8_worthOf_97 : decode cX8_worthOf 97 = .ok (.aload_n 0, 1) := by decide +kernel
theorem dX8_worthOf_98 : decode cX8_worthOf 98 = .ok (.getfield 43, 3) := by decide +kernel
theorem dX8_worthOf_101 : decode cX8_worthOf 101 = .ok (.iload 5, 2) := by decide +kernel
theorem dX8_worthOf_103 : decode cX8_worthOf 103 = .ok (.iaload, 1) := by decide +kernel
theorem dX8_worthOf_104 : decode cX8_worthOf 104 = .ok (.ifCond .ne 13, 3) := by decide +kernel
theorem dX8_worthOf_107 : decode cX8_worthOf 107 = .ok (.aload_n 0, 1) := by decide +kernel
theorem dX8_worthOf_108 : decode cX8_worthOf 108 = .ok (.getfield 40, 3) := by decide +kernel
theorem dX8_worthOf_111 : decode cX8_worthOf 111 = .ok (.iload 5, 2) := by decide +kernel
theorem dX8_worthOf_113 : decode cX8_worthOf 113 = .ok (.iaload, 1) := by decide +kernel
theorem dX8_worthOf_114 : decode cX8_worthOf 114 = .ok (.goto 4, 3) := by decide +kernel
theorem dX8_worthOf_117 : decode cX8_worthOf 117 = .ok (.iconst 0, 1) := by decide +kernel
theorem dX8_worthOf_118 : decode cX8_worthOf 118 = .ok (.iadd, 1) := by decide +kernel
theorem dX8_worthOf_119 : decode cX8_worthOf 119 = .ok (.istore 4, 2) := by decide +kernel
theorem dX8_worthOf_121 : decode cX8_worthOf 121 = .ok (.iinc 5 1, 3) := by decide +kernel
theorem dX8_worthOf_124 : decode cX8_worthOf 124 = .ok (.goto (-38), 3) := by decide +kernel
theorem dX8_worthOf_127 : decode cX8_worthOf 127 = .ok (.iload 4, 2) := by decide +kernel
theorem dX8_worthOf_129 : decode cX8_worthOf 129 = .ok (.ireturn, 1) := by decide +kernel
theorem dX8_roundOf_0 : decode cX8_roundOf 0 = .ok (.iconst 1, 1) := by decide +kernel
theorem dX8_roundOf_1 : decode cX8_roundOf 1 = .ok (.istore_n 3, 1) := by decide +kernel
theorem dX8_roundOf_2 : decode cX8_roundOf 2 = .ok (.iconst 0, 1) := by decide +kernel
theorem dX8_roundOf_3 : decode cX8_roundOf 3 = .ok (.istore 4, 2) := by decide +kernel
theorem dX8_roundOf_5 : decode cX8_roundOf 5 = .ok (.iload 4, 2) := by decide +kernel
theorem dX8_roundOf_7 : decode cX8_roundOf 7 = .ok (.iload_n 1, 1) := by decide +kernel
theorem dX8_roundOf_8 : decode cX8_roundOf 8 = .ok (.if_icmp .ge 14, 3) := by decide +kernel
theorem dX8_roundOf_11 : decode cX8_roundOf 11 = .ok (.iload_n 3, 1) := by decide +kernel
theorem dX8_roundOf_12 : decode cX8_roundOf 12 = .ok (.bipush 6, 2) := by decide +kernel
theorem dX8_roundOf_14 : decode cX8_roundOf 14 = .ok (.imul, 1) := by decide +kernel
theorem dX8_roundOf_15 : decode cX8_roundOf 15 = .ok (.istore_n 3, 1) := by decide +kernel
theorem dX8_roundOf_16 : decode cX8_roundOf 16 = .ok (.iinc 4 1, 3) := by decide +kernel
theorem dX8_roundOf_19 : decode cX8_roundOf 19 = .ok (.goto (-14), 3) := by decide +kernel
theorem dX8_roundOf_22 : decode cX8_roundOf 22 = .ok (.iconst 0, 1) := by decide +kernel
theorem dX8_roundOf_23 : decode cX8_roundOf 23 = .ok (.istore 4, 2) := by decide +kernel
theorem dX8_roundOf_25 : decode cX8_roundOf 25 = .ok (.iconst (-1), 1) := by decide +kernel
theorem dX8_roundOf_26 : decode cX8_roundOf 26 = .ok (.istore 5, 2) := by decide +kernel
theorem dX8_roundOf_28 : decode cX8_roundOf 28 = .ok (.iconst 0, 1) := by decide +kernel
theorem dX8_roundOf_29 : decode cX8_roundOf 29 = .ok (.istore 6, 2) := by decide +kernel
theorem dX8_roundOf_31 : decode cX8_roundOf 31 = .ok (.iload 6, 2) := by decide +kernel
theorem dX8_roundOf_33 : decode cX8_roundOf 33 = .ok (.iload_n 3, 1) := by decide +kernel
theorem dX8_roundOf_34 : decode cX8_roundOf 34 = .ok (.if_icmp .ge 50, 3) := by decide +kernel
theorem dX8_roundOf_37 : decode cX8_roundOf 37 = .ok (.aload_n 0, 1) := by decide +kernel
theorem dX8_roundOf_38 : decode cX8_roundOf 38 = .ok (.iload 6, 2) := by decide +kernel
theorem dX8_roundOf_40 : decode cX8_roundOf 40 = .ok (.iload_n 1, 1) := by decide +kernel
theorem dX8_roundOf_41 : decode cX8_roundOf 41 = .ok (.invokevirtual 220, 3) := by decide +kernel
theorem dX8_roundOf_44 : decode cX8_roundOf 44 = .ok (.istore 7, 2) := by decide +kernel
theorem dX8_roundOf_46 : decode cX8_roundOf 46 = .ok (.iload 7, 2) := by decide +kernel
theorem dX8_roundOf_48 : decode cX8_roundOf 48 = .ok (.iload 5, 2) := by decide +kernel
theorem dX8_roundOf_50 : decode cX8_roundOf 50 = .ok (.if_icmp .le 8, 3) := by decide +kernel
theorem dX8_roundOf_53 : decode cX8_roundOf 53 = .ok (.iload 6, 2) := by decide +kernel
theorem dX8_roundOf_55 : decode cX8_roundOf 55 = .ok (.goto 5, 3) := by decide +kernel
theorem dX8_roundOf_58 : decode cX8_roundOf 58 = .ok (.iload 4, 2) := by decide +kernel
theorem dX8_roundOf_60 : decode cX8_roundOf 60 = .ok (.istore 4, 2) := by decide +kernel
theorem dX8_roundOf_62 : decode cX8_roundOf 62 = .ok (.iload 7, 2) := by decide +kernel
theorem dX8_roundOf_64 : decode cX8_roundOf 64 = .ok (.iload 5, 2) := by decide +kernel
theorem dX8_roundOf_66 : decode cX8_roundOf 66 = .ok (.if_icmp .le 8, 3) := by decide +kernel
theorem dX8_roundOf_69 : decode cX8_roundOf 69 = .ok (.iload 7, 2) := by decide +kernel
theorem dX8_roundOf_71 : decode cX8_roundOf 71 = .ok (.goto 5, 3) := by decide +kernel
theorem dX8_roundOf_74 : decode cX8_roundOf 74 = .ok (.iload 5, 2) := by decide +kernel
theorem dX8_roundOf_76 : decode cX8_roundOf 76 = .ok (.istore 5, 2) := by decide +kernel
theorem dX8_roundOf_78 : decode cX8_roundOf 78 = .ok (.iinc 6 1, 3) := by decide +kernel
theorem dX8_roundOf_81 : decode cX8_roundOf 81 = .ok (.goto (-50), 3) := by decide +kernel
theorem dX8_roundOf_84 : decode cX8_roundOf 84 = .ok (.iload_n 2, 1) := by decide +kernel
theorem dX8_roundOf_85 : decode cX8_roundOf 85 = .ok (.iconst 2, 1) := by decide +kernel
theorem dX8_roundOf_86 : decode cX8_roundOf 86 = .ok (.if_icmp .ge 21, 3) := by decide +kernel
theorem dX8_roundOf_89 : decode cX8_roundOf 89 = .ok (.iload_n 2, 1) := by decide +kernel
theorem dX8_roundOf_90 : decode cX8_roundOf 90 = .ok (.ifCond .ne 11, 3) := by decide +kernel
theorem dX8_roundOf_93 : decode cX8_roundOf 93 = .ok (.iload 5, 2) := by decide +kernel
theorem dX8_roundOf_95 : decode cX8_roundOf 95 = .ok (.bipush 100, 2) := by decide +kernel
theorem dX8_roundOf_97 : decode cX8_roundOf 97 = .ok (.idiv, 1) := by decide +kernel
theorem dX8_roundOf_98 : decode cX8_roundOf 98 = .ok (.goto 8, 3) := by decide +kernel
theorem dX8_roundOf_101 : decode cX8_roundOf 101 = .ok (.iload 5, 2) := by decide +kernel
theorem dX8_roundOf_103 : decode cX8_roundOf 103 = .ok (.bipush 100, 2) := by decide +kernel
theorem dX8_roundOf_105 : decode cX8_roundOf 105 = .ok (.irem, 1) := by decide +kernel
theorem dX8_roundOf_106 : decode cX8_roundOf 106 = .ok (.ireturn, 1) := by decide +kernel
theorem dX8_roundOf_107 : decode cX8_roundOf 107 = .ok (.iload_n 2, 1) := by decide +kernel
theorem dX8_roundOf_108 : decode cX8_roundOf 108 = .ok (.bipush 10, 2) := by decide +kernel
theorem dX8_roundOf_110 : decode cX8_roundOf 110 = .ok (.isub, 1) := by decide +kernel
theorem dX8_roundOf_111 : decode cX8_roundOf 111 = .ok (.iload_n 1, 1) := by decide +kernel
theorem dX8_roundOf_112 : decode cX8_roundOf 112 = .ok (.if_icmp .ge 16, 3) := by decide +kernel
theorem dX8_roundOf_115 : decode cX8_roundOf 115 = .ok (.iload 4, 2) := by decide +kernel
theorem dX8_roundOf_117 : decode cX8_roundOf 117 = .ok (.iload_n 1, 1) := by decide +kernel
theorem dX8_roundOf_118 : decode cX8_roundOf 118 = .ok (.iload_n 2, 1) := by decide +kernel
theorem dX8_roundOf_119 : decode cX8_roundOf 119 = .ok (.bipush 10, 2) := by decide +kernel
theorem dX8_roundOf_121 : decode cX8_roundOf 121 = .ok (.isub, 1) := by decide +kernel
theorem dX8_roundOf_122 : decode cX8_roundOf 122 = .ok (.invokestatic 216, 3) := by decide +kernel
theorem dX8_roundOf_125 : decode cX8_roundOf 125 = .ok (.goto 4, 3) := by decide +kernel
theorem dX8_roundOf_128 : decode cX8_roundOf 128 = .ok (.iconst (-1), 1) := by decide +kernel
theorem dX8_roundOf_129 : decode cX8_roundOf 129 = .ok (.ireturn, 1) := by decide +kernel
theorem dX8_round_0 : decode cX8_round 0 = .ok (.iload_n 1, 1) := by decide +kernel
theorem dX8_round_1 : decode cX8_round 1 = .ok (.i2l, 1) := by decide +kernel
theorem dX8_round_2 : decode cX8_round 2 = .ok (.lconst 1, 1) := by decide +kernel
theorem dX8_round_3 : decode cX8_round 3 = .ok (.ldc2_w 223, 3) := by decide +kernel
theorem dX8_round_6 : decode cX8_round 6 = .ok (.invokestatic 92, 3) := by decide +kernel
theorem dX8_round_9 : decode cX8_round 9 = .ok (.ifCond .eq 27, 3) := by decide +kernel
theorem dX8_round_12 : decode cX8_round 12 = .ok (.iload_n 2, 1) := by decide +kernel
theorem dX8_round_13 : decode cX8_round 13 = .ok (.i2l, 1) := by decide +kernel
theorem dX8_round_14 : decode cX8_round 14 = .ok (.lconst 0, 1) := by decide +kernel
theorem dX8_round_15 : decode cX8_round 15 = .ok (.lconst 1, 1) := by decide +kernel
theorem dX8_round_16 : decode cX8_round 16 = .ok (.invokestatic 92, 3) := by decide +kernel
theorem dX8_round_19 : decode cX8_round 19 = .ok (.ifCond .ne 20, 3) := by decide +kernel
theorem dX8_round_22 : decode cX8_round 22 = .ok (.iload_n 2, 1) := by decide +kernel
theorem dX8_round_23 : decode cX8_round 23 = .ok (.i2l, 1) := by decide +kernel
theorem dX8_round_24 : decode cX8_round 24 = .ok (.ldc2_w 225, 3) := by decide +kernel
theorem dX8_round_27 : decode cX8_round 27 = .ok (.ldc2_w 227, 3) := by decide +kernel
theorem dX8_round_30 : decode cX8_round 30 = .ok (.invokestatic 92, 3) := by decide +kernel
theorem dX8_round_33 : decode cX8_round 33 = .ok (.ifCond .ne 6, 3) := by decide +kernel
theorem dX8_round_36 : decode cX8_round 36 = .ok (.bipush (-102), 2) := by decide +kernel
theorem dX8_round_38 : decode cX8_round 38 = .ok (.ireturn, 1) := by decide +kernel
theorem dX8_round_39 : decode cX8_round 39 = .ok (.aload_n 0, 1) := by decide +kernel
theorem dX8_round_40 : decode cX8_round 40 = .ok (.invokevirtual 229, 3) := by decide +kernel
theorem dX8_round_43 : decode cX8_round 43 = .ok (.ifCond .ne 12, 3) := by decide +kernel
theorem dX8_round_46 : decode cX8_round 46 = .ok (.aload_n 0, 1) := by decide +kernel
theorem dX8_round_47 : decode cX8_round 47 = .ok (.getfield 233, 3) := by decide +kernel
theorem dX8_round_50 : decode cX8_round 50 = .ok (.bipush 20, 2) := by decide +kernel
theorem dX8_round_52 : decode cX8_round 52 = .ok (.if_icmp .ne 6, 3) := by decide +kernel
theorem dX8_round_55 : decode cX8_round 55 = .ok (.bipush (-103), 2) := by decide +kernel
theorem dX8_round_57 : decode cX8_round 57 = .ok (.ireturn, 1) := by decide +kernel
theorem dX8_round_58 : decode cX8_round 58 = .ok (.aload_n 0, 1) := by decide +kernel
theorem dX8_round_59 : decode cX8_round 59 = .ok (.dup, 1) := by decide +kernel
theorem dX8_round_60 : decode cX8_round 60 = .ok (.getfield 233, 3) := by decide +kernel
theorem dX8_round_63 : decode cX8_round 63 = .ok (.iconst 1, 1) := by decide +kernel
theorem dX8_round_64 : decode cX8_round 64 = .ok (.iadd, 1) := by decide +kernel
theorem dX8_round_65 : decode cX8_round 65 = .ok (.putfield 233, 3) := by decide +kernel
theorem dX8_round_68 : decode cX8_round 68 = .ok (.aload_n 0, 1) := by decide +kernel
theorem dX8_round_69 : decode cX8_round 69 = .ok (.iload_n 1, 1) := by decide +kernel
theorem dX8_round_70 : decode cX8_round 70 = .ok (.iload_n 2, 1) := by decide +kernel
theorem dX8_round_71 : decode cX8_round 71 = .ok (.invokevirtual 236, 3) := by decide +kernel
theorem dX8_round_74 : decode cX8_round 74 = .ok (.ireturn, 1) := by decide +kernel
theorem dX8_roadsAt_0 : decode cX8_roadsAt 0 = .ok (.iconst 0, 1) := by decide +kernel
theorem dX8_roadsAt_1 : decode cX8_roadsAt 1 = .ok (.istore_n 2, 1) := by decide +kernel
theorem dX8_roadsAt_2 : decode cX8_roadsAt 2 = .ok (.iconst 0, 1) := by decide +kernel
theorem dX8_roadsAt_3 : decode cX8_roadsAt 3 = .ok (.istore_n 3, 1) := by decide +kernel
theorem dX8_roadsAt_4 : decode cX8_roadsAt 4 = .ok (.iload_n 3, 1) := by decide +kernel
theorem dX8_roadsAt_5 : decode cX8_roadsAt 5 = .ok (.aload_n 0, 1) := by decide +kernel
theorem dX8_roadsAt_6 : decode cX8_roadsAt 6 = .ok (.getfield 131, 3) := by decide +kernel
theorem dX8_roadsAt_9 : decode cX8_roadsAt 9 = .ok (.if_icmp .ge 37, 3) := by decide +kernel
theorem dX8_roadsAt_12 : decode cX8_roadsAt 12 = .ok (.iload_n 2, 1) := by decide +kernel
theorem dX8_roadsAt_13 : decode cX8_roadsAt 13 = .ok (.aload_n 0, 1) := by decide +kernel
theorem dX8_roadsAt_14 : decode cX8_roadsAt 14 = .ok (.getfield 13, 3) := by decide +kernel
theorem dX8_roadsAt_17 : decode cX8_roadsAt 17 = .ok (.iload_n 3, 1) := by decide +kernel
theorem dX8_roadsAt_18 : decode cX8_roadsAt 18 = .ok (.iaload, 1) := by decide +kernel
theorem dX8_roadsAt_19 : decode cX8_roadsAt 19 = .ok (.iload_n 1, 1) := by decide +kernel
theorem dX8_roadsAt_20 : decode cX8_roadsAt 20 = .ok (.if_icmp .eq 13, 3) := by decide +kernel
theorem dX8_roadsAt_23 : decode cX8_roadsAt 23 = .ok (.aload_n 0, 1) := by decide +kernel
theorem dX8_roadsAt_24 : decode cX8_roadsAt 24 = .ok (.getfield 16, 3) := by decide +kernel
theorem dX8_roadsAt_27 : decode cX8_roadsAt 27 = .ok (.iload_n 3, 1) := by decide +kernel
theorem dX8_roadsAt_28 : decode cX8_roadsAt 28 = .ok (.iaload, 1) := by decide +kernel
theorem dX8_roadsAt_29 : decode cX8_roadsAt 29 = .ok (.iload_n 1, 1) := by decide +kernel
theorem dX8_roadsAt_30 : decode cX8_roadsAt 30 = .ok (.if_icmp .ne 7, 3) := by decide +kernel
theorem dX8_roadsAt_33 : decode cX8_roadsAt 33 = .ok (.iconst 1, 1) := by decide +kernel
theorem dX8_roadsAt_34 : decode cX8_roadsAt 34 = .ok (.goto 4, 3) := by decide +kernel
theorem dX8_roadsAt_37 : decode cX8_roadsAt 37 = .ok (.iconst 0, 1) := by decide +kernel
theorem dX8_roadsAt_38 : decode cX8_roadsAt 38 = .ok (.iadd, 1) := by decide +kernel
theorem dX8_roadsAt_39 : decode cX8_roadsAt 39 = .ok (.istore_n 2, 1) := by decide +kernel
theorem dX8_roadsAt_40 : decode cX8_roadsAt 40 = .ok (.iinc 3 1, 3) := by decide +kernel
theorem dX8_roadsAt_43 : decode cX8_roadsAt 43 = .ok (.goto (-39), 3) := by decide +kernel
theorem dX8_roadsAt_46 : decode cX8_roadsAt 46 = .ok (.iload_n 2, 1) := by decide +kernel
theorem dX8_roadsAt_47 : decode cX8_roadsAt 47 = .ok (.ireturn, 1) := by decide +kernel
theorem dX8_stray_0 : decode cX8_stray 0 = .ok (.iconst 0, 1) := by decide +kernel
theorem dX8_stray_1 : decode cX8_stray 1 = .ok (.istore_n 1, 1) := by decide +kernel
theorem dX8_stray_2 : decode cX8_stray 2 = .ok (.iload_n 1, 1) := by decide +kernel
theorem dX8_stray_3 : decode cX8_stray 3 = .ok (.bipush 6, 2) := by decide +kernel
theorem dX8_stray_5 : decode cX8_stray 5 = .ok (.if_icmp .ge 16, 3) := by decide +kernel
theorem dX8_stray_8 : decode cX8_stray 8 = .ok (.aload_n 0, 1) := by decide +kernel
theorem dX8_stray_9 : decode cX8_stray 9 = .ok (.getfield 62, 3) := by decide +kernel
theorem dX8_stray_12 : decode cX8_stray 12 = .ok (.iload_n 1, 1) := by decide +kernel
theorem dX8_stray_13 : decode cX8_stray 13 = .ok (.lconst 0, 1) := by decide +kernel
theorem dX8_stray_14 : decode cX8_stray 14 = .ok (.lastore, 1) := by decide +kernel
theorem dX8_stray_15 : decode cX8_stray 15 = .ok (.iinc 1 1, 3) := by decide +kernel
theorem dX8_stray_18 : decode cX8_stray 18 = .ok (.goto (-16), 3) := by decide +kernel
theorem dX8_stray_21 : decode cX8_stray 21 = .ok (.iconst 0, 1) := by decide +kernel
theorem dX8_stray_22 : decode cX8_stray 22 = .ok (.istore_n 1, 1) := by decide +kernel
theorem dX8_stray_23 : decode cX8_stray 23 = .ok (.iload_n 1, 1) := by decide +kernel
theorem dX8_stray_24 : decode cX8_stray 24 = .ok (.aload_n 0, 1) := by decide +kernel
theorem dX8_stray_25 : decode cX8_stray 25 = .ok (.getfield 134, 3) := by decide +kernel
theorem dX8_stray_28 : decode cX8_stray 28 = .ok (.if_icmp .ge 114, 3) := by decide +kernel
theorem dX8_stray_31 : decode cX8_stray 31 = .ok (.aload_n 0, 1) := by decide +kernel
theorem dX8_stray_32 : decode cX8_stray 32 = .ok (.iload_n 1, 1) := by decide +kernel
theorem dX8_stray_33 : decode cX8_stray 33 = .ok (.invokevirtual 239, 3) := by decide +kernel
theorem dX8_stray_36 : decode cX8_stray 36 = .ok (.istore_n 2, 1) := by decide +kernel
theorem dX8_stray_37 : decode cX8_stray 37 = .ok (.aload_n 0, 1) := by decide +kernel
theorem dX8_stray_38 : decode cX8_stray 38 = .ok (.getfield 62, 3) := by decide +kernel
theorem dX8_stray_41 : decode cX8_stray 41 = .ok (.iload_n 1, 1) := by decide +kernel
theorem dX8_stray_42 : decode cX8_stray 42 = .ok (.dup2, 1) := by decide +kernel
theorem dX8_stray_43 : decode cX8_stray 43 = .ok (.laload, 1) := by decide +kernel
theorem dX8_stray_44 : decode cX8_stray 44 = .ok (.iload_n 2, 1) := by decide +kernel
theorem dX8_stray_45 : decode cX8_stray 45 = .ok (.ifCond .ne 16, 3) := by decide +kernel
theorem dX8_stray_48 : decode cX8_stray 48 = .ok (.ldc2_w 242, 3) := by decide +kernel
theorem dX8_stray_51 : decode cX8_stray 51 = .ok (.aload_n 0, 1) := by decide +kernel
theorem dX8_stray_52 : decode cX8_stray 52 = .ok (.getfield 58, 3) := by decide +kernel
theorem dX8_stray_55 : decode cX8_stray 55 = .ok (.iload_n 1, 1) := by decide +kernel
theorem dX8_stray_56 : decode cX8_stray 56 = .ok (.laload, 1) := by decide +kernel
theorem dX8_stray_57 : decode cX8_stray 57 = .ok (.lmul, 1) := by decide +kernel
theorem dX8_stray_58 : decode cX8_stray 58 = .ok (.goto 4, 3) := by decide +kernel
theorem dX8_stray_61 : decode cX8_stray 61 = .ok (.lconst 0, 1) := by decide +kernel
theorem dX8_stray_62 : decode cX8_stray 62 = .ok (.ladd, 1) := by decide +kernel
theorem dX8_stray_63 : decode cX8_stray 63 = .ok (.lastore, 1) := by decide +kernel
theorem dX8_stray_64 : decode cX8_stray 64 = .ok (.iconst 0, 1) := by decide +kernel
theorem dX8_stray_65 : decode cX8_stray 65 = .ok (.istore_n 3, 1) := by decide +kernel
theorem dX8_stray_66 : decode cX8_stray 66 = .ok (.iload_n 3, 1) := by decide +kernel
theorem dX8_stray_67 : decode cX8_stray 67 = .ok (.aload_n 0, 1) := by decide +kernel
theorem dX8_stray_68 : decode cX8_stray 68 = .ok (.getfield 131, 3) := by decide +kernel
theorem dX8_stray_71 : decode cX8_stray 71 = .ok (.if_icmp .ge 65, 3) := by decide +kernel
theorem dX8_stray_74 : decode cX8_stray 74 = .ok (.aload_n 0, 1) := by decide +kernel
theorem dX8_stray_75 : decode cX8_stray 75 = .ok (.getfield 13, 3) := by decide +kernel
theorem dX8_stray_78 : decode cX8_stray 78 = .ok (.iload_n 3, 1) := by decide +kernel
theorem dX8_stray_79 : decode cX8_stray 79 = .ok (.iaload, 1) := by decide +kernel
theorem dX8_stray_80 : decode cX8_stray 80 = .ok (.iload_n 1, 1) := by decide +kernel
theorem dX8_stray_81 : decode cX8_stray 81 = .ok (.if_icmp .eq 13, 3) := by decide +kernel
theorem dX8_stray_84 : decode cX8_stray 84 = .ok (.aload_n 0, 1) := by decide +kernel
theorem dX8_stray_85 : decode cX8_stray 85 = .ok (.getfield 16, 3) := by decide +kernel
theorem dX8_stray_88 : decode cX8_stray 88 = .ok (.iload_n 3, 1) := by decide +kernel
theorem dX8_stray_89 : decode cX8_stray 89 = .ok (.iaload, 1) := by decide +kernel
theorem dX8_stray_90 : decode cX8_stray 90 = .ok (.iload_n 1, 1) := by decide +kernel
theorem dX8_stray_91 : decode cX8_stray 91 = .ok (.if_icmp .ne 39, 3) := by decide +kernel
theorem dX8_stray_94 : decode cX8_stray 94 = .ok (.aload_n 0, 1) := by decide +kernel
theorem dX8_stray_95 : decode cX8_stray 95 = .ok (.getfield 62, 3) := by decide +kernel
theorem dX8_stray_98 : decode cX8_stray 98 = .ok (.aload_n 0, 1) := by decide +kernel
theorem dX8_stray_99 : decode cX8_stray 99 = .ok (.getfield 13, 3) := by decide +kernel
theorem dX8_stray_102 : decode cX8_stray 102 = .ok (.iload_n 3, 1) := by decide +kernel
theorem dX8_stray_103 : decode cX8_stray 103 = .ok (.iaload, 1) := by decide +kernel
theorem dX8_stray_104 : decode cX8_stray 104 = .ok (.aload_n 0, 1) := by decide +kernel
theorem dX8_stray_105 : decode cX8_stray 105 = .ok (.getfield 16, 3) := by decide +kernel
theorem dX8_stray_108 : decode cX8_stray 108 = .ok (.iload_n 3, 1) := by decide +kernel
theorem dX8_stray_109 : decode cX8_stray 109 = .ok (.iaload, 1) := by decide +kernel
theorem dX8_stray_110 : decode cX8_stray 110 = .ok (.iadd, 1) := by decide +kernel
theorem dX8_stray_111 : decode cX8_stray 111 = .ok (.iload_n 1, 1) := by decide +kernel
theorem dX8_stray_112 : decode cX8_stray 112 = .ok (.isub, 1) := by decide +kernel
theorem dX8_stray_113 : decode cX8_stray 113 = .ok (.dup2, 1) := by decide +kernel
theorem dX8_stray_114 : decode cX8_stray 114 = .ok (.laload, 1) := by decide +kernel
theorem dX8_stray_115 : decode cX8_stray 115 = .ok (.sipush 840, 3) := by decide +kernel
theorem dX8_stray_118 : decode cX8_stray 118 = .ok (.iload_n 2, 1) := by decide +kernel
theorem dX8_stray_119 : decode cX8_stray 119 = .ok (.idiv, 1) := by decide +kernel
theorem dX8_stray_120 : decode cX8_stray 120 = .ok (.i2l, 1) := by decide +kernel
theorem dX8_stray_121 : decode cX8_stray 121 = .ok (.aload_n 0, 1) := by decide +kernel
theorem dX8_stray_122 : decode cX8_stray 122 = .ok (.getfield 58, 3) := by decide +kernel
theorem dX8_stray_125 : decode cX8_stray 125 = .ok (.iload_n 1, 1) := by decide +kernel
theorem dX8_stray_126 : decode cX8_stray 126 = .ok (.laload, 1) := by decide +kernel
theorem dX8_stray_127 : decode cX8_stray 127 = .ok (.lmul, 1) := by decide +kernel
theorem dX8_stray_128 : decode cX8_stray 128 = .ok (.ladd, 1) := by decide +kernel
theorem dX8_stray_129 : decode cX8_stray 129 = .ok (.lastore, 1) := by decide +kernel
theorem dX8_stray_130 : decode cX8_stray 130 = .ok (.iinc 3 1, 3) := by decide +kernel
theorem dX8_stray_133 : decode cX8_stray 133 = .ok (.goto (-67), 3) := by decide +kernel
theorem dX8_stray_136 : decode cX8_stray 136 = .ok (.iinc 1 1, 3) := by decide +kernel
theorem dX8_stray_139 : decode cX8_stray 139 = .ok (.goto (-116), 3) := by decide +kernel
theorem dX8_stray_142 : decode cX8_stray 142 = .ok (.iconst 0, 1) := by decide +kernel
theorem dX8_stray_143 : decode cX8_stray 143 = .ok (.istore_n 1, 1) := by decide +kernel
theorem dX8_stray_144 : decode cX8_stray 144 = .ok (.iload_n 1, 1) := by decide +kernel
theorem dX8_stray_145 : decode cX8_stray 145 = .ok (.bipush 6, 2) := by decide +kernel
theorem dX8_stray_147 : decode cX8_stray 147 = .ok (.if_icmp .ge 21, 3) := by decide +kernel
theorem dX8_stray_150 : decode cX8_stray 150 = .ok (.aload_n 0, 1) := by decide +kernel
theorem dX8_stray_151 : decode cX8_stray 151 = .ok (.getfield 58, 3) := by decide +kernel
theorem dX8_stray_154 : decode cX8_stray 154 = .ok (.iload_n 1, 1) := by decide +kernel
theorem dX8_stray_155 : decode cX8_stray 155 = .ok (.aload_n 0, 1) := by decide +kernel
theorem dX8_stray_156 : decode cX8_stray 156 = .ok (.getfield 62, 3) := by decide +kernel
theorem dX8_stray_159 : decode cX8_stray 159 = .ok (.iload_n 1, 1) := by decide +kernel
theorem dX8_stray_160 : decode cX8_stray 160 = .ok (.laload, 1) := by decide +kernel
theorem dX8_stray_161 : decode cX8_stray 161 = .ok (.lastore, 1) := by decide +kernel
theorem dX8_stray_162 : decode cX8_stray 162 = .ok (.iinc 1 1, 3) := by decide +kernel
theorem dX8_stray_165 : decode cX8_stray 165 = .ok (.goto (-21), 3) := by decide +kernel
theorem dX8_stray_168 : decode cX8_stray 168 = .ok (.return_, 1) := by decide +kernel
theorem dX8_oddsOf_0 : decode cX8_oddsOf 0 = .ok (.lconst 1, 1) := by decide +kernel
theorem dX8_oddsOf_1 : decode cX8_oddsOf 1 = .ok (.lstore 4, 2) := by decide +kernel
theorem dX8_oddsOf_3 : decode cX8_oddsOf 3 = .ok (.iconst 0, 1) := by decide +kernel
theorem dX8_oddsOf_4 : decode cX8_oddsOf 4 = .ok (.istore 6, 2) := by decide +kernel
theorem dX8_oddsOf_6 : decode cX8_oddsOf 6 = .ok (.iload 6, 2) := by decide +kernel
theorem dX8_oddsOf_8 : decode cX8_oddsOf 8 = .ok (.bipush 6, 2) := by decide +kernel
theorem dX8_oddsOf_10 : decode cX8_oddsOf 10 = .ok (.if_icmp .ge 30, 3) := by decide +kernel
theorem dX8_oddsOf_13 : decode cX8_oddsOf 13 = .ok (.aload_n 0, 1) := by decide +kernel
theorem dX8_oddsOf_14 : decode cX8_oddsOf 14 = .ok (.getfield 58, 3) := by decide +kernel
theorem dX8_oddsOf_17 : decode cX8_oddsOf 17 = .ok (.iload 6, 2) := by decide +kernel
theorem dX8_oddsOf_19 : decode cX8_oddsOf 19 = .ok (.iload 6, 2) := by decide +kernel
theorem dX8_oddsOf_21 : decode cX8_oddsOf 21 = .ok (.aload_n 0, 1) := by decide +kernel
theorem dX8_oddsOf_22 : decode cX8_oddsOf 22 = .ok (.getfield 137, 3) := by decide +kernel
theorem dX8_oddsOf_25 : decode cX8_oddsOf 25 = .ok (.if_icmp .ne 7, 3) := by decide +kernel
theorem dX8_oddsOf_28 : decode cX8_oddsOf 28 = .ok (.lconst 1, 1) := by decide +kernel
theorem dX8_oddsOf_29 : decode cX8_oddsOf 29 = .ok (.goto 4, 3) := by decide +kernel
theorem dX8_oddsOf_32 : decode cX8_oddsOf 32 = .ok (.lconst 0, 1) := by decide +kernel
theorem dX8_oddsOf_33 : decode cX8_oddsOf 33 = .ok (.lastore, 1) := by decide +kernel
theorem dX8_oddsOf_34 : decode cX8_oddsOf 34 = .ok (.iinc 6 1, 3) := by decide +kernel
theorem dX8_oddsOf_37 : decode cX8_oddsOf 37 = .ok (.goto (-31), 3) := by decide +kernel
theorem dX8_oddsOf_40 : decode cX8_oddsOf 40 = .ok (.iconst 0, 1) := by decide +kernel
theorem dX8_oddsOf_41 : decode cX8_oddsOf 41 = .ok (.istore 6, 2) := by decide +kernel
theorem dX8_oddsOf_43 : decode cX8_oddsOf 43 = .ok (.iload 6, 2) := by decide +kernel
theorem dX8_oddsOf_45 : decode cX8_oddsOf 45 = .ok (.iload_n 2, 1) := by decide +kernel
theorem dX8_oddsOf_46 : decode cX8_oddsOf 46 = .ok (.if_icmp .ge 21, 3) := by decide +kernel
theorem dX8_oddsOf_49 : decode cX8_oddsOf 49 = .ok (.aload_n 0, 1) := by decide +kernel
theorem dX8_oddsOf_50 : decode cX8_oddsOf 50 = .ok (.invokevirtual 244, 3) := by decide +kernel
theorem dX8_oddsOf_53 : decode cX8_oddsOf 53 = .ok (.lload 4, 2) := by decide +kernel
theorem dX8_oddsOf_55 : decode cX8_oddsOf 55 = .ok (.ldc2_w 242, 3) := by decide +kernel
theorem dX8_oddsOf_58 : decode cX8_oddsOf 58 = .ok (.lmul, 1) := by decide +kernel
theorem dX8_oddsOf_59 : decode cX8_oddsOf 59 = .ok (.lstore 4, 2) := by decide +kernel
theorem dX8_oddsOf_61 : decode cX8_oddsOf 61 = .ok (.iinc 6 1, 3) := by decide +kernel
theorem dX8_oddsOf_64 : decode cX8_oddsOf 64 = .ok (.goto (-21), 3) := by decide +kernel
theorem dX8_oddsOf_67 : decode cX8_oddsOf 67 = .ok (.aload_n 0, 1) := by decide +kernel
theorem dX8_oddsOf_68 : decode cX8_oddsOf 68 = .ok (.getfield 58, 3) := by decide +kernel
theorem dX8_oddsOf_71 : decode cX8_oddsOf 71 = .ok (.aload_n 0, 1) := by decide +kernel
theorem dX8_oddsOf_72 : decode cX8_oddsOf 72 = .ok (.getfield 22, 3) := by decide +kernel
theorem dX8_oddsOf_75 : decode cX8_oddsOf 75 = .ok (.iload_n 1, 1) := by decide +kernel
theorem dX8_oddsOf_76 : decode cX8_oddsOf 76 = .ok (.iaload, 1) := by decide +kernel
theorem dX8_oddsOf_77 : decode cX8_oddsOf 77 = .ok (.laload, 1) := by decide +kernel
theorem dX8_oddsOf_78 : decode cX8_oddsOf 78 = .ok (.lstore 6, 2) := by decide +kernel
theorem dX8_oddsOf_80 : decode cX8_oddsOf 80 = .ok (.lload 4, 2) := by decide +kernel
theorem dX8_oddsOf_82 : decode cX8_oddsOf 82 = .ok (.lstore 8, 2) := by decide +kernel
theorem dX8_oddsOf_84 : decode cX8_oddsOf 84 = .ok (.lload 6, 2) := by decide +kernel
theorem dX8_oddsOf_86 : decode cX8_oddsOf 86 = .ok (.lstore 10, 2) := by decide +kernel
theorem dX8_oddsOf_88 : decode cX8_oddsOf 88 = .ok (.lload 10, 2) := by decide +kernel
theorem dX8_oddsOf_90 : decode cX8_oddsOf 90 = .ok (.lconst 0, 1) := by decide +kernel
theorem dX8_oddsOf_91 : decode cX8_oddsOf 91 = .ok (.lcmp, 1) := by decide +kernel
theorem dX8_oddsOf_92 : decode cX8_oddsOf 92 = .ok (.ifCond .le 21, 3) := by decide +kernel
theorem dX8_oddsOf_95 : decode cX8_oddsOf 95 = .ok (.lload 8, 2) := by decide +kernel
theorem dX8_oddsOf_97 : decode cX8_oddsOf 97 = .ok (.lload 10, 2) := by decide +kernel
theorem dX8_oddsOf_99 : decode cX8_oddsOf 99 = .ok (.lrem, 1) := by decide +kernel
theorem dX8_oddsOf_100 : decode cX8_oddsOf 100 = .ok (.lstore 12, 2) := by decide +kernel
theorem dX8_oddsOf_102 : decode cX8_oddsOf 102 = .ok (.lload 10, 2) := by decide +kernel
theorem dX8_oddsOf_104 : decode cX8_oddsOf 104 = .ok (.lstore 8, 2) := by decide +kernel
theorem dX8_oddsOf_106 : decode cX8_oddsOf 106 = .ok (.lload 12, 2) := by decide +kernel
theorem dX8_oddsOf_108 : decode cX8_oddsOf 108 = .ok (.lstore 10, 2) := by decide +kernel
theorem dX8_oddsOf_110 : decode cX8_oddsOf 110 = .ok (.goto (-22), 3) := by decide +kernel
theorem dX8_oddsOf_113 : decode cX8_oddsOf 113 = .ok (.iload_n 3, 1) := by decide +kernel
theorem dX8_oddsOf_114 : decode cX8_oddsOf 114 = .ok (.ifCond .ne 11, 3) := by decide +kernel
theorem dX8_oddsOf_117 : decode cX8_oddsOf 117 = .ok (.lload 6, 2) := by decide +kernel
theorem dX8_oddsOf_119 : decode cX8_oddsOf 119 = .ok (.lload 8, 2) := by decide +kernel
theorem dX8_oddsOf_121 : decode cX8_oddsOf 121 = .ok (.ldiv, 1) := by decide +kernel
theorem dX8_oddsOf_122 : decode cX8_oddsOf 122 = .ok (.goto 8, 3) := by decide +kernel
theorem dX8_oddsOf_125 : decode cX8_oddsOf 125 = .ok (.lload 4, 2) := by decide +kernel
theorem dX8_oddsOf_127 : decode cX8_oddsOf 127 = .ok (.lload 8, 2) := by decide +kernel
theorem dX8_oddsOf_129 : decode cX8_oddsOf 129 = .ok (.ldiv, 1) := by decide +kernel
theorem dX8_oddsOf_130 : decode cX8_oddsOf 130 = .ok (.l2i, 1) := by decide +kernel
theorem dX8_oddsOf_131 : decode cX8_oddsOf 131 = .ok (.ireturn, 1) := by decide +kernel
theorem dX8_odds_0 : decode cX8_odds 0 = .ok (.aload_n 0, 1) := by decide +kernel
theorem dX8_odds_1 : decode cX8_odds 1 = .ok (.iload_n 1, 1) := by decide +kernel
theorem dX8_odds_2 : decode cX8_odds 2 = .ok (.invokevirtual 175, 3) := by decide +kernel
theorem dX8_odds_5 : decode cX8_odds 5 = .ok (.ifCond .ne 6, 3) := by decide +kernel
theorem dX8_odds_8 : decode cX8_odds 8 = .ok (.bipush (-101), 2) := by decide +kernel
theorem dX8_odds_10 : decode cX8_odds 10 = .ok (.ireturn, 1) := by decide +kernel
theorem dX8_odds_11 : decode cX8_odds 11 = .ok (.iload_n 2, 1) := by decide +kernel
theorem dX8_odds_12 : decode cX8_odds 12 = .ok (.i2l, 1) := by decide +kernel
theorem dX8_odds_13 : decode cX8_odds 13 = .ok (.lconst 1, 1) := by decide +kernel
theorem dX8_odds_14 : decode cX8_odds 14 = .ok (.ldc2_w 182, 3) := by decide +kernel
theorem dX8_odds_17 : decode cX8_odds 17 = .ok (.invokestatic 92, 3) := by decide +kernel
theorem dX8_odds_20 : decode cX8_odds 20 = .ok (.ifCond .eq 23, 3) := by decide +kernel
theorem dX8_odds_23 : decode cX8_odds 23 = .ok (.iload_n 3, 1) := by decide +kernel
theorem dX8_odds_24 : decode cX8_odds 24 = .ok (.i2l, 1) := by decide +kernel
theorem dX8_odds_25 : decode cX8_odds 25 = .ok (.lconst 0, 1) := by decide +kernel
theorem dX8_odds_26 : decode cX8_odds 26 = .ok (.lconst 1, 1) := by decide +kernel
theorem dX8_odds_27 : decode cX8_odds 27 = .ok (.invokestatic 92, 3) := by decide +kernel
theorem dX8_odds_30 : decode cX8_odds 30 = .ok (.ifCond .eq 13, 3) := by decide +kernel
theorem dX8_odds_33 : decode cX8_odds 33 = .ok (.aload_n 0, 1) := by decide +kernel
theorem dX8_odds_34 : decode cX8_odds 34 = .ok (.iload_n 1, 1) := by decide +kernel
theorem dX8_odds_35 : decode cX8_odds 35 = .ok (.iload_n 2, 1) := by decide +kernel
theorem dX8_odds_36 : decode cX8_odds 36 = .ok (.iload_n 3, 1) := by decide +kernel
theorem dX8_odds_37 : decode cX8_odds 37 = .ok (.invokevirtual 247, 3) := by decide +kernel
theorem dX8_odds_40 : decode cX8_odds 40 = .ok (.goto 5, 3) := by decide +kernel
theorem dX8_odds_43 : decode cX8_odds 43 = .ok (.bipush (-102), 2) := by decide +kernel
theorem dX8_odds_45 : decode cX8_odds 45 = .ok (.ireturn, 1) := by decide +kernel
theorem dX8_see_0 : decode cX8_see 0 = .ok (.aload_n 0, 1) := by decide +kernel
theorem dX8_see_1 : decode cX8_see 1 = .ok (.iload_n 1, 1) := by decide +kernel
theorem dX8_see_2 : decode cX8_see 2 = .ok (.invokevirtual 175, 3) := by decide +kernel
theorem dX8_see_5 : decode cX8_see 5 = .ok (.ifCond .ne 6, 3) := by decide +kernel
theorem dX8_see_8 : decode cX8_see 8 = .ok (.bipush (-101), 2) := by decide +kernel
theorem dX8_see_10 : decode cX8_see 10 = .ok (.ireturn, 1) := by decide +kernel
theorem dX8_see_11 : decode cX8_see 11 = .ok (.aload_n 0, 1) := by decide +kernel
theorem dX8_see_12 : decode cX8_see 12 = .ok (.getfield 149, 3) := by decide +kernel
theorem dX8_see_15 : decode cX8_see 15 = .ok (.bipush 6, 2) := by decide +kernel
theorem dX8_see_17 : decode cX8_see 17 = .ok (.if_icmp .ne 6, 3) := by decide +kernel
theorem dX8_see_20 : decode cX8_see 20 = .ok (.bipush (-104), 2) := by decide +kernel
theorem dX8_see_22 : decode cX8_see 22 = .ok (.ireturn, 1) := by decide +kernel
theorem dX8_see_23 : decode cX8_see 23 = .ok (.aload_n 0, 1) := by decide +kernel
theorem dX8_see_24 : decode cX8_see 24 = .ok (.getfield 65, 3) := by decide +kernel
theorem dX8_see_27 : decode cX8_see 27 = .ok (.iconst 2, 1) := by decide +kernel
theorem dX8_see_28 : decode cX8_see 28 = .ok (.aload_n 0, 1) := by decide +kernel
theorem dX8_see_29 : decode cX8_see 29 = .ok (.getfield 149, 3) := by decide +kernel
theorem dX8_see_32 : decode cX8_see 32 = .ok (.imul, 1) := by decide +kernel
theorem dX8_see_33 : decode cX8_see 33 = .ok (.iload_n 1, 1) := by decide +kernel
theorem dX8_see_34 : decode cX8_see 34 = .ok (.iastore, 1) := by decide +kernel
theorem dX8_see_35 : decode cX8_see 35 = .ok (.aload_n 0, 1) := by decide +kernel
theorem dX8_see_36 : decode cX8_see 36 = .ok (.getfield 65, 3) := by decide +kernel
theorem dX8_see_39 : decode cX8_see 39 = .ok (.iconst 2, 1) := by decide +kernel
theorem dX8_see_40 : decode cX8_see 40 = .ok (.aload_n 0, 1) := by decide +kernel
theorem dX8_see_41 : decode cX8_see 41 = .ok (.getfield 149, 3) := by decide +kernel
theorem dX8_see_44 : decode cX8_see 44 = .ok (.imul, 1) := by decide +kernel
theorem dX8_see_45 : decode cX8_see 45 = .ok (.iconst 1, 1) := by decide +kernel
theorem dX8_see_46 : decode cX8_see 46 = .ok (.iadd, 1) := by decide +kernel
theorem dX8_see_47 : decode cX8_see 47 = .ok (.iload_n 2, 1) := by decide +kernel
theorem dX8_see_48 : decode cX8_see 48 = .ok (.ifCond .eq 7, 3) := by decide +kernel
theorem dX8_see_51 : decode cX8_see 51 = .ok (.iconst 1, 1) := by decide +kernel
theorem dX8_see_52 : decode cX8_see 52 = .ok (.goto 4, 3) := by decide +kernel
theorem dX8_see_55 : decode cX8_see 55 = .ok (.iconst 0, 1) := by decide +kernel
theorem dX8_see_56 : decode cX8_see 56 = .ok (.iastore, 1) := by decide +kernel
theorem dX8_see_57 : decode cX8_see 57 = .ok (.aload_n 0, 1) := by decide +kernel
theorem dX8_see_58 : decode cX8_see 58 = .ok (.dup, 1) := by decide +kernel
theorem dX8_see_59 : decode cX8_see 59 = .ok (.getfield 149, 3) := by decide +kernel
theorem dX8_see_62 : decode cX8_see 62 = .ok (.iconst 1, 1) := by decide +kernel
theorem dX8_see_63 : decode cX8_see 63 = .ok (.iadd, 1) := by decide +kernel
theorem dX8_see_64 : decode cX8_see 64 = .ok (.putfield 149, 3) := by decide +kernel
theorem dX8_see_67 : decode cX8_see 67 = .ok (.aload_n 0, 1) := by decide +kernel
theorem dX8_see_68 : decode cX8_see 68 = .ok (.getfield 149, 3) := by decide +kernel
theorem dX8_see_71 : decode cX8_see 71 = .ok (.ireturn, 1) := by decide +kernel
theorem dX8_forget_0 : decode cX8_forget 0 = .ok (.aload_n 0, 1) := by decide +kernel
theorem dX8_forget_1 : decode cX8_forget 1 = .ok (.getfield 149, 3) := by decide +kernel
theorem dX8_forget_4 : decode cX8_forget 4 = .ok (.istore_n 1, 1) := by decide +kernel
theorem dX8_forget_5 : decode cX8_forget 5 = .ok (.aload_n 0, 1) := by decide +kernel
theorem dX8_forget_6 : decode cX8_forget 6 = .ok (.iconst 0, 1) := by decide +kernel
theorem dX8_forget_7 : decode cX8_forget 7 = .ok (.putfield 149, 3) := by decide +kernel
theorem dX8_forget_10 : decode cX8_forget 10 = .ok (.iload_n 1, 1) := by decide +kernel
theorem dX8_forget_11 : decode cX8_forget 11 = .ok (.ireturn, 1) := by decide +kernel
theorem dX8_hearsAt_0 : decode cX8_hearsAt 0 = .ok (.aload_n 0, 1) := by decide +kernel
theorem dX8_hearsAt_1 : decode cX8_hearsAt 1 = .ok (.getfield 37, 3) := by decide +kernel
theorem dX8_hearsAt_4 : decode cX8_hearsAt 4 = .ok (.bipush 6, 2) := by decide +kernel
theorem dX8_hearsAt_6 : decode cX8_hearsAt 6 = .ok (.aload_n 0, 1) := by decide +kernel
theorem dX8_hearsAt_7 : decode cX8_hearsAt 7 = .ok (.getfield 22, 3) := by decide +kernel
theorem dX8_hearsAt_10 : decode cX8_hearsAt 10 = .ok (.iload_n 1, 1) := by decide +kernel
theorem dX8_hearsAt_11 : decode cX8_hearsAt 11 = .ok (.iaload, 1) := by decide +kernel
theorem dX8_hearsAt_12 : decode cX8_hearsAt 12 = .ok (.imul, 1) := by decide +kernel
theorem dX8_hearsAt_13 : decode cX8_hearsAt 13 = .ok (.iload_n 2, 1) := by decide +kernel
theorem dX8_hearsAt_14 : decode cX8_hearsAt 14 = .ok (.iadd, 1) := by decide +kernel
theorem dX8_hearsAt_15 : decode cX8_hearsAt 15 = .ok (.iaload, 1) := by decide +kernel
theorem dX8_hearsAt_16 : decode cX8_hearsAt 16 = .ok (.aload_n 0, 1) := by decide +kernel
theorem dX8_hearsAt_17 : decode cX8_hearsAt 17 = .ok (.getfield 28, 3) := by decide +kernel
theorem dX8_hearsAt_20 : decode cX8_hearsAt 20 = .ok (.iload_n 1, 1) := by decide +kernel
theorem dX8_hearsAt_21 : decode cX8_hearsAt 21 = .ok (.iaload, 1) := by decide +kernel
theorem dX8_hearsAt_22 : decode cX8_hearsAt 22 = .ok (.if_icmp .gt 7, 3) := by decide +kernel
theorem dX8_hearsAt_25 : decode cX8_hearsAt 25 = .ok (.iconst 1, 1) := by decide +kernel
theorem dX8_hearsAt_26 : decode cX8_hearsAt 26 = .ok (.goto 4, 3) := by decide +kernel
theorem dX8_hearsAt_29 : decode cX8_hearsAt 29 = .ok (.iconst 0, 1) := by decide +kernel
theorem dX8_hearsAt_30 : decode cX8_hearsAt 30 = .ok (.ireturn, 1) := by decide +kernel
theorem dX8_placesOf_0 : decode cX8_placesOf 0 = .ok (.iconst 0, 1) := by decide +kernel
theorem dX8_placesOf_1 : decode cX8_placesOf 1 = .ok (.istore_n 1, 1) := by decide +kernel
theorem dX8_placesOf_2 : decode cX8_placesOf 2 = .ok (.iconst 0, 1) := by decide +kernel
theorem dX8_placesOf_3 : decode cX8_placesOf 3 = .ok (.istore_n 2, 1) := by decide +kernel
theorem dX8_placesOf_4 : decode cX8_placesOf 4 = .ok (.iload_n 2, 1) := by decide +kernel
theorem dX8_placesOf_5 : decode cX8_placesOf 5 = .ok (.aload_n 0, 1) := by decide +kernel
theorem dX8_placesOf_6 : decode cX8_placesOf 6 = .ok (.getfield 134, 3) := by decide +kernel
theorem dX8_placesOf_9 : decode cX8_placesOf 9 = .ok (.if_icmp .ge 79, 3) := by decide +kernel
theorem dX8_placesOf_12 : decode cX8_placesOf 12 = .ok (.iconst 1, 1) := by decide +kernel
theorem dX8_placesOf_13 : decode cX8_placesOf 13 = .ok (.istore_n 3, 1) := by decide +kernel
theorem dX8_placesOf_14 : decode cX8_placesOf 14 = .ok (.iconst 0, 1) := by decide +kernel
theorem dX8_placesOf_15 : decode cX8_placesOf 15 = .ok (.istore 4, 2) := by decide +kernel
theorem dX8_placesOf_17 : decode cX8_placesOf 17 = .ok (.iload 4, 2) := by decide +kernel
theorem dX8_placesOf_19 : decode cX8_placesOf 19 = .ok (.iconst 2, 1) := by decide +kernel
theorem dX8_placesOf_20 : decode cX8_placesOf 20 = .ok (.aload_n 0, 1) := by decide +kernel
theorem dX8_placesOf_21 : decode cX8_placesOf 21 = .ok (.getfield 149, 3) := by decide +kernel
theorem dX8_placesOf_24 : decode cX8_placesOf 24 = .ok (.imul, 1) := by decide +kernel
theorem dX8_placesOf_25 : decode cX8_placesOf 25 = .ok (.if_icmp .ge 43, 3) := by decide +kernel
theorem dX8_placesOf_28 : decode cX8_placesOf 28 = .ok (.iload_n 3, 1) := by decide +kernel
theorem dX8_placesOf_29 : decode cX8_placesOf 29 = .ok (.ifCond .eq 31, 3) := by decide +kernel
theorem dX8_placesOf_32 : decode cX8_placesOf 32 = .ok (.aload_n 0, 1) := by decide +kernel
theorem dX8_placesOf_33 : decode cX8_placesOf 33 = .ok (.aload_n 0, 1) := by decide +kernel
theorem dX8_placesOf_34 : decode cX8_placesOf 34 = .ok (.getfield 65, 3) := by decide +kernel
theorem dX8_placesOf_37 : decode cX8_placesOf 37 = .ok (.iload 4, 2) := by decide +kernel
theorem dX8_placesOf_39 : decode cX8_placesOf 39 = .ok (.iaload, 1) := by decide +kernel
theorem dX8_placesOf_40 : decode cX8_placesOf 40 = .ok (.iload_n 2, 1) := by decide +kernel
theorem dX8_placesOf_41 : decode cX8_placesOf 41 = .ok (.invokevirtual 250, 3) := by decide +kernel
theorem dX8_placesOf_44 : decode cX8_placesOf 44 = .ok (.aload_n 0, 1) := by decide +kernel
theorem dX8_placesOf_45 : decode cX8_placesOf 45 = .ok (.getfield 65, 3) := by decide +kernel
theorem dX8_placesOf_48 : decode cX8_placesOf 48 = .ok (.iload 4, 2) := by decide +kernel
theorem dX8_placesOf_50 : decode cX8_placesOf 50 = .ok (.iconst 1, 1) := by decide +kernel
theorem dX8_placesOf_51 : decode cX8_placesOf 51 = .ok (.iadd, 1) := by decide +kernel
theorem dX8_placesOf_52 : decode cX8_placesOf 52 = .ok (.iaload, 1) := by decide +kernel
theorem dX8_placesOf_53 : decode cX8_placesOf 53 = .ok (.if_icmp .ne 7, 3) := by decide +kernel
theorem dX8_placesOf_56 : decode cX8_placesOf 56 = .ok (.iconst 1, 1) := by decide +kernel
theorem dX8_placesOf_57 : decode cX8_placesOf 57 = .ok (.goto 4, 3) := by decide +kernel
theorem dX8_placesOf_60 : decode cX8_placesOf 60 = .ok (.iconst 0, 1) := by decide +kernel
theorem dX8_placesOf_61 : decode cX8_placesOf 61 = .ok (.istore_n 3, 1) := by decide +kernel
theorem dX8_placesOf_62 : decode cX8_placesOf 62 = .ok (.iinc 4 2, 3) := by decide +kernel
theorem dX8_placesOf_65 : decode cX8_placesOf 65 = .ok (.goto (-48), 3) := by decide +kernel
theorem dX8_placesOf_68 : decode cX8_placesOf 68 = .ok (.iload_n 1, 1) := by decide +kernel
theorem dX8_placesOf_69 : decode cX8_placesOf 69 = .ok (.iload_n 3, 1) := by decide +kernel
theorem dX8_placesOf_70 : decode cX8_placesOf 70 = .ok (.ifCond .eq 9, 3) := by decide +kernel
theorem dX8_placesOf_73 : decode cX8_placesOf 73 = .ok (.iconst 1, 1) := by decide +kernel
theorem dX8_placesOf_74 : decode cX8_placesOf 74 = .ok (.iload_n 2, 1) := by decide +kernel
theorem dX8_placesOf_75 : decode cX8_placesOf 75 = .ok (.ishl, 1) := by decide +kernel
theorem dX8_placesOf_76 : decode cX8_placesOf 76 = .ok (.goto 4, 3) := by decide +kernel
theorem dX8_placesOf_79 : decode cX8_placesOf 79 = .ok (.iconst 0, 1) := by decide +kernel
theorem dX8_placesOf_80 : decode cX8_placesOf 80 = .ok (.ior, 1) := by decide +kernel
theorem dX8_placesOf_81 : decode cX8_placesOf 81 = .ok (.istore_n 1, 1) := by decide +kernel
theorem dX8_placesOf_82 : decode cX8_placesOf 82 = .ok (.iinc 2 1, 3) := by decide +kernel
theorem dX8_placesOf_85 : decode cX8_placesOf 85 = .ok (.goto (-81), 3) := by decide +kernel
theorem dX8_placesOf_88 : decode cX8_placesOf 88 = .ok (.iload_n 1, 1) := by decide +kernel
theorem dX8_placesOf_89 : decode cX8_placesOf 89 = .ok (.ireturn, 1) := by decide +kernel
theorem dX8_places_0 : decode cX8_places 0 = .ok (.aload_n 0, 1) := by decide +kernel
theorem dX8_places_1 : decode cX8_places 1 = .ok (.invokevirtual 229, 3) := by decide +kernel
theorem dX8_places_4 : decode cX8_places 4 = .ok (.ifCond .eq 8, 3) := by decide +kernel
theorem dX8_places_7 : decode cX8_places 7 = .ok (.bipush (-103), 2) := by decide +kernel
theorem dX8_places_9 : decode cX8_places 9 = .ok (.goto 7, 3) := by decide +kernel
theorem dX8_places_12 : decode cX8_places 12 = .ok (.aload_n 0, 1) := by decide +kernel
theorem dX8_places_13 : decode cX8_places 13 = .ok (.invokevirtual 253, 3) := by decide +kernel
theorem dX8_places_16 : decode cX8_places 16 = .ok (.ireturn, 1) := by decide +kernel
theorem dX8_askOf_0 : decode cX8_askOf 0 = .ok (.aload_n 0, 1) := by decide +kernel
theorem dX8_askOf_1 : decode cX8_askOf 1 = .ok (.invokevirtual 253, 3) := by decide +kernel
theorem dX8_askOf_4 : decode cX8_askOf 4 = .ok (.istore_n 1, 1) := by decide +kernel
theorem dX8_askOf_5 : decode cX8_askOf 5 = .ok (.iconst (-1), 1) := by decide +kernel
theorem dX8_askOf_6 : decode cX8_askOf 6 = .ok (.istore_n 2, 1) := by decide +kernel
theorem dX8_askOf_7 : decode cX8_askOf 7 = .ok (.bipush 7, 2) := by decide +kernel
theorem dX8_askOf_9 : decode cX8_askOf 9 = .ok (.istore_n 3, 1) := by decide +kernel
theorem dX8_askOf_10 : decode cX8_askOf 10 = .ok (.iconst 0, 1) := by decide +kernel
theorem dX8_askOf_11 : decode cX8_askOf 11 = .ok (.istore 4, 2) := by decide +kernel
theorem dX8_askOf_13 : decode cX8_askOf 13 = .ok (.iload 4, 2) := by decide +kernel
theorem dX8_askOf_15 : decode cX8_askOf 15 = .ok (.aload_n 0, 1) := by decide +kernel
theorem dX8_askOf_16 : decode cX8_askOf 16 = .ok (.getfield 140, 3) := by decide +kernel
theorem dX8_askOf_19 : decode cX8_askOf 19 = .ok (.if_icmp .ge 121, 3) := by decide +kernel
theorem dX8_askOf_22 : decode cX8_askOf 22 = .ok (.iload_n 1, 1) := by decide +kernel
theorem dX8_askOf_23 : decode cX8_askOf 23 = .ok (.ifCond .eq 117, 3) := by decide +kernel
theorem dX8_askOf_26 : decode cX8_askOf 26 = .ok (.iconst 0, 1) := by decide +kernel
theorem dX8_askOf_27 : decode cX8_askOf 27 = .ok (.istore 5, 2) := by decide +kernel
theorem dX8_askOf_29 : decode cX8_askOf 29 = .ok (.iconst 0, 1) := by decide +kernel
theorem dX8_askOf_30 : decode cX8_askOf 30 = .ok (.istore 6, 2) := by decide +kernel
theorem dX8_askOf_32 : decode cX8_askOf 32 = .ok (.iconst 0, 1) := by decide +kernel
theorem dX8_askOf_33 : decode cX8_askOf 33 = .ok (.istore 7, 2) := by decide +kernel
theorem dX8_askOf_35 : decode cX8_askOf 35 = .ok (.iload 7, 2) := by decide +kernel
theorem dX8_askOf_37 : decode cX8_askOf 37 = .ok (.aload_n 0, 1) := by decide +kernel
theorem dX8_askOf_38 : decode cX8_askOf 38 = .ok (.getfield 134, 3) := by decide +kernel
theorem dX8_askOf_41 : decode cX8_askOf 41 = .ok (.if_icmp .ge 51, 3) := by decide +kernel
theorem dX8_askOf_44 : decode cX8_askOf 44 = .ok (.iload_n 1, 1) := by decide +kernel
theorem dX8_askOf_45 : decode cX8_askOf 45 = .ok (.iload 7, 2) := by decide +kernel
theorem dX8_askOf_47 : decode cX8_askOf 47 = .ok (.ishr, 1) := by decide +kernel
theorem dX8_askOf_48 : decode cX8_askOf 48 = .ok (.iconst 1, 1) := by decide +kernel
theorem dX8_askOf_49 : decode cX8_askOf 49 = .ok (.iand, 1) := by decide +kernel
theorem dX8_askOf_50 : decode cX8_askOf 50 = .ok (.istore 8, 2) := by decide +kernel
theorem dX8_askOf_52 : decode cX8_askOf 52 = .ok (.iload 5, 2) := by decide +kernel
theorem dX8_askOf_54 : decode cX8_askOf 54 = .ok (.iload 8, 2) := by decide +kernel
theorem dX8_askOf_56 : decode cX8_askOf 56 = .ok (.aload_n 0, 1) := by decide +kernel
theorem dX8_askOf_57 : decode cX8_askOf 57 = .ok (.iload 4, 2) := by decide +kernel
theorem dX8_askOf_59 : decode cX8_askOf 59 = .ok (.iload 7, 2) := by decide +kernel
theorem dX8_askOf_61 : decode cX8_askOf 61 = .ok (.invokevirtual 250, 3) := by decide +kernel
theorem dX8_askOf_64 : decode cX8_askOf 64 = .ok (.imul, 1) := by decide +kernel
theorem dX8_askOf_65 : decode cX8_askOf 65 = .ok (.iadd, 1) := by decide +kernel
theorem dX8_askOf_66 : decode cX8_askOf 66 = .ok (.istore 5, 2) := by decide +kernel
theorem dX8_askOf_68 : decode cX8_askOf 68 = .ok (.iload 6, 2) := by decide +kernel
theorem dX8_askOf_70 : decode cX8_askOf 70 = .ok (.iload 8, 2) := by decide +kernel
theorem dX8_askOf_72 : decode cX8_askOf 72 = .ok (.iconst 1, 1) := by decide +kernel
theorem dX8_askOf_73 : decode cX8_askOf 73 = .ok (.aload_n 0, 1) := by decide +kernel
theorem dX8_askOf_74 : decode cX8_askOf 74 = .ok (.iload 4, 2) := by decide +kernel
theorem dX8_askOf_76 : decode cX8_askOf 76 = .ok (.iload 7, 2) := by decide +kernel
theorem dX8_askOf_78 : decode cX8_askOf 78 = .ok (.invokevirtual 250, 3) := by decide +kernel
theorem dX8_askOf_81 : decode cX8_askOf 81 = .ok (.isub, 1) := by decide +kernel
theorem dX8_askOf_82 : decode cX8_askOf 82 = .ok (.imul, 1) := by decide +kernel
theorem dX8_askOf_83 : decode cX8_askOf 83 = .ok (.iadd, 1) := by decide +kernel
theorem dX8_askOf_84 : decode cX8_askOf 84 = .ok (.istore 6, 2) := by decide +kernel
theorem dX8_askOf_86 : decode cX8_askOf 86 = .ok (.iinc 7 1, 3) := by decide +kernel
theorem dX8_askOf_89 : decode cX8_askOf 89 = .ok (.goto (-54), 3) := by decide +kernel
theorem dX8_askOf_92 : decode cX8_askOf 92 = .ok (.iload 5, 2) := by decide +kernel
theorem dX8_askOf_94 : decode cX8_askOf 94 = .ok (.iload 6, 2) := by decide +kernel
theorem dX8_askOf_96 : decode cX8_askOf 96 = .ok (.if_icmp .le 8, 3) := by decide +kernel
theorem dX8_askOf_99 : decode cX8_askOf 99 = .ok (.iload 5, 2) := by decide +kernel
theorem dX8_askOf_101 : decode cX8_askOf 101 = .ok (.goto 5, 3) := by decide +kernel
theorem dX8_askOf_104 : decode cX8_askOf 104 = .ok (.iload 6, 2) := by decide +kernel
theorem dX8_askOf_106 : decode cX8_askOf 106 = .ok (.istore 7, 2) := by decide +kernel
theorem dX8_askOf_108 : decode cX8_askOf 108 = .ok (.iload 7, 2) := by decide +kernel
theorem dX8_askOf_110 : decode cX8_askOf 110 = .ok (.iload_n 3, 1) := by decide +kernel
theorem dX8_askOf_111 : decode cX8_askOf 111 = .ok (.if_icmp .ge 8, 3) := by decide +kernel
theorem dX8_askOf_114 : decode cX8_askOf 114 = .ok (.iload 4, 2) := by decide +kernel
theorem dX8_askOf_116 : decode cX8_askOf 116 = .ok (.goto 4, 3) := by decide +kernel
theorem dX8_askOf_119 : decode cX8_askOf 119 = .ok (.iload_n 2, 1) := by decide +kernel
theorem dX8_askOf_120 : decode cX8_askOf 120 = .ok (.istore_n 2, 1) := by decide +kernel
theorem dX8_askOf_121 : decode cX8_askOf 121 = .ok (.iload 7, 2) := by decide +kernel
theorem dX8_askOf_123 : decode cX8_askOf 123 = .ok (.iload_n 3, 1) := by decide +kernel
theorem dX8_askOf_124 : decode cX8_askOf 124 = .ok (.if_icmp .ge 8, 3) := by decide +kernel
theorem dX8_askOf_127 : decode cX8_askOf 127 = .ok (.iload 7, 2) := by decide +kernel
theorem dX8_askOf_129 : decode cX8_askOf 129 = .ok (.goto 4, 3) := by decide +kernel
theorem dX8_askOf_132 : decode cX8_askOf 132 = .ok (.iload_n 3, 1) := by decide +kernel
theorem dX8_askOf_133 : decode cX8_askOf 133 = .ok (.istore_n 3, 1) := by decide +kernel
theorem dX8_askOf_134 : decode cX8_askOf 134 = .ok (.iinc 4 1, 3) := by decide +kernel
theorem dX8_askOf_137 : decode cX8_askOf 137 = .ok (.goto (-124), 3) := by decide +kernel
theorem dX8_askOf_140 : decode cX8_askOf 140 = .ok (.iload_n 2, 1) := by decide +kernel
theorem dX8_askOf_141 : decode cX8_askOf 141 = .ok (.ireturn, 1) := by decide +kernel
theorem dX8_ask_0 : decode cX8_ask 0 = .ok (.aload_n 0, 1) := by decide +kernel
theorem dX8_ask_1 : decode cX8_ask 1 = .ok (.invokevirtual 229, 3) := by decide +kernel
theorem dX8_ask_4 : decode cX8_ask 4 = .ok (.ifCond .eq 8, 3) := by decide +kernel
theorem dX8_ask_7 : decode cX8_ask 7 = .ok (.bipush (-103), 2) := by decide +kernel
theorem dX8_ask_9 : decode cX8_ask 9 = .ok (.goto 7, 3) := by decide +kernel
theorem dX8_ask_12 : decode cX8_ask 12 = .ok (.aload_n 0, 1) := by decide +kernel
theorem dX8_ask_13 : decode cX8_ask 13 = .ok (.invokevirtual 256, 3) := by decide +kernel
theorem dX8_ask_16 : decode cX8_ask 16 = .ok (.ireturn, 1) := by decide +kernel
theorem dX8_draw_0 : decode cX8_draw 0 = .ok (.aload_n 0, 1) := by decide +kernel
theorem dX8_draw_1 : decode cX8_draw 1 = .ok (.ldc2_w 259, 3) := by decide +kernel
theorem dX8_draw_4 : decode cX8_draw 4 = .ok (.aload_n 0, 1) := by decide +kernel
theorem dX8_draw_5 : decode cX8_draw 5 = .ok (.getfield 261, 3) := by decide +kernel
theorem dX8_draw_8 : decode cX8_draw 8 = .ok (.i2l, 1) := by decide +kernel
theorem dX8_draw_9 : decode cX8_draw 9 = .ok (.lmul, 1) := by decide +kernel
theorem dX8_draw_10 : decode cX8_draw 10 = .ok (.ldc2_w 264, 3) := by decide +kernel
theorem dX8_draw_13 : decode cX8_draw 13 = .ok (.ladd, 1) := by decide +kernel
theorem dX8_draw_14 : decode cX8_draw 14 = .ok (.ldc2_w 266, 3) := by decide +kernel
theorem dX8_draw_17 : decode cX8_draw 17 = .ok (.land, 1) := by decide +kernel
theorem dX8_draw_18 : decode cX8_draw 18 = .ok (.l2i, 1) := by decide +kernel
theorem dX8_draw_19 : decode cX8_draw 19 = .ok (.putfield 261, 3) := by decide +kernel
theorem dX8_draw_22 : decode cX8_draw 22 = .ok (.aload_n 0, 1) := by decide +kernel
theorem dX8_draw_23 : decode cX8_draw 23 = .ok (.getfield 261, 3) := by decide +kernel
theorem dX8_draw_26 : decode cX8_draw 26 = .ok (.ldc_w 268, 3) := by decide +kernel
theorem dX8_draw_29 : decode cX8_draw 29 = .ok (.idiv, 1) := by decide +kernel
theorem dX8_draw_30 : decode cX8_draw 30 = .ok (.iload_n 1, 1) := by decide +kernel
theorem dX8_draw_31 : decode cX8_draw 31 = .ok (.irem, 1) := by decide +kernel
theorem dX8_draw_32 : decode cX8_draw 32 = .ok (.ireturn, 1) := by decide +kernel
theorem dX8_evenings_0 : decode cX8_evenings 0 = .ok (.iload_n 1, 1) := by decide +kernel
theorem dX8_evenings_1 : decode cX8_evenings 1 = .ok (.i2l, 1) := by decide +kernel
theorem dX8_evenings_2 : decode cX8_evenings 2 = .ok (.lconst 1, 1) := by decide +kernel
theorem dX8_evenings_3 : decode cX8_evenings 3 = .ok (.ldc2_w 269, 3) := by decide +kernel
theorem dX8_evenings_6 : decode cX8_evenings 6 = .ok (.invokestatic 92, 3) := by decide +kernel
theorem dX8_evenings_9 : decode cX8_evenings 9 = .ok (.ifCond .eq 19, 3) := by decide +kernel
theorem dX8_evenings_12 : decode cX8_evenings 12 = .ok (.iload_n 2, 1) := by decide +kernel
theorem dX8_evenings_13 : decode cX8_evenings 13 = .ok (.ifCond .lt 15, 3) := by decide +kernel
theorem dX8_evenings_16 : decode cX8_evenings 16 = .ok (.iload_n 3, 1) := by decide +kernel
theorem dX8_evenings_17 : decode cX8_evenings 17 = .ok (.i2l, 1) := by decide +kernel
theorem dX8_evenings_18 : decode cX8_evenings 18 = .ok (.lconst 0, 1) := by decide +kernel
theorem dX8_evenings_19 : decode cX8_evenings 19 = .ok (.ldc2_w 271, 3) := by decide +kernel
theorem dX8_evenings_22 : decode cX8_evenings 22 = .ok (.invokestatic 92, 3) := by decide +kernel
theorem dX8_evenings_25 : decode cX8_evenings 25 = .ok (.ifCond .ne 6, 3) := by decide +kernel
theorem dX8_evenings_28 : decode cX8_evenings 28 = .ok (.bipush (-102), 2) := by decide +kernel
theorem dX8_evenings_30 : decode cX8_evenings 30 = .ok (.ireturn, 1) := by decide +kernel
theorem dX8_evenings_31 : decode cX8_evenings 31 = .ok (.aload_n 0, 1) := by decide +kernel
theorem dX8_evenings_32 : decode cX8_evenings 32 = .ok (.invokevirtual 229, 3) := by decide +kernel
theorem dX8_evenings_35 : decode cX8_evenings 35 = .ok (.ifCond .eq 6, 3) := by decide +kernel
theorem dX8_evenings_38 : decode cX8_evenings 38 = .ok (.bipush (-103), 2) := by decide +kernel
theorem dX8_evenings_40 : decode cX8_evenings 40 = .ok (.ireturn, 1) := by decide +kernel
theorem dX8_evenings_41 : decode cX8_evenings 41 = .ok (.aload_n 0, 1) := by decide +kernel
theorem dX8_evenings_42 : decode cX8_evenings 42 = .ok (.iload_n 2, 1) := by decide +kernel
theorem dX8_evenings_43 : decode cX8_evenings 43 = .ok (.putfield 261, 3) := by decide +kernel
theorem dX8_evenings_46 : decode cX8_evenings 46 = .ok (.aload_n 0, 1) := by decide +kernel
theorem dX8_evenings_47 : decode cX8_evenings 47 = .ok (.invokevirtual 208, 3) := by decide +kernel
theorem dX8_evenings_50 : decode cX8_evenings 50 = .ok (.aload_n 0, 1) := by decide +kernel
theorem dX8_evenings_51 : decode cX8_evenings 51 = .ok (.getfield 137, 3) := by decide +kernel
theorem dX8_evenings_54 : decode cX8_evenings 54 = .ok (.istore 4, 2) := by decide +kernel
theorem dX8_evenings_56 : decode cX8_evenings 56 = .ok (.iconst 0, 1) := by decide +kernel
theorem dX8_evenings_57 : decode cX8_evenings 57 = .ok (.istore 5, 2) := by decide +kernel
theorem dX8_evenings_59 : decode cX8_evenings 59 = .ok (.iconst 1, 1) := by decide +kernel
theorem dX8_evenings_60 : decode cX8_evenings 60 = .ok (.istore 6, 2) := by decide +kernel
theorem dX8_evenings_62 : decode cX8_evenings 62 = .ok (.iload 6, 2) := by decide +kernel
theorem dX8_evenings_64 : decode cX8_evenings 64 = .ok (.iload_n 1, 1) := by decide +kernel
theorem dX8_evenings_65 : decode cX8_evenings 65 = .ok (.if_icmp .gt 85, 3) := by decide +kernel
theorem dX8_evenings_68 : decode cX8_evenings 68 = .ok (.aload_n 0, 1) := by decide +kernel
theorem dX8_evenings_69 : decode cX8_evenings 69 = .ok (.aload_n 0, 1) := by decide +kernel
theorem dX8_evenings_70 : decode cX8_evenings 70 = .ok (.getfield 131, 3) := by decide +kernel
theorem dX8_evenings_73 : decode cX8_evenings 73 = .ok (.invokevirtual 273, 3) := by decide +kernel
theorem dX8_evenings_76 : decode cX8_evenings 76 = .ok (.istore 7, 2) := by decide +kernel
theorem dX8_evenings_78 : decode cX8_evenings 78 = .ok (.aload_n 0, 1) := by decide +kernel
theorem dX8_evenings_79 : decode cX8_evenings 79 = .ok (.getfield 13, 3) := by decide +kernel
theorem dX8_evenings_82 : decode cX8_evenings 82 = .ok (.iload 7, 2) := by decide +kernel
theorem dX8_evenings_84 : decode cX8_evenings 84 = .ok (.iaload, 1) := by decide +kernel
theorem dX8_evenings_85 : decode cX8_evenings 85 = .ok (.iload 4, 2) := by decide +kernel
theorem dX8_evenings_87 : decode cX8_evenings 87 = .ok (.if_icmp .ne 13, 3) := by decide +kernel
theorem dX8_evenings_90 : decode cX8_evenings 90 = .ok (.aload_n 0, 1) := by decide +kernel
theorem dX8_evenings_91 : decode cX8_evenings 91 = .ok (.getfield 16, 3) := by decide +kernel
theorem dX8_evenings_94 : decode cX8_evenings 94 = .ok (.iload 7, 2) := by decide +kernel
theorem dX8_evenings_96 : decode cX8_evenings 96 = .ok (.iaload, 1) := by decide +kernel
theorem dX8_evenings_97 : decode cX8_evenings 97 = .ok (.goto 27, 3) := by decide +kernel
theorem dX8_evenings_100 : decode cX8_evenings 100 = .ok (.aload_n 0, 1) := by decide +kernel
theorem dX8_evenings_101 : decode cX8_evenings 101 = .ok (.getfield 16, 3) := by decide +kernel
theorem dX8_evenings_104 : decode cX8_evenings 104 = .ok (.iload 7, 2) := by decide +kernel
theorem dX8_evenings_106 : decode cX8_evenings 106 = .ok (.iaload, 1) := by decide +kernel
theorem dX8_evenings_107 : decode cX8_evenings 107 = .ok (.iload 4, 2) := by decide +kernel
theorem dX8_evenings_109 : decode cX8_evenings 109 = .ok (.if_icmp .ne 13, 3) := by decide +kernel
theorem dX8_evenings_112 : decode cX8_evenings 112 = .ok (.aload_n 0, 1) := by decide +kernel
theorem dX8_evenings_113 : decode cX8_evenings 113 = .ok (.getfield 13, 3) := by decide +kernel
theorem dX8_evenings_116 : decode cX8_evenings 116 = .ok (.iload 7, 2) := by decide +kernel
theorem dX8_evenings_118 : decode cX8_evenings 118 = .ok (.iaload, 1) := by decide +kernel
theorem dX8_evenings_119 : decode cX8_evenings 119 = .ok (.goto 5, 3) := by decide +kernel
theorem dX8_evenings_122 : decode cX8_evenings 122 = .ok (.iload 4, 2) := by decide +kernel
theorem dX8_evenings_124 : decode cX8_evenings 124 = .ok (.istore 4, 2) := by decide +kernel
theorem dX8_evenings_126 : decode cX8_evenings 126 = .ok (.iload 5, 2) := by decide +kernel
theorem dX8_evenings_128 : decode cX8_evenings 128 = .ok (.aload_n 0, 1) := by decide +kernel
theorem dX8_evenings_129 : decode cX8_evenings 129 = .ok (.iload 4, 2) := by decide +kernel
theorem dX8_evenings_131 : decode cX8_evenings 131 = .ok (.aload_n 0, 1) := by decide +kernel
theorem dX8_evenings_132 : decode cX8_evenings 132 = .ok (.getfield 146, 3) := by decide +kernel
theorem dX8_evenings_135 : decode cX8_evenings 135 = .ok (.iload 6, 2) := by decide +kernel
theorem dX8_evenings_137 : decode cX8_evenings 137 = .ok (.iadd, 1) := by decide +kernel
theorem dX8_evenings_138 : decode cX8_evenings 138 = .ok (.invokevirtual 211, 3) := by decide +kernel
theorem dX8_evenings_141 : decode cX8_evenings 141 = .ok (.iadd, 1) := by decide +kernel
theorem dX8_evenings_142 : decode cX8_evenings 142 = .ok (.istore 5, 2) := by decide +kernel
theorem dX8_evenings_144 : decode cX8_evenings 144 = .ok (.iinc 6 1, 3) := by decide +kernel
theorem dX8_evenings_147 : decode cX8_evenings 147 = .ok (.goto (-85), 3) := by decide +kernel
theorem dX8_evenings_150 : decode cX8_evenings 150 = .ok (.iload_n 3, 1) := by decide +kernel
theorem dX8_evenings_151 : decode cX8_evenings 151 = .ok (.ifCond .ne 8, 3) := by decide +kernel
theorem dX8_evenings_154 : decode cX8_evenings 154 = .ok (.iload 5, 2) := by decide +kernel
theorem dX8_evenings_156 : decode cX8_evenings 156 = .ok (.goto 17, 3) := by decide +kernel
theorem dX8_evenings_159 : decode cX8_evenings 159 = .ok (.iload_n 3, 1) := by decide +kernel
theorem dX8_evenings_160 : decode cX8_evenings 160 = .ok (.iconst 1, 1) := by decide +kernel
theorem dX8_evenings_161 : decode cX8_evenings 161 = .ok (.if_icmp .ne 8, 3) := by decide +kernel
theorem dX8_evenings_164 : decode cX8_evenings 164 = .ok (.iload 4, 2) := by decide +kernel
theorem dX8_evenings_166 : decode cX8_evenings 166 = .ok (.goto 7, 3) := by decide +kernel
theorem dX8_evenings_169 : decode cX8_evenings 169 = .ok (.aload_n 0, 1) := by decide +kernel
theorem dX8_evenings_170 : decode cX8_evenings 170 = .ok (.getfield 261, 3) := by decide +kernel
theorem dX8_evenings_173 : decode cX8_evenings 173 = .ok (.ireturn, 1) := by decide +kernel
theorem dX8_image_0 : decode cX8_image 0 = .ok (.aload_n 0, 1) := by decide +kernel
theorem dX8_image_1 : decode cX8_image 1 = .ok (.invokevirtual 229, 3) := by decide +kernel
theorem dX8_image_4 : decode cX8_image 4 = .ok (.ifCond .eq 6, 3) := by decide +kernel
theorem dX8_image_7 : decode cX8_image 7 = .ok (.bipush (-103), 2) := by decide +kernel
theorem dX8_image_9 : decode cX8_image 9 = .ok (.ireturn, 1) := by decide +kernel
theorem dX8_image_10 : decode cX8_image 10 = .ok (.aload_n 0, 1) := by decide +kernel
theorem dX8_image_11 : decode cX8_image 11 = .ok (.getfield 19, 3) := by decide +kernel
theorem dX8_image_14 : decode cX8_image 14 = .ok (.aload_n 0, 1) := by decide +kernel
theorem dX8_image_15 : decode cX8_image 15 = .ok (.getfield 68, 3) := by decide +kernel
theorem dX8_image_18 : decode cX8_image 18 = .ok (.invokestatic 155, 3) := by decide +kernel
theorem dX8_image_21 : decode cX8_image 21 = .ok (.aload_n 0, 1) := by decide +kernel
theorem dX8_image_22 : decode cX8_image 22 = .ok (.getfield 25, 3) := by decide +kernel
theorem dX8_image_25 : decode cX8_image 25 = .ok (.aload_n 0, 1) := by decide +kernel
theorem dX8_image_26 : decode cX8_image 26 = .ok (.getfield 71, 3) := by decide +kernel
theorem dX8_image_29 : decode cX8_image 29 = .ok (.invokestatic 155, 3) := by decide +kernel
theorem dX8_image_32 : decode cX8_image 32 = .ok (.aload_n 0, 1) := by decide +kernel
theorem dX8_image_33 : decode cX8_image 33 = .ok (.getfield 28, 3) := by decide +kernel
theorem dX8_image_36 : decode cX8_image 36 = .ok (.aload_n 0, 1) := by decide +kernel
theorem dX8_image_37 : decode cX8_image 37 = .ok (.getfield 74, 3) := by decide +kernel
theorem dX8_image_40 : decode cX8_image 40 = .ok (.invokestatic 155, 3) := by decide +kernel
theorem dX8_image_43 : decode cX8_image 43 = .ok (.aload_n 0, 1) := by decide +kernel
theorem dX8_image_44 : decode cX8_image 44 = .ok (.getfield 31, 3) := by decide +kernel
theorem dX8_image_47 : decode cX8_image 47 = .ok (.aload_n 0, 1) := by decide +kernel
theorem dX8_image_48 : decode cX8_image 48 = .ok (.getfield 77, 3) := by decide +kernel
theorem dX8_image_51 : decode cX8_image 51 = .ok (.invokestatic 155, 3) := by decide +kernel
theorem dX8_image_54 : decode cX8_image 54 = .ok (.aload_n 0, 1) := by decide +kernel
theorem dX8_image_55 : decode cX8_image 55 = .ok (.getfield 34, 3) := by decide +kernel
theorem dX8_image_58 : decode cX8_image 58 = .ok (.aload_n 0, 1) := by decide +kernel
theorem dX8_image_59 : decode cX8_image 59 = .ok (.getfield 80, 3) := by decide +kernel
theorem dX8_image_62 : decode cX8_image 62 = .ok (.invokestatic 155, 3) := by decide +kernel
theorem dX8_image_65 : decode cX8_image 65 = .ok (.aload_n 0, 1) := by decide +kernel
theorem dX8_image_66 : decode cX8_image 66 = .ok (.getfield 65, 3) := by decide +kernel
theorem dX8_image_69 : decode cX8_image 69 = .ok (.aload_n 0, 1) := by decide +kernel
theorem dX8_image_70 : decode cX8_image 70 = .ok (.getfield 83, 3) := by decide +kernel
theorem dX8_image_73 : decode cX8_image 73 = .ok (.invokestatic 155, 3) := by decide +kernel
theorem dX8_image_76 : decode cX8_image 76 = .ok (.aload_n 0, 1) := by decide +kernel
theorem dX8_image_77 : decode cX8_image 77 = .ok (.aload_n 0, 1) := by decide +kernel
theorem dX8_image_78 : decode cX8_image 78 = .ok (.getfield 137, 3) := by decide +kernel
theorem dX8_image_81 : decode cX8_image 81 = .ok (.putfield 276, 3) := by decide +kernel
theorem dX8_image_84 : decode cX8_image 84 = .ok (.aload_n 0, 1) := by decide +kernel
theorem dX8_image_85 : decode cX8_image 85 = .ok (.aload_n 0, 1) := by decide +kernel
theorem dX8_image_86 : decode cX8_image 86 = .ok (.getfield 146, 3) := by decide +kernel
theorem dX8_image_89 : decode cX8_image 89 = .ok (.putfield 279, 3) := by decide +kernel
theorem dX8_image_92 : decode cX8_image 92 = .ok (.aload_n 0, 1) := by decide +kernel
theorem dX8_image_93 : decode cX8_image 93 = .ok (.aload_n 0, 1) := by decide +kernel
theorem dX8_image_94 : decode cX8_image 94 = .ok (.getfield 149, 3) := by decide +kernel
theorem dX8_image_97 : decode cX8_image 97 = .ok (.putfield 282, 3) := by decide +kernel
theorem dX8_image_100 : decode cX8_image 100 = .ok (.aload_n 0, 1) := by decide +kernel
theorem dX8_image_101 : decode cX8_image 101 = .ok (.aload_n 0, 1) := by decide +kernel
theorem dX8_image_102 : decode cX8_image 102 = .ok (.getfield 152, 3) := by decide +kernel
theorem dX8_image_105 : decode cX8_image 105 = .ok (.putfield 86, 3) := by decide +kernel
theorem dX8_image_108 : decode cX8_image 108 = .ok (.aload_n 0, 1) := by decide +kernel
theorem dX8_image_109 : decode cX8_image 109 = .ok (.getfield 146, 3) := by decide +kernel
theorem dX8_image_112 : decode cX8_image 112 = .ok (.ireturn, 1) := by decide +kernel
theorem dX8_restore_0 : decode cX8_restore 0 = .ok (.aload_n 0, 1) := by decide +kernel
theorem dX8_restore_1 : decode cX8_restore 1 = .ok (.getfield 86, 3) := by decide +kernel
theorem dX8_restore_4 : decode cX8_restore 4 = .ok (.aload_n 0, 1) := by decide +kernel
theorem dX8_restore_5 : decode cX8_restore 5 = .ok (.getfield 152, 3) := by decide +kernel
theorem dX8_restore_8 : decode cX8_restore 8 = .ok (.if_icmp .eq 6, 3) := by decide +kernel
theorem dX8_restore_11 : decode cX8_restore 11 = .ok (.bipush (-103), 2) := by decide +kernel
theorem dX8_restore_13 : decode cX8_restore 13 = .ok (.ireturn, 1) := by decide +kernel
theorem dX8_restore_14 : decode cX8_restore 14 = .ok (.aload_n 0, 1) := by decide +kernel
theorem dX8_restore_15 : decode cX8_restore 15 = .ok (.getfield 68, 3) := by decide +kernel
theorem dX8_restore_18 : decode cX8_restore 18 = .ok (.aload_n 0, 1) := by decide +kernel
theorem dX8_restore_19 : decode cX8_restore 19 = .ok (.getfield 19, 3) := by decide +kernel
theorem dX8_restore_22 : decode cX8_restore 22 = .ok (.invokestatic 155, 3) := by decide +kernel
theorem dX8_restore_25 : decode cX8_restore 25 = .ok (.aload_n 0, 1) := by decide +kernel
theorem dX8_restore_26 : decode cX8_restore 26 = .ok (.getfield 71, 3) := by decide +kernel
theorem dX8_restore_29 : decode cX8_restore 29 = .ok (.aload_n 0, 1) := by decide +kernel
theorem dX8_restore_30 : decode cX8_restore 30 = .ok (.getfield 25, 3) := by decide +kernel
theorem dX8_restore_33 : decode cX8_restore 33 = .ok (.invokestatic 155, 3) := by decide +kernel
theorem dX8_restore_36 : decode cX8_restore 36 = .ok (.aload_n 0, 1) := by decide +kernel
theorem dX8_restore_37 : decode cX8_restore 37 = .ok (.getfield 74, 3) := by decide +kernel
theorem dX8_restore_40 : decode cX8_restore 40 = .ok (.aload_n 0, 1) := by decide +kernel
theorem dX8_restore_41 : decode cX8_restore 41 = .ok (.getfield 28, 3) := by decide +kernel
theorem dX8_restore_44 : decode cX8_restore 44 = .ok (.invokestatic 155, 3) := by decide +kernel
theorem dX8_restore_47 : decode cX8_restore 47 = .ok (.aload_n 0, 1) := by decide +kernel
theorem dX8_restore_48 : decode cX8_restore 48 = .ok (.getfield 77, 3) := by decide +kernel
theorem dX8_restore_51 : decode cX8_restore 51 = .ok (.aload_n 0, 1) := by decide +kernel
theorem dX8_restore_52 : decode cX8_restore 52 = .ok (.getfield 31, 3) := by decide +kernel
theorem dX8_restore_55 : decode cX8_restore 55 = .ok (.invokestatic 155, 3) := by decide +kernel
theorem dX8_restore_58 : decode cX8_restore 58 = .ok (.aload_n 0, 1) := by decide +kernel
theorem dX8_restore_59 : decode cX8_restore 59 = .ok (.getfield 80, 3) := by decide +kernel
theorem dX8_restore_62 : decode cX8_restore 62 = .ok (.aload_n 0, 1) := by decide +kernel
theorem dX8_restore_63 : decode cX8_restore 63 = .ok (.getfield 34, 3) := by decide +kernel
theorem dX8_restore_66 : decode cX8_restore 66 = .ok (.invokestatic 155, 3) := by decide +kernel
theorem dX8_restore_69 : decode cX8_restore 69 = .ok (.aload_n 0, 1) := by decide +kernel
theorem dX8_restore_70 : decode cX8_restore 70 = .ok (.getfield 83, 3) := by decide +kernel
theorem dX8_restore_73 : decode cX8_restore 73 = .ok (.aload_n 0, 1) := by decide +kernel
theorem dX8_restore_74 : decode cX8_restore 74 = .ok (.getfield 65, 3) := by decide +kernel
theorem dX8_restore_77 : decode cX8_restore 77 = .ok (.invokestatic 155, 3) := by decide +kernel
theorem dX8_restore_80 : decode cX8_restore 80 = .ok (.aload_n 0, 1) := by decide +kernel
theorem dX8_restore_81 : decode cX8_restore 81 = .ok (.aload_n 0, 1) := by decide +kernel
theorem dX8_restore_82 : decode cX8_restore 82 = .ok (.getfield 276, 3) := by decide +kernel
theorem dX8_restore_85 : decode cX8_restore 85 = .ok (.putfield 137, 3) := by decide +kernel
theorem dX8_restore_88 : decode cX8_restore 88 = .ok (.aload_n 0, 1) := by decide +kernel
theorem dX8_restore_89 : decode cX8_restore 89 = .ok (.aload_n 0, 1) := by decide +kernel
theorem dX8_restore_90 : decode cX8_restore 90 = .ok (.getfield 279, 3) := by decide +kernel
theorem dX8_restore_93 : decode cX8_restore 93 = .ok (.putfield 146, 3) := by decide +kernel
theorem dX8_restore_96 : decode cX8_restore 96 = .ok (.aload_n 0, 1) := by decide +kernel
theorem dX8_restore_97 : decode cX8_restore 97 = .ok (.aload_n 0, 1) := by decide +kernel
theorem dX8_restore_98 : decode cX8_restore 98 = .ok (.getfield 282, 3) := by decide +kernel
theorem dX8_restore_101 : decode cX8_restore 101 = .ok (.putfield 149, 3) := by decide +kernel
theorem dX8_restore_104 : decode cX8_restore 104 = .ok (.aload_n 0, 1) := by decide +kernel
theorem dX8_restore_105 : decode cX8_restore 105 = .ok (.getfield 146, 3) := by decide +kernel
theorem dX8_restore_108 : decode cX8_restore 108 = .ok (.ireturn, 1) := by decide +kernel
theorem dX8_sumOf_0 : decode cX8_sumOf 0 = .ok (.iconst 0, 1) := by decide +kernel
theorem dX8_sumOf_1 : decode cX8_sumOf 1 = .ok (.istore_n 2, 1) := by decide +kernel
theorem dX8_sumOf_2 : decode cX8_sumOf 2 = .ok (.iconst 0, 1) := by decide +kernel
theorem dX8_sumOf_3 : decode cX8_sumOf 3 = .ok (.istore_n 3, 1) := by decide +kernel
theorem dX8_sumOf_4 : decode cX8_sumOf 4 = .ok (.iload_n 3, 1) := by decide +kernel
theorem dX8_sumOf_5 : decode cX8_sumOf 5 = .ok (.aload_n 0, 1) := by decide +kernel
theorem dX8_sumOf_6 : decode cX8_sumOf 6 = .ok (.getfield 140, 3) := by decide +kernel
theorem dX8_sumOf_9 : decode cX8_sumOf 9 = .ok (.if_icmp .ge 15, 3) := by decide +kernel
theorem dX8_sumOf_12 : decode cX8_sumOf 12 = .ok (.iload_n 2, 1) := by decide +kernel
theorem dX8_sumOf_13 : decode cX8_sumOf 13 = .ok (.aload_n 1, 1) := by decide +kernel
theorem dX8_sumOf_14 : decode cX8_sumOf 14 = .ok (.iload_n 3, 1) := by decide +kernel
theorem dX8_sumOf_15 : decode cX8_sumOf 15 = .ok (.iaload, 1) := by decide +kernel
theorem dX8_sumOf_16 : decode cX8_sumOf 16 = .ok (.iadd, 1) := by decide +kernel
theorem dX8_sumOf_17 : decode cX8_sumOf 17 = .ok (.istore_n 2, 1) := by decide +kernel
theorem dX8_sumOf_18 : decode cX8_sumOf 18 = .ok (.iinc 3 1, 3) := by decide +kernel
theorem dX8_sumOf_21 : decode cX8_sumOf 21 = .ok (.goto (-17), 3) := by decide +kernel
theorem dX8_sumOf_24 : decode cX8_sumOf 24 = .ok (.iload_n 2, 1) := by decide +kernel
theorem dX8_sumOf_25 : decode cX8_sumOf 25 = .ok (.ireturn, 1) := by decide +kernel
theorem dX8_hearing_0 : decode cX8_hearing 0 = .ok (.iconst 0, 1) := by decide +kernel
theorem dX8_hearing_1 : decode cX8_hearing 1 = .ok (.istore_n 1, 1) := by decide +kernel
theorem dX8_hearing_2 : decode cX8_hearing 2 = .ok (.iconst 0, 1) := by decide +kernel
theorem dX8_hearing_3 : decode cX8_hearing 3 = .ok (.istore_n 2, 1) := by decide +kernel
theorem dX8_hearing_4 : decode cX8_hearing 4 = .ok (.iload_n 2, 1) := by decide +kernel
theorem dX8_hearing_5 : decode cX8_hearing 5 = .ok (.aload_n 0, 1) := by decide +kernel
theorem dX8_hearing_6 : decode cX8_hearing 6 = .ok (.getfield 140, 3) := by decide +kernel
theorem dX8_hearing_9 : decode cX8_hearing 9 = .ok (.if_icmp .ge 17, 3) := by decide +kernel
theorem dX8_hearing_12 : decode cX8_hearing 12 = .ok (.iload_n 1, 1) := by decide +kernel
theorem dX8_hearing_13 : decode cX8_hearing 13 = .ok (.aload_n 0, 1) := by decide +kernel
theorem dX8_hearing_14 : decode cX8_hearing 14 = .ok (.iload_n 2, 1) := by decide +kernel
theorem dX8_hearing_15 : decode cX8_hearing 15 = .ok (.invokevirtual 169, 3) := by decide +kernel
theorem dX8_hearing_18 : decode cX8_hearing 18 = .ok (.iadd, 1) := by decide +kernel
theorem dX8_hearing_19 : decode cX8_hearing 19 = .ok (.istore_n 1, 1) := by decide +kernel
theorem dX8_hearing_20 : decode cX8_hearing 20 = .ok (.iinc 2 1, 3) := by decide +kernel
theorem dX8_hearing_23 : decode cX8_hearing 23 = .ok (.goto (-19), 3) := by decide +kernel
theorem dX8_hearing_26 : decode cX8_hearing 26 = .ok (.iload_n 1, 1) := by decide +kernel
theorem dX8_hearing_27 : decode cX8_hearing 27 = .ok (.ireturn, 1) := by decide +kernel
theorem dX8_countOf_0 : decode cX8_countOf 0 = .ok (.iload_n 1, 1) := by decide +kernel
theorem dX8_countOf_1 : decode cX8_countOf 1 = .ok (.tableswitch 131 0 11 #[63, 68, 73, 78, 83, 88, 97, 106, 111, 116, 121, 126], 63) := by decide +kernel
theorem dX8_countOf_64 : decode cX8_countOf 64 = .ok (.aload_n 0, 1) := by decide +kernel
theorem dX8_countOf_65 : decode cX8_countOf 65 = .ok (.getfield 134, 3) := by decide +kernel
theorem dX8_countOf_68 : decode cX8_countOf 68 = .ok (.ireturn, 1) := by decide +kernel
theorem dX8_countOf_69 : decode cX8_countOf 69 = .ok (.aload_n 0, 1) := by decide +kernel
theorem dX8_countOf_70 : decode cX8_countOf 70 = .ok (.getfield 131, 3) := by decide +kernel
theorem dX8_countOf_73 : decode cX8_countOf 73 = .ok (.ireturn, 1) := by decide +kernel
theorem dX8_countOf_74 : decode cX8_countOf 74 = .ok (.aload_n 0, 1) := by decide +kernel
theorem dX8_countOf_75 : decode cX8_countOf 75 = .ok (.getfield 140, 3) := by decide +kernel
theorem dX8_countOf_78 : decode cX8_countOf 78 = .ok (.ireturn, 1) := by decide +kernel
theorem dX8_countOf_79 : decode cX8_countOf 79 = .ok (.aload_n 0, 1) := by decide +kernel
theorem dX8_countOf_80 : decode cX8_countOf 80 = .ok (.getfield 137, 3) := by decide +kernel
theorem dX8_countOf_83 : decode cX8_countOf 83 = .ok (.ireturn, 1) := by decide +kernel
theorem dX8_countOf_84 : decode cX8_countOf 84 = .ok (.aload_n 0, 1) := by decide +kernel
theorem dX8_countOf_85 : decode cX8_countOf 85 = .ok (.getfield 146, 3) := by decide +kernel
theorem dX8_countOf_88 : decode cX8_countOf 88 = .ok (.ireturn, 1) := by decide +kernel
theorem dX8_countOf_89 : decode cX8_countOf 89 = .ok (.aload_n 0, 1) := by decide +kernel
theorem dX8_countOf_90 : decode cX8_countOf 90 = .ok (.aload_n 0, 1) := by decide +kernel
theorem dX8_countOf_91 : decode cX8_countOf 91 = .ok (.getfield 34, 3) := by decide +kernel
theorem dX8_countOf_94 : decode cX8_countOf 94 = .ok (.invokevirtual 285, 3) := by decide +kernel
theorem dX8_countOf_97 : decode cX8_countOf 97 = .ok (.ireturn, 1) := by decide +kernel
theorem dX8_countOf_98 : decode cX8_countOf 98 = .ok (.aload_n 0, 1) := by decide +kernel
theorem dX8_countOf_99 : decode cX8_countOf 99 = .ok (.aload_n 0, 1) := by decide +kernel
theorem dX8_countOf_100 : decode cX8_countOf 100 = .ok (.getfield 31, 3) := by decide +kernel
theorem dX8_countOf_103 : decode cX8_countOf 103 = .ok (.invokevirtual 285, 3) := by decide +kernel
theorem dX8_countOf_106 : decode cX8_countOf 106 = .ok (.ireturn, 1) := by decide +kernel
theorem dX8_countOf_107 : decode cX8_countOf 107 = .ok (.aload_n 0, 1) := by decide +kernel
theorem dX8_countOf_108 : decode cX8_countOf 108 = .ok (.invokevirtual 289, 3) := by decide +kernel
theorem dX8_countOf_111 : decode cX8_countOf 111 = .ok (.ireturn, 1) := by decide +kernel
theorem dX8_countOf_112 : decode cX8_countOf 112 = .ok (.aload_n 0, 1) := by decide +kernel
theorem dX8_countOf_113 : decode cX8_countOf 113 = .ok (.getfield 149, 3) := by decide +kernel
theorem dX8_countOf_116 : decode cX8_countOf 116 = .ok (.ireturn, 1) := by decide +kernel
theorem dX8_countOf_117 : decode cX8_countOf 117 = .ok (.aload_n 0, 1) := by decide +kernel
theorem dX8_countOf_118 : decode cX8_countOf 118 = .ok (.getfield 96, 3) := by decide +kernel
theorem dX8_countOf_121 : decode cX8_countOf 121 = .ok (.ireturn, 1) := by decide +kernel
theorem dX8_countOf_122 : decode cX8_countOf 122 = .ok (.aload_n 0, 1) := by decide +kernel
theorem dX8_countOf_123 : decode cX8_countOf 123 = .ok (.getfield 152, 3) := by decide +kernel
theorem dX8_countOf_126 : decode cX8_countOf 126 = .ok (.ireturn, 1) := by decide +kernel
theorem dX8_countOf_127 : decode cX8_countOf 127 = .ok (.aload_n 0, 1) := by decide +kernel
theorem dX8_countOf_128 : decode cX8_countOf 128 = .ok (.getfield 233, 3) := by decide +kernel
theorem dX8_countOf_131 : decode cX8_countOf 131 = .ok (.ireturn, 1) := by decide +kernel
theorem dX8_countOf_132 : decode cX8_countOf 132 = .ok (.bipush (-102), 2) := by decide +kernel
theorem dX8_countOf_134 : decode cX8_countOf 134 = .ok (.ireturn, 1) := by decide +kernel
theorem dX8_count_0 : decode cX8_count 0 = .ok (.aload_n 0, 1) := by decide +kernel
theorem dX8_count_1 : decode cX8_count 1 = .ok (.iload_n 1, 1) := by decide +kernel
theorem dX8_count_2 : decode cX8_count 2 = .ok (.invokevirtual 292, 3) := by decide +kernel
theorem dX8_count_5 : decode cX8_count 5 = .ok (.ireturn, 1) := by decide +kernel
theorem dX8_say_0 : decode cX8_say 0 = .ok (.aload_n 0, 1) := by decide +kernel
theorem dX8_say_1 : decode cX8_say 1 = .ok (.ldc2_w 295, 3) := by decide +kernel
theorem dX8_say_4 : decode cX8_say 4 = .ok (.aload_n 0, 1) := by decide +kernel
theorem dX8_say_5 : decode cX8_say 5 = .ok (.getfield 297, 3) := by decide +kernel
theorem dX8_say_8 : decode cX8_say 8 = .ok (.lmul, 1) := by decide +kernel
theorem dX8_say_9 : decode cX8_say 9 = .ok (.lload_n 1, 1) := by decide +kernel
theorem dX8_say_10 : decode cX8_say 10 = .ok (.ladd, 1) := by decide +kernel
theorem dX8_say_11 : decode cX8_say 11 = .ok (.putfield 297, 3) := by decide +kernel
theorem dX8_say_14 : decode cX8_say 14 = .ok (.return_, 1) := by decide +kernel
theorem dX8_sayThings_0 : decode cX8_sayThings 0 = .ok (.iconst 0, 1) := by decide +kernel
theorem dX8_sayThings_1 : decode cX8_sayThings 1 = .ok (.istore_n 1, 1) := by decide +kernel
theorem dX8_sayThings_2 : decode cX8_sayThings 2 = .ok (.iload_n 1, 1) := by decide +kernel
theorem dX8_sayThings_3 : decode cX8_sayThings 3 = .ok (.aload_n 0, 1) := by decide +kernel
theorem dX8_sayThings_4 : decode cX8_sayThings 4 = .ok (.getfield 131, 3) := by decide +kernel
theorem dX8_sayThings_7 : decode cX8_sayThings 7 = .ok (.if_icmp .ge 31, 3) := by decide +kernel
theorem dX8_sayThings_10 : decode cX8_sayThings 10 = .ok (.aload_n 0, 1) := by decide +kernel
theorem dX8_sayThings_11 : decode cX8_sayThings 11 = .ok (.aload_n 0, 1) := by decide +kernel
theorem dX8_sayThings_12 : decode cX8_sayThings 12 = .ok (.getfield 13, 3) := by decide +kernel
theorem dX8_sayThings_15 : decode cX8_sayThings 15 = .ok (.iload_n 1, 1) := by decide +kernel
theorem dX8_sayThings_16 : decode cX8_sayThings 16 = .ok (.iaload, 1) := by decide +kernel
theorem dX8_sayThings_17 : decode cX8_sayThings 17 = .ok (.i2l, 1) := by decide +kernel
theorem dX8_sayThings_18 : decode cX8_sayThings 18 = .ok (.invokevirtual 301, 3) := by decide +kernel
theorem dX8_sayThings_21 : decode cX8_sayThings 21 = .ok (.aload_n 0, 1) := by decide +kernel
theorem dX8_sayThings_22 : decode cX8_sayThings 22 = .ok (.aload_n 0, 1) := by decide +kernel
theorem dX8_sayThings_23 : decode cX8_sayThings 23 = .ok (.getfield 16, 3) := by decide +kernel
theorem dX8_sayThings_26 : decode cX8_sayThings 26 = .ok (.iload_n 1, 1) := by decide +kernel
theorem dX8_sayThings_27 : decode cX8_sayThings 27 = .ok (.iaload, 1) := by decide +kernel
theorem dX8_sayThings_28 : decode cX8_sayThings 28 = .ok (.i2l, 1) := by decide +kernel
theorem dX8_sayThings_29 : decode cX8_sayThings 29 = .ok (.invokevirtual 301, 3) := by decide +kernel
theorem dX8_sayThings_32 : decode cX8_sayThings 32 = .ok (.iinc 1 1, 3) := by decide +kernel
theorem dX8_sayThings_35 : decode cX8_sayThings 35 = .ok (.goto (-33), 3) := by decide +kernel
theorem dX8_sayThings_38 : decode cX8_sayThings 38 = .ok (.iconst 0, 1) := by decide +kernel
theorem dX8_sayThings_39 : decode cX8_sayThings 39 = .ok (.istore_n 1, 1) := by decide +kernel
theorem dX8_sayThings_40 : decode cX8_sayThings 40 = .ok (.iload_n 1, 1) := by decide +kernel
theorem dX8_sayThings_41 : decode cX8_sayThings 41 = .ok (.aload_n 0, 1) := by decide +kernel
theorem dX8_sayThings_42 : decode cX8_sayThings 42 = .ok (.getfield 134, 3) := by decide +kernel
theorem dX8_sayThings_45 : decode cX8_sayThings 45 = .ok (.if_icmp .ge 33, 3) := by decide +kernel
theorem dX8_sayThings_48 : decode cX8_sayThings 48 = .ok (.iconst 0, 1) := by decide +kernel
theorem dX8_sayThings_49 : decode cX8_sayThings 49 = .ok (.istore_n 2, 1) := by decide +kernel
theorem dX8_sayThings_50 : decode cX8_sayThings 50 = .ok (.iload_n 2, 1) := by decide +kernel
theorem dX8_sayThings_51 : decode cX8_sayThings 51 = .ok (.iconst 4, 1) := by decide +kernel
theorem dX8_sayThings_52 : decode cX8_sayThings 52 = .ok (.if_icmp .ge 20, 3) := by decide +kernel
theorem dX8_sayThings_55 : decode cX8_sayThings 55 = .ok (.aload_n 0, 1) := by decide +kernel
theorem dX8_sayThings_56 : decode cX8_sayThings 56 = .ok (.aload_n 0, 1) := by decide +kernel
theorem dX8_sayThings_57 : decode cX8_sayThings 57 = .ok (.iload_n 1, 1) := by decide +kernel
theorem dX8_sayThings_58 : decode cX8_sayThings 58 = .ok (.iload_n 2, 1) := by decide +kernel
theorem dX8_sayThings_59 : decode cX8_sayThings 59 = .ok (.invokevirtual 205, 3) := by decide +kernel
theorem dX8_sayThings_62 : decode cX8_sayThings 62 = .ok (.i2l, 1) := by decide +kernel
theorem dX8_sayThings_63 : decode cX8_sayThings 63 = .ok (.invokevirtual 301, 3) := by decide +kernel
theorem dX8_sayThings_66 : decode cX8_sayThings 66 = .ok (.iinc 2 1, 3) := by decide +kernel
theorem dX8_sayThings_69 : decode cX8_sayThings 69 = .ok (.goto (-19), 3) := by decide +kernel
theorem dX8_sayThings_72 : decode cX8_sayThings 72 = .ok (.iinc 1 1, 3) := by decide +kernel
theorem dX8_sayThings_75 : decode cX8_sayThings 75 = .ok (.goto (-35), 3) := by decide +kernel
theorem dX8_sayThings_78 : decode cX8_sayThings 78 = .ok (.return_, 1) := by decide +kernel
theorem dX8_digest_0 : decode cX8_digest 0 = .ok (.aload_n 0, 1) := by decide +kernel
theorem dX8_digest_1 : decode cX8_digest 1 = .ok (.ldc2_w 305, 3) := by decide +kernel
theorem dX8_digest_4 : decode cX8_digest 4 = .ok (.putfield 297, 3) := by decide +kernel
theorem dX8_digest_7 : decode cX8_digest 7 = .ok (.iconst 0, 1) := by decide +kernel
theorem dX8_digest_8 : decode cX8_digest 8 = .ok (.istore_n 1, 1) := by decide +kernel
theorem dX8_digest_9 : decode cX8_digest 9 = .ok (.iload_n 1, 1) := by decide +kernel
theorem dX8_digest_10 : decode cX8_digest 10 = .ok (.aload_n 0, 1) := by decide +kernel
theorem dX8_digest_11 : decode cX8_digest 11 = .ok (.getfield 140, 3) := by decide +kernel
theorem dX8_digest_14 : decode cX8_digest 14 = .ok (.if_icmp .ge 58, 3) := by decide +kernel
theorem dX8_digest_17 : decode cX8_digest 17 = .ok (.iconst 0, 1) := by decide +kernel
theorem dX8_digest_18 : decode cX8_digest 18 = .ok (.istore_n 2, 1) := by decide +kernel
theorem dX8_digest_19 : decode cX8_digest 19 = .ok (.iload_n 2, 1) := by decide +kernel
theorem dX8_digest_20 : decode cX8_digest 20 = .ok (.bipush 9, 2) := by decide +kernel
theorem dX8_digest_22 : decode cX8_digest 22 = .ok (.if_icmp .ge 20, 3) := by decide +kernel
theorem dX8_digest_25 : decode cX8_digest 25 = .ok (.aload_n 0, 1) := by decide +kernel
theorem dX8_digest_26 : decode cX8_digest 26 = .ok (.aload_n 0, 1) := by decide +kernel
theorem dX8_digest_27 : decode cX8_digest 27 = .ok (.iload_n 1, 1) := by decide +kernel
theorem dX8_digest_28 : decode cX8_digest 28 = .ok (.iload_n 2, 1) := by decide +kernel
theorem dX8_digest_29 : decode cX8_digest 29 = .ok (.invokevirtual 178, 3) := by decide +kernel
theorem dX8_digest_32 : decode cX8_digest 32 = .ok (.i2l, 1) := by decide +kernel
theorem dX8_digest_33 : decode cX8_digest 33 = .ok (.invokevirtual 301, 3) := by decide +kernel
theorem dX8_digest_36 : decode cX8_digest 36 = .ok (.iinc 2 1, 3) := by decide +kernel
theorem dX8_digest_39 : decode cX8_digest 39 = .ok (.goto (-20), 3) := by decide +kernel
theorem dX8_digest_42 : decode cX8_digest 42 = .ok (.aload_n 0, 1) := by decide +kernel
theorem dX8_digest_43 : decode cX8_digest 43 = .ok (.aload_n 0, 1) := by decide +kernel
theorem dX8_digest_44 : decode cX8_digest 44 = .ok (.iload_n 1, 1) := by decide +kernel
theorem dX8_digest_45 : decode cX8_digest 45 = .ok (.iconst 2, 1) := by decide +kernel
theorem dX8_digest_46 : decode cX8_digest 46 = .ok (.iconst 0, 1) := by decide +kernel
theorem dX8_digest_47 : decode cX8_digest 47 = .ok (.invokevirtual 247, 3) := by decide +kernel
theorem dX8_digest_50 : decode cX8_digest 50 = .ok (.i2l, 1) := by decide +kernel
theorem dX8_digest_51 : decode cX8_digest 51 = .ok (.invokevirtual 301, 3) := by decide +kernel
theorem dX8_digest_54 : decode cX8_digest 54 = .ok (.aload_n 0, 1) := by decide +kernel
theorem dX8_digest_55 : decode cX8_digest 55 = .ok (.aload_n 0, 1) := by decide +kernel
theorem dX8_digest_56 : decode cX8_digest 56 = .ok (.iload_n 1, 1) := by decide +kernel
theorem dX8_digest_57 : decode cX8_digest 57 = .ok (.iconst 2, 1) := by decide +kernel
theorem dX8_digest_58 : decode cX8_digest 58 = .ok (.iconst 1, 1) := by decide +kernel
theorem dX8_digest_59 : decode cX8_digest 59 = .ok (.invokevirtual 247, 3) := by decide +kernel
theorem dX8_digest_62 : decode cX8_digest 62 = .ok (.i2l, 1) := by decide +kernel
theorem dX8_digest_63 : decode cX8_digest 63 = .ok (.invokevirtual 301, 3) := by decide +kernel
theorem dX8_digest_66 : decode cX8_digest 66 = .ok (.iinc 1 1, 3) := by decide +kernel
theorem dX8_digest_69 : decode cX8_digest 69 = .ok (.goto (-60), 3) := by decide +kernel
theorem dX8_digest_72 : decode cX8_digest 72 = .ok (.aload_n 0, 1) := by decide +kernel
theorem dX8_digest_73 : decode cX8_digest 73 = .ok (.invokevirtual 307, 3) := by decide +kernel
theorem dX8_digest_76 : decode cX8_digest 76 = .ok (.aload_n 0, 1) := by decide +kernel
theorem dX8_digest_77 : decode cX8_digest 77 = .ok (.invokevirtual 229, 3) := by decide +kernel
theorem dX8_digest_80 : decode cX8_digest 80 = .ok (.ifCond .ne 21, 3) := by decide +kernel
theorem dX8_digest_83 : decode cX8_digest 83 = .ok (.aload_n 0, 1) := by decide +kernel
theorem dX8_digest_84 : decode cX8_digest 84 = .ok (.aload_n 0, 1) := by decide +kernel
theorem dX8_digest_85 : decode cX8_digest 85 = .ok (.invokevirtual 253, 3) := by decide +kernel
theorem dX8_digest_88 : decode cX8_digest 88 = .ok (.i2l, 1) := by decide +kernel
theorem dX8_digest_89 : decode cX8_digest 89 = .ok (.invokevirtual 301, 3) := by decide +kernel
theorem dX8_digest_92 : decode cX8_digest 92 = .ok (.aload_n 0, 1) := by decide +kernel
theorem dX8_digest_93 : decode cX8_digest 93 = .ok (.aload_n 0, 1) := by decide +kernel
theorem dX8_digest_94 : decode cX8_digest 94 = .ok (.invokevirtual 256, 3) := by decide +kernel
theorem dX8_digest_97 : decode cX8_digest 97 = .ok (.i2l, 1) := by decide +kernel
theorem dX8_digest_98 : decode cX8_digest 98 = .ok (.invokevirtual 301, 3) := by decide +kernel
theorem dX8_digest_101 : decode cX8_digest 101 = .ok (.iconst 0, 1) := by decide +kernel
theorem dX8_digest_102 : decode cX8_digest 102 = .ok (.istore_n 1, 1) := by decide +kernel
theorem dX8_digest_103 : decode cX8_digest 103 = .ok (.iload_n 1, 1) := by decide +kernel
theorem dX8_digest_104 : decode cX8_digest 104 = .ok (.aload_n 0, 1) := by decide +kernel
theorem dX8_digest_105 : decode cX8_digest 105 = .ok (.getfield 96, 3) := by decide +kernel
theorem dX8_digest_108 : decode cX8_digest 108 = .ok (.if_icmp .ge 20, 3) := by decide +kernel
theorem dX8_digest_111 : decode cX8_digest 111 = .ok (.aload_n 0, 1) := by decide +kernel
theorem dX8_digest_112 : decode cX8_digest 112 = .ok (.aload_n 0, 1) := by decide +kernel
theorem dX8_digest_113 : decode cX8_digest 113 = .ok (.getfield 7, 3) := by decide +kernel
theorem dX8_digest_116 : decode cX8_digest 116 = .ok (.iload_n 1, 1) := by decide +kernel
theorem dX8_digest_117 : decode cX8_digest 117 = .ok (.iaload, 1) := by decide +kernel
theorem dX8_digest_118 : decode cX8_digest 118 = .ok (.i2l, 1) := by decide +kernel
theorem dX8_digest_119 : decode cX8_digest 119 = .ok (.invokevirtual 301, 3) := by decide +kernel
theorem dX8_digest_122 : decode cX8_digest 122 = .ok (.iinc 1 1, 3) := by decide +kernel
theorem dX8_digest_125 : decode cX8_digest 125 = .ok (.goto (-22), 3) := by decide +kernel
theorem dX8_digest_128 : decode cX8_digest 128 = .ok (.iconst 0, 1) := by decide +kernel
theorem dX8_digest_129 : decode cX8_digest 129 = .ok (.istore_n 1, 1) := by decide +kernel
theorem dX8_digest_130 : decode cX8_digest 130 = .ok (.iload_n 1, 1) := by decide +kernel
theorem dX8_digest_131 : decode cX8_digest 131 = .ok (.bipush 12, 2) := by decide +kernel
theorem dX8_digest_133 : decode cX8_digest 133 = .ok (.if_icmp .ge 19, 3) := by decide +kernel
theorem dX8_digest_136 : decode cX8_digest 136 = .ok (.aload_n 0, 1) := by decide +kernel
theorem dX8_digest_137 : decode cX8_digest 137 = .ok (.aload_n 0, 1) := by decide +kernel
theorem dX8_digest_138 : decode cX8_digest 138 = .ok (.iload_n 1, 1) := by decide +kernel
theorem dX8_digest_139 : decode cX8_digest 139 = .ok (.invokevirtual 292, 3) := by decide +kernel
theorem dX8_digest_142 : decode cX8_digest 142 = .ok (.i2l, 1) := by decide +kernel
theorem dX8_digest_143 : decode cX8_digest 143 = .ok (.invokevirtual 301, 3) := by decide +kernel
theorem dX8_digest_146 : decode cX8_digest 146 = .ok (.iinc 1 1, 3) := by decide +kernel
theorem dX8_digest_149 : decode cX8_digest 149 = .ok (.goto (-19), 3) := by decide +kernel
theorem dX8_digest_152 : decode cX8_digest 152 = .ok (.aload_n 0, 1) := by decide +kernel
theorem dX8_digest_153 : decode cX8_digest 153 = .ok (.getfield 297, 3) := by decide +kernel
theorem dX8_digest_156 : decode cX8_digest 156 = .ok (.lreturn, 1) := by decide +kernel
end
section
theorem dX0_init_0 : decode cX0_init 0 = .ok (.aload_n 0, 1) := by decide +kernel
theorem dX0_init_1 : decode cX0_init 1 = .ok (.invokespecial 3, 3) := by decide +kernel
theorem dX0_init_4 : decode cX0_init 4 = .ok (.aload_n 0, 1) := by decide +kernel
theorem dX0_init_5 : decode cX0_init 5 = .ok (.bipush 6, 2) := by decide +kernel
theorem dX0_init_7 : decode cX0_init 7 = .ok (.newarray .int, 2) := by decide +kernel
theorem dX0_init_9 : decode cX0_init 9 = .ok (.putfield 9, 3) := by decide +kernel
theorem dX0_init_12 : decode cX0_init 12 = .ok (.return_, 1) := by decide +kernel
theorem dX0_begin_0 : decode cX0_begin 0 = .ok (.aload_n 0, 1) := by decide +kernel
theorem dX0_begin_1 : decode cX0_begin 1 = .ok (.iload_n 1, 1) := by decide +kernel
theorem dX0_begin_2 : decode cX0_begin 2 = .ok (.putfield 15, 3) := by decide +kernel
theorem dX0_begin_5 : decode cX0_begin 5 = .ok (.aload_n 0, 1) := by decide +kernel
theorem dX0_begin_6 : decode cX0_begin 6 = .ok (.iconst 0, 1) := by decide +kernel
theorem dX0_begin_7 : decode cX0_begin 7 = .ok (.putfield 19, 3) := by decide +kernel
theorem dX0_begin_10 : decode cX0_begin 10 = .ok (.aload_n 0, 1) := by decide +kernel
theorem dX0_begin_11 : decode cX0_begin 11 = .ok (.iconst 0, 1) := by decide +kernel
theorem dX0_begin_12 : decode cX0_begin 12 = .ok (.putfield 22, 3) := by decide +kernel
theorem dX0_begin_15 : decode cX0_begin 15 = .ok (.aload_n 0, 1) := by decide +kernel
theorem dX0_begin_16 : decode cX0_begin 16 = .ok (.getfield 9, 3) := by decide +kernel
theorem dX0_begin_19 : decode cX0_begin 19 = .ok (.iconst 0, 1) := by decide +kernel
theorem dX0_begin_20 : decode cX0_begin 20 = .ok (.invokestatic 25, 3) := by decide +kernel
theorem dX0_begin_23 : decode cX0_begin 23 = .ok (.return_, 1) := by decide +kernel
theorem dX0_copy_0 : decode cX0_copy 0 = .ok (.aload_n 0, 1) := by decide +kernel
theorem dX0_copy_1 : decode cX0_copy 1 = .ok (.aload_n 1, 1) := by decide +kernel
theorem dX0_copy_2 : decode cX0_copy 2 = .ok (.getfield 15, 3) := by decide +kernel
theorem dX0_copy_5 : decode cX0_copy 5 = .ok (.putfield 15, 3) := by decide +kernel
theorem dX0_copy_8 : decode cX0_copy 8 = .ok (.aload_n 0, 1) := by decide +kernel
theorem dX0_copy_9 : decode cX0_copy 9 = .ok (.aload_n 1, 1) := by decide +kernel
theorem dX0_copy_10 : decode cX0_copy 10 = .ok (.getfield 19, 3) := by decide +kernel
theorem dX0_copy_13 : decode cX0_copy 13 = .ok (.putfield 19, 3) := by decide +kernel
theorem dX0_copy_16 : decode cX0_copy 16 = .ok (.aload_n 0, 1) := by decide +kernel
theorem dX0_copy_17 : decode cX0_copy 17 = .ok (.aload_n 1, 1) := by decide +kernel
theorem dX0_copy_18 : decode cX0_copy 18 = .ok (.getfield 22, 3) := by decide +kernel
theorem dX0_copy_21 : decode cX0_copy 21 = .ok (.putfield 22, 3) := by decide +kernel
theorem dX0_copy_24 : decode cX0_copy 24 = .ok (.aload_n 1, 1) := by decide +kernel
theorem dX0_copy_25 : decode cX0_copy 25 = .ok (.getfield 9, 3) := by decide +kernel
theorem dX0_copy_28 : decode cX0_copy 28 = .ok (.iconst 0, 1) := by decide +kernel
theorem dX0_copy_29 : decode cX0_copy 29 = .ok (.aload_n 0, 1) := by decide +kernel
theorem dX0_copy_30 : decode cX0_copy 30 = .ok (.getfield 9, 3) := by decide +kernel
theorem dX0_copy_33 : decode cX0_copy 33 = .ok (.iconst 0, 1) := by decide +kernel
theorem dX0_copy_34 : decode cX0_copy 34 = .ok (.bipush 6, 2) := by decide +kernel
theorem dX0_copy_36 : decode cX0_copy 36 = .ok (.invokestatic 31, 3) := by decide +kernel
theorem dX0_copy_39 : decode cX0_copy 39 = .ok (.return_, 1) := by decide +kernel
theorem dX0_isServed_0 : decode cX0_isServed 0 = .ok (.aload_n 0, 1) := by decide +kernel
theorem dX0_isServed_1 : decode cX0_isServed 1 = .ok (.getfield 22, 3) := by decide +kernel
theorem dX0_isServed_4 : decode cX0_isServed 4 = .ok (.iload_n 1, 1) := by decide +kernel
theorem dX0_isServed_5 : decode cX0_isServed 5 = .ok (.invokestatic 37, 3) := by decide +kernel
theorem dX0_isServed_8 : decode cX0_isServed 8 = .ok (.ireturn, 1) := by decide +kernel
theorem dX0_servedNumber_0 : decode cX0_servedNumber 0 = .ok (.aload_n 0, 1) := by decide +kernel
theorem dX0_servedNumber_1 : decode cX0_servedNumber 1 = .ok (.getfield 22, 3) := by decide +kernel
theorem dX0_servedNumber_4 : decode cX0_servedNumber 4 = .ok (.invokestatic 41, 3) := by decide +kernel
theorem dX0_servedNumber_7 : decode cX0_servedNumber 7 = .ok (.ireturn, 1) := by decide +kernel
theorem dX0_forgo_0 : decode cX0_forgo 0 = .ok (.aload_n 0, 1) := by decide +kernel
theorem dX0_forgo_1 : decode cX0_forgo 1 = .ok (.getfield 9, 3) := by decide +kernel
theorem dX0_forgo_4 : decode cX0_forgo 4 = .ok (.iload_n 1, 1) := by decide +kernel
theorem dX0_forgo_5 : decode cX0_forgo 5 = .ok (.iconst 0, 1) := by decide +kernel
theorem dX0_forgo_6 : decode cX0_forgo 6 = .ok (.iastore, 1) := by decide +kernel
theorem dX0_forgo_7 : decode cX0_forgo 7 = .ok (.aload_n 0, 1) := by decide +kernel
theorem dX0_forgo_8 : decode cX0_forgo 8 = .ok (.dup, 1) := by decide +kernel
theorem dX0_forgo_9 : decode cX0_forgo 9 = .ok (.getfield 22, 3) := by decide +kernel
theorem dX0_forgo_12 : decode cX0_forgo 12 = .ok (.iconst 1, 1) := by decide +kernel
theorem dX0_forgo_13 : decode cX0_forgo 13 = .ok (.iload_n 1, 1) := by decide +kernel
theorem dX0_forgo_14 : decode cX0_forgo 14 = .ok (.ishl, 1) := by decide +kernel
theorem dX0_forgo_15 : decode cX0_forgo 15 = .ok (.iconst (-1), 1) := by decide +kernel
theorem dX0_forgo_16 : decode cX0_forgo 16 = .ok (.ixor, 1) := by decide +kernel
theorem dX0_forgo_17 : decode cX0_forgo 17 = .ok (.iand, 1) := by decide +kernel
theorem dX0_forgo_18 : decode cX0_forgo 18 = .ok (.putfield 22, 3) := by decide +kernel
theorem dX0_forgo_21 : decode cX0_forgo 21 = .ok (.return_, 1) := by decide +kernel
theorem dX0_pass_0 : decode cX0_pass 0 = .ok (.aload_n 0, 1) := by decide +kernel
theorem dX0_pass_1 : decode cX0_pass 1 = .ok (.invokevirtual 47, 3) := by decide +kernel
theorem dX0_pass_4 : decode cX0_pass 4 = .ok (.istore_n 3, 1) := by decide +kernel
theorem dX0_pass_5 : decode cX0_pass 5 = .ok (.aload_n 0, 1) := by decide +kernel
theorem dX0_pass_6 : decode cX0_pass 6 = .ok (.iload_n 1, 1) := by decide +kernel
theorem dX0_pass_7 : decode cX0_pass 7 = .ok (.putfield 15, 3) := by decide +kernel
theorem dX0_pass_10 : decode cX0_pass 10 = .ok (.aload_n 0, 1) := by decide +kernel
theorem dX0_pass_11 : decode cX0_pass 11 = .ok (.dup, 1) := by decide +kernel
theorem dX0_pass_12 : decode cX0_pass 12 = .ok (.getfield 19, 3) := by decide +kernel
theorem dX0_pass_15 : decode cX0_pass 15 = .ok (.iconst 1, 1) := by decide +kernel
theorem dX0_pass_16 : decode cX0_pass 16 = .ok (.iadd, 1) := by decide +kernel
theorem dX0_pass_17 : decode cX0_pass 17 = .ok (.putfield 19, 3) := by decide +kernel
theorem dX0_pass_20 : decode cX0_pass 20 = .ok (.iconst 0, 1) := by decide +kernel
theorem dX0_pass_21 : decode cX0_pass 21 = .ok (.istore 4, 2) := by decide +kernel
theorem dX0_pass_23 : decode cX0_pass 23 = .ok (.iload 4, 2) := by decide +kernel
theorem dX0_pass_25 : decode cX0_pass 25 = .ok (.aload_n 2, 1) := by decide +kernel
theorem dX0_pass_26 : decode cX0_pass 26 = .ok (.getfield 51, 3) := by decide +kernel
theorem dX0_pass_29 : decode cX0_pass 29 = .ok (.if_icmp .ge 25, 3) := by decide +kernel
theorem dX0_pass_32 : decode cX0_pass 32 = .ok (.aload_n 0, 1) := by decide +kernel
theorem dX0_pass_33 : decode cX0_pass 33 = .ok (.iload 4, 2) := by decide +kernel
theorem dX0_pass_35 : decode cX0_pass 35 = .ok (.invokevirtual 56, 3) := by decide +kernel
theorem dX0_pass_38 : decode cX0_pass 38 = .ok (.ifCond .ne 10, 3) := by decide +kernel
theorem dX0_pass_41 : decode cX0_pass 41 = .ok (.aload_n 0, 1) := by decide +kernel
theorem dX0_pass_42 : decode cX0_pass 42 = .ok (.iload 4, 2) := by decide +kernel
theorem dX0_pass_44 : decode cX0_pass 44 = .ok (.aload_n 2, 1) := by decide +kernel
theorem dX0_pass_45 : decode cX0_pass 45 = .ok (.invokevirtual 60, 3) := by decide +kernel
theorem dX0_pass_48 : decode cX0_pass 48 = .ok (.iinc 4 1, 3) := by decide +kernel
theorem dX0_pass_51 : decode cX0_pass 51 = .ok (.goto (-28), 3) := by decide +kernel
theorem dX0_pass_54 : decode cX0_pass 54 = .ok (.aload_n 0, 1) := by decide +kernel
theorem dX0_pass_55 : decode cX0_pass 55 = .ok (.invokevirtual 47, 3) := by decide +kernel
theorem dX0_pass_58 : decode cX0_pass 58 = .ok (.iload_n 3, 1) := by decide +kernel
theorem dX0_pass_59 : decode cX0_pass 59 = .ok (.isub, 1) := by decide +kernel
theorem dX0_pass_60 : decode cX0_pass 60 = .ok (.ireturn, 1) := by decide +kernel
theorem dX0_meet_0 : decode cX0_meet 0 = .ok (.aload_n 0, 1) := by decide +kernel
theorem dX0_meet_1 : decode cX0_meet 1 = .ok (.getfield 9, 3) := by decide +kernel
theorem dX0_meet_4 : decode cX0_meet 4 = .ok (.iload_n 1, 1) := by decide +kernel
theorem dX0_meet_5 : decode cX0_meet 5 = .ok (.aload_n 2, 1) := by decide +kernel
theorem dX0_meet_6 : decode cX0_meet 6 = .ok (.iload_n 1, 1) := by decide +kernel
theorem dX0_meet_7 : decode cX0_meet 7 = .ok (.aload_n 0, 1) := by decide +kernel
theorem dX0_meet_8 : decode cX0_meet 8 = .ok (.getfield 9, 3) := by decide +kernel
theorem dX0_meet_11 : decode cX0_meet 11 = .ok (.iload_n 1, 1) := by decide +kernel
theorem dX0_meet_12 : decode cX0_meet 12 = .ok (.iaload, 1) := by decide +kernel
theorem dX0_meet_13 : decode cX0_meet 13 = .ok (.aload_n 2, 1) := by decide +kernel
theorem dX0_meet_14 : decode cX0_meet 14 = .ok (.getfield 64, 3) := by decide +kernel
theorem dX0_meet_17 : decode cX0_meet 17 = .ok (.iload_n 1, 1) := by decide +kernel
theorem dX0_meet_18 : decode cX0_meet 18 = .ok (.iaload, 1) := by decide +kernel
theorem dX0_meet_19 : decode cX0_meet 19 = .ok (.aload_n 0, 1) := by decide +kernel
theorem dX0_meet_20 : decode cX0_meet 20 = .ok (.getfield 15, 3) := by decide +kernel
theorem dX0_meet_23 : decode cX0_meet 23 = .ok (.if_icmp .ne 7, 3) := by decide +kernel
theorem dX0_meet_26 : decode cX0_meet 26 = .ok (.iconst 1, 1) := by decide +kernel
theorem dX0_meet_27 : decode cX0_meet 27 = .ok (.goto 4, 3) := by decide +kernel
theorem dX0_meet_30 : decode cX0_meet 30 = .ok (.iconst 0, 1) := by decide +kernel
theorem dX0_meet_31 : decode cX0_meet 31 = .ok (.aload_n 0, 1) := by decide +kernel
theorem dX0_meet_32 : decode cX0_meet 32 = .ok (.getfield 19, 3) := by decide +kernel
theorem dX0_meet_35 : decode cX0_meet 35 = .ok (.invokevirtual 67, 3) := by decide +kernel
theorem dX0_meet_38 : decode cX0_meet 38 = .ok (.iastore, 1) := by decide +kernel
theorem dX0_meet_39 : decode cX0_meet 39 = .ok (.aload_n 0, 1) := by decide +kernel
theorem dX0_meet_40 : decode cX0_meet 40 = .ok (.getfield 9, 3) := by decide +kernel
theorem dX0_meet_43 : decode cX0_meet 43 = .ok (.iload_n 1, 1) := by decide +kernel
theorem dX0_meet_44 : decode cX0_meet 44 = .ok (.iaload, 1) := by decide +kernel
theorem dX0_meet_45 : decode cX0_meet 45 = .ok (.aload_n 2, 1) := by decide +kernel
theorem dX0_meet_46 : decode cX0_meet 46 = .ok (.iload_n 1, 1) := by decide +kernel
theorem dX0_meet_47 : decode cX0_meet 47 = .ok (.invokevirtual 71, 3) := by decide +kernel
theorem dX0_meet_50 : decode cX0_meet 50 = .ok (.if_icmp .lt 15, 3) := by decide +kernel
theorem dX0_meet_53 : decode cX0_meet 53 = .ok (.aload_n 0, 1) := by decide +kernel
theorem dX0_meet_54 : decode cX0_meet 54 = .ok (.dup, 1) := by decide +kernel
theorem dX0_meet_55 : decode cX0_meet 55 = .ok (.getfield 22, 3) := by decide +kernel
theorem dX0_meet_58 : decode cX0_meet 58 = .ok (.iconst 1, 1) := by decide +kernel
theorem dX0_meet_59 : decode cX0_meet 59 = .ok (.iload_n 1, 1) := by decide +kernel
theorem dX0_meet_60 : decode cX0_meet 60 = .ok (.ishl, 1) := by decide +kernel
theorem dX0_meet_61 : decode cX0_meet 61 = .ok (.ior, 1) := by decide +kernel
theorem dX0_meet_62 : decode cX0_meet 62 = .ok (.putfield 22, 3) := by decide +kernel
theorem dX0_meet_65 : decode cX0_meet 65 = .ok (.return_, 1) := by decide +kernel
theorem dX0_countedByAll_0 : decode cX0_countedByAll 0 = .ok (.aload_n 0, 1) := by decide +kernel
theorem dX0_countedByAll_1 : decode cX0_countedByAll 1 = .ok (.iconst 0, 1) := by decide +kernel
theorem dX0_countedByAll_2 : decode cX0_countedByAll 2 = .ok (.invokevirtual 74, 3) := by decide +kernel
theorem dX0_countedByAll_5 : decode cX0_countedByAll 5 = .ok (.ireturn, 1) := by decide +kernel
theorem dX0_countedByUnserved_0 : decode cX0_countedByUnserved 0 = .ok (.aload_n 0, 1) := by decide +kernel
theorem dX0_countedByUnserved_1 : decode cX0_countedByUnserved 1 = .ok (.aload_n 0, 1) := by decide +kernel
theorem dX0_countedByUnserved_2 : decode cX0_countedByUnserved 2 = .ok (.getfield 22, 3) := by decide +kernel
theorem dX0_countedByUnserved_5 : decode cX0_countedByUnserved 5 = .ok (.invokevirtual 74, 3) := by decide +kernel
theorem dX0_countedByUnserved_8 : decode cX0_countedByUnserved 8 = .ok (.ireturn, 1) := by decide +kernel
theorem dX0_countedBy_0 : decode cX0_countedBy 0 = .ok (.iconst 0, 1) := by decide +kernel
theorem dX0_countedBy_1 : decode cX0_countedBy 1 = .ok (.istore_n 2, 1) := by decide +kernel
theorem dX0_countedBy_2 : decode cX0_countedBy 2 = .ok (.iconst 0, 1) := by decide +kernel
theorem dX0_countedBy_3 : decode cX0_countedBy 3 = .ok (.istore_n 3, 1) := by decide +kernel
theorem dX0_countedBy_4 : decode cX0_countedBy 4 = .ok (.iload_n 3, 1) := by decide +kernel
theorem dX0_countedBy_5 : decode cX0_countedBy 5 = .ok (.bipush 6, 2) := by decide +kernel
theorem dX0_countedBy_7 : decode cX0_countedBy 7 = .ok (.if_icmp .ge 26, 3) := by decide +kernel
theorem dX0_countedBy_10 : decode cX0_countedBy 10 = .ok (.iload_n 1, 1) := by decide +kernel
theorem dX0_countedBy_11 : decode cX0_countedBy 11 = .ok (.iload_n 3, 1) := by decide +kernel
theorem dX0_countedBy_12 : decode cX0_countedBy 12 = .ok (.invokestatic 37, 3) := by decide +kernel
theorem dX0_countedBy_15 : decode cX0_countedBy 15 = .ok (.ifCond .ne 12, 3) := by decide +kernel
theorem dX0_countedBy_18 : decode cX0_countedBy 18 = .ok (.iload_n 2, 1) := by decide +kernel
theorem dX0_countedBy_19 : decode cX0_countedBy 19 = .ok (.aload_n 0, 1) := by decide +kernel
theorem dX0_countedBy_20 : decode cX0_countedBy 20 = .ok (.getfield 9, 3) := by decide +kernel
theorem dX0_countedBy_23 : decode cX0_countedBy 23 = .ok (.iload_n 3, 1) := by decide +kernel
theorem dX0_countedBy_24 : decode cX0_countedBy 24 = .ok (.iaload, 1) := by decide +kernel
theorem dX0_countedBy_25 : decode cX0_countedBy 25 = .ok (.iadd, 1) := by decide +kernel
theorem dX0_countedBy_26 : decode cX0_countedBy 26 = .ok (.istore_n 2, 1) := by decide +kernel
theorem dX0_countedBy_27 : decode cX0_countedBy 27 = .ok (.iinc 3 1, 3) := by decide +kernel
theorem dX0_countedBy_30 : decode cX0_countedBy 30 = .ok (.goto (-26), 3) := by decide +kernel
theorem dX0_countedBy_33 : decode cX0_countedBy 33 = .ok (.iload_n 2, 1) := by decide +kernel
theorem dX0_countedBy_34 : decode cX0_countedBy 34 = .ok (.ireturn, 1) := by decide +kernel
theorem dX1_init_0 : decode cX1_init 0 = .ok (.aload_n 0, 1) := by decide +kernel
theorem dX1_init_1 : decode cX1_init 1 = .ok (.invokespecial 3, 3) := by decide +kernel
theorem dX1_init_4 : decode cX1_init 4 = .ok (.aload_n 0, 1) := by decide +kernel
theorem dX1_init_5 : decode cX1_init 5 = .ok (.bipush 6, 2) := by decide +kernel
theorem dX1_init_7 : decode cX1_init 7 = .ok (.newarray .int, 2) := by decide +kernel
theorem dX1_init_9 : decode cX1_init 9 = .ok (.putfield 9, 3) := by decide +kernel
theorem dX1_init_12 : decode cX1_init 12 = .ok (.aload_n 0, 1) := by decide +kernel
theorem dX1_init_13 : decode cX1_init 13 = .ok (.bipush 6, 2) := by decide +kernel
theorem dX1_init_15 : decode cX1_init 15 = .ok (.newarray .int, 2) := by decide +kernel
theorem dX1_init_17 : decode cX1_init 17 = .ok (.putfield 15, 3) := by decide +kernel
theorem dX1_init_20 : decode cX1_init 20 = .ok (.aload_n 0, 1) := by decide +kernel
theorem dX1_init_21 : decode cX1_init 21 = .ok (.bipush 6, 2) := by decide +kernel
theorem dX1_init_23 : decode cX1_init 23 = .ok (.newarray .int, 2) := by decide +kernel
theorem dX1_init_25 : decode cX1_init 25 = .ok (.putfield 18, 3) := by decide +kernel
theorem dX1_init_28 : decode cX1_init 28 = .ok (.aload_n 0, 1) := by decide +kernel
theorem dX1_init_29 : decode cX1_init 29 = .ok (.bipush 6, 2) := by decide +kernel
theorem dX1_init_31 : decode cX1_init 31 = .ok (.newarray .int, 2) := by decide +kernel
theorem dX1_init_33 : decode cX1_init 33 = .ok (.putfield 21, 3) := by decide +kernel
theorem dX1_init_36 : decode cX1_init 36 = .ok (.return_, 1) := by decide +kernel
theorem dX1_settle_0 : decode cX1_settle 0 = .ok (.aload_n 0, 1) := by decide +kernel
theorem dX1_settle_1 : decode cX1_settle 1 = .ok (.aload_n 1, 1) := by decide +kernel
theorem dX1_settle_2 : decode cX1_settle 2 = .ok (.getfield 24, 3) := by decide +kernel
theorem dX1_settle_5 : decode cX1_settle 5 = .ok (.putfield 30, 3) := by decide +kernel
theorem dX1_settle_8 : decode cX1_settle 8 = .ok (.iconst 0, 1) := by decide +kernel
theorem dX1_settle_9 : decode cX1_settle 9 = .ok (.istore_n 2, 1) := by decide +kernel
theorem dX1_settle_10 : decode cX1_settle 10 = .ok (.iload_n 2, 1) := by decide +kernel
theorem dX1_settle_11 : decode cX1_settle 11 = .ok (.aload_n 0, 1) := by decide +kernel
theorem dX1_settle_12 : decode cX1_settle 12 = .ok (.getfield 30, 3) := by decide +kernel
theorem dX1_settle_15 : decode cX1_settle 15 = .ok (.if_icmp .ge 65, 3) := by decide +kernel
theorem dX1_settle_18 : decode cX1_settle 18 = .ok (.aload_n 1, 1) := by decide +kernel
theorem dX1_settle_19 : decode cX1_settle 19 = .ok (.iload_n 2, 1) := by decide +kernel
theorem dX1_settle_20 : decode cX1_settle 20 = .ok (.invokevirtual 33, 3) := by decide +kernel
theorem dX1_settle_23 : decode cX1_settle 23 = .ok (.istore_n 3, 1) := by decide +kernel
theorem dX1_settle_24 : decode cX1_settle 24 = .ok (.aload_n 0, 1) := by decide +kernel
theorem dX1_settle_25 : decode cX1_settle 25 = .ok (.getfield 15, 3) := by decide +kernel
theorem dX1_settle_28 : decode cX1_settle 28 = .ok (.iload_n 2, 1) := by decide +kernel
theorem dX1_settle_29 : decode cX1_settle 29 = .ok (.aload_n 1, 1) := by decide +kernel
theorem dX1_settle_30 : decode cX1_settle 30 = .ok (.iload_n 3, 1) := by decide +kernel
theorem dX1_settle_31 : decode cX1_settle 31 = .ok (.invokevirtual 37, 3) := by decide +kernel
theorem dX1_settle_34 : decode cX1_settle 34 = .ok (.iastore, 1) := by decide +kernel
theorem dX1_settle_35 : decode cX1_settle 35 = .ok (.aload_n 0, 1) := by decide +kernel
theorem dX1_settle_36 : decode cX1_settle 36 = .ok (.getfield 9, 3) := by decide +kernel
theorem dX1_settle_39 : decode cX1_settle 39 = .ok (.iload_n 2, 1) := by decide +kernel
theorem dX1_settle_40 : decode cX1_settle 40 = .ok (.aload_n 1, 1) := by decide +kernel
theorem dX1_settle_41 : decode cX1_settle 41 = .ok (.iload_n 3, 1) := by decide +kernel
theorem dX1_settle_42 : decode cX1_settle 42 = .ok (.iconst 1, 1) := by decide +kernel
theorem dX1_settle_43 : decode cX1_settle 43 = .ok (.iadd, 1) := by decide +kernel
theorem dX1_settle_44 : decode cX1_settle 44 = .ok (.invokevirtual 40, 3) := by decide +kernel
theorem dX1_settle_47 : decode cX1_settle 47 = .ok (.iastore, 1) := by decide +kernel
theorem dX1_settle_48 : decode cX1_settle 48 = .ok (.aload_n 0, 1) := by decide +kernel
theorem dX1_settle_49 : decode cX1_settle 49 = .ok (.getfield 18, 3) := by decide +kernel
theorem dX1_settle_52 : decode cX1_settle 52 = .ok (.iload_n 2, 1) := by decide +kernel
theorem dX1_settle_53 : decode cX1_settle 53 = .ok (.aload_n 1, 1) := by decide +kernel
theorem dX1_settle_54 : decode cX1_settle 54 = .ok (.iload_n 3, 1) := by decide +kernel
theorem dX1_settle_55 : decode cX1_settle 55 = .ok (.iconst 2, 1) := by decide +kernel
theorem dX1_settle_56 : decode cX1_settle 56 = .ok (.iadd, 1) := by decide +kernel
theorem dX1_settle_57 : decode cX1_settle 57 = .ok (.invokevirtual 40, 3) := by decide +kernel
theorem dX1_settle_60 : decode cX1_settle 60 = .ok (.iastore, 1) := by decide +kernel
theorem dX1_settle_61 : decode cX1_settle 61 = .ok (.aload_n 0, 1) := by decide +kernel
theorem dX1_settle_62 : decode cX1_settle 62 = .ok (.getfield 21, 3) := by decide +kernel
theorem dX1_settle_65 : decode cX1_settle 65 = .ok (.iload_n 2, 1) := by decide +kernel
theorem dX1_settle_66 : decode cX1_settle 66 = .ok (.aload_n 1, 1) := by decide +kernel
theorem dX1_settle_67 : decode cX1_settle 67 = .ok (.iload_n 3, 1) := by decide +kernel
theorem dX1_settle_68 : decode cX1_settle 68 = .ok (.iconst 3, 1) := by decide +kernel
theorem dX1_settle_69 : decode cX1_settle 69 = .ok (.iadd, 1) := by decide +kernel
theorem dX1_settle_70 : decode cX1_settle 70 = .ok (.invokevirtual 40, 3) := by decide +kernel
theorem dX1_settle_73 : decode cX1_settle 73 = .ok (.iastore, 1) := by decide +kernel
theorem dX1_settle_74 : decode cX1_settle 74 = .ok (.iinc 2 1, 3) := by decide +kernel
theorem dX1_settle_77 : decode cX1_settle 77 = .ok (.goto (-67), 3) := by decide +kernel
theorem dX1_settle_80 : decode cX1_settle 80 = .ok (.return_, 1) := by decide +kernel
theorem dX1_copy_0 : decode cX1_copy 0 = .ok (.aload_n 0, 1) := by decide +kernel
theorem dX1_copy_1 : decode cX1_copy 1 = .ok (.aload_n 1, 1) := by decide +kernel
theorem dX1_copy_2 : decode cX1_copy 2 = .ok (.getfield 30, 3) := by decide +kernel
theorem dX1_copy_5 : decode cX1_copy 5 = .ok (.putfield 30, 3) := by decide +kernel
theorem dX1_copy_8 : decode cX1_copy 8 = .ok (.aload_n 1, 1) := by decide +kernel
theorem dX1_copy_9 : decode cX1_copy 9 = .ok (.getfield 9, 3) := by decide +kernel
theorem dX1_copy_12 : decode cX1_copy 12 = .ok (.iconst 0, 1) := by decide +kernel
theorem dX1_copy_13 : decode cX1_copy 13 = .ok (.aload_n 0, 1) := by decide +kernel
theorem dX1_copy_14 : decode cX1_copy 14 = .ok (.getfield 9, 3) := by decide +kernel
theorem dX1_copy_17 : decode cX1_copy 17 = .ok (.iconst 0, 1) := by decide +kernel
theorem dX1_copy_18 : decode cX1_copy 18 = .ok (.bipush 6, 2) := by decide +kernel
theorem dX1_copy_20 : decode cX1_copy 20 = .ok (.invokestatic 43, 3) := by decide +kernel
theorem dX1_copy_23 : decode cX1_copy 23 = .ok (.aload_n 1, 1) := by decide +kernel
theorem dX1_copy_24 : decode cX1_copy 24 = .ok (.getfield 15, 3) := by decide +kernel
theorem dX1_copy_27 : decode cX1_copy 27 = .ok (.iconst 0, 1) := by decide +kernel
theorem dX1_copy_28 : decode cX1_copy 28 = .ok (.aload_n 0, 1) := by decide +kernel
theorem dX1_copy_29 : decode cX1_copy 29 = .ok (.getfield 15, 3) := by decide +kernel
theorem dX1_copy_32 : decode cX1_copy 32 = .ok (.iconst 0, 1) := by decide +kernel
theorem dX1_copy_33 : decode cX1_copy 33 = .ok (.bipush 6, 2) := by decide +kernel
theorem dX1_copy_35 : decode cX1_copy 35 = .ok (.invokestatic 43, 3) := by decide +kernel
theorem dX1_copy_38 : decode cX1_copy 38 = .ok (.aload_n 1, 1) := by decide +kernel
theorem dX1_copy_39 : decode cX1_copy 39 = .ok (.getfield 18, 3) := by decide +kernel
theorem dX1_copy_42 : decode cX1_copy 42 = .ok (.iconst 0, 1) := by decide +kernel
theorem dX1_copy_43 : decode cX1_copy 43 = .ok (.aload_n 0, 1) := by decide +kernel
theorem dX1_copy_44 : decode cX1_copy 44 = .ok (.getfield 18, 3) := by decide +kernel
theorem dX1_copy_47 : decode cX1_copy 47 = .ok (.iconst 0, 1) := by decide +kernel
theorem dX1_copy_48 : decode cX1_copy 48 = .ok (.bipush 6, 2) := by decide +kernel
theorem dX1_copy_50 : decode cX1_copy 50 = .ok (.invokestatic 43, 3) := by decide +kernel
theorem dX1_copy_53 : decode cX1_copy 53 = .ok (.aload_n 1, 1) := by decide +kernel
theorem dX1_copy_54 : decode cX1_copy 54 = .ok (.getfield 21, 3) := by decide +kernel
theorem dX1_copy_57 : decode cX1_copy 57 = .ok (.iconst 0, 1) := by decide +kernel
theorem dX1_copy_58 : decode cX1_copy 58 = .ok (.aload_n 0, 1) := by decide +kernel
theorem dX1_copy_59 : decode cX1_copy 59 = .ok (.getfield 21, 3) := by decide +kernel
theorem dX1_copy_62 : decode cX1_copy 62 = .ok (.iconst 0, 1) := by decide +kernel
theorem dX1_copy_63 : decode cX1_copy 63 = .ok (.bipush 6, 2) := by decide +kernel
theorem dX1_copy_65 : decode cX1_copy 65 = .ok (.invokestatic 43, 3) := by decide +kernel
theorem dX1_copy_68 : decode cX1_copy 68 = .ok (.return_, 1) := by decide +kernel
theorem dX1_needs_0 : decode cX1_needs 0 = .ok (.getstatic 49, 3) := by decide +kernel
theorem dX1_needs_3 : decode cX1_needs 3 = .ok (.aload_n 0, 1) := by decide +kernel
theorem dX1_needs_4 : decode cX1_needs 4 = .ok (.getfield 15, 3) := by decide +kernel
theorem dX1_needs_7 : decode cX1_needs 7 = .ok (.iload_n 1, 1) := by decide +kernel
theorem dX1_needs_8 : decode cX1_needs 8 = .ok (.iaload, 1) := by decide +kernel
theorem dX1_needs_9 : decode cX1_needs 9 = .ok (.iaload, 1) := by decide +kernel
theorem dX1_needs_10 : decode cX1_needs 10 = .ok (.ireturn, 1) := by decide +kernel
theorem dX1_isOfKind_0 : decode cX1_isOfKind 0 = .ok (.iload_n 2, 1) := by decide +kernel
theorem dX1_isOfKind_1 : decode cX1_isOfKind 1 = .ok (.ifCond .eq 28, 3) := by decide +kernel
theorem dX1_isOfKind_4 : decode cX1_isOfKind 4 = .ok (.aload_n 0, 1) := by decide +kernel
theorem dX1_isOfKind_5 : decode cX1_isOfKind 5 = .ok (.getfield 15, 3) := by decide +kernel
theorem dX1_isOfKind_8 : decode cX1_isOfKind 8 = .ok (.iload_n 1, 1) := by decide +kernel
theorem dX1_isOfKind_9 : decode cX1_isOfKind 9 = .ok (.iaload, 1) := by decide +kernel
theorem dX1_isOfKind_10 : decode cX1_isOfKind 10 = .ok (.iload_n 2, 1) := by decide +kernel
theorem dX1_isOfKind_11 : decode cX1_isOfKind 11 = .ok (.if_icmp .eq 18, 3) := by decide +kernel
theorem dX1_isOfKind_14 : decode cX1_isOfKind 14 = .ok (.iload_n 2, 1) := by decide +kernel
theorem dX1_isOfKind_15 : decode cX1_isOfKind 15 = .ok (.iconst 1, 1) := by decide +kernel
theorem dX1_isOfKind_16 : decode cX1_isOfKind 16 = .ok (.if_icmp .ne 17, 3) := by decide +kernel
theorem dX1_isOfKind_19 : decode cX1_isOfKind 19 = .ok (.aload_n 0, 1) := by decide +kernel
theorem dX1_isOfKind_20 : decode cX1_isOfKind 20 = .ok (.getfield 15, 3) := by decide +kernel
theorem dX1_isOfKind_23 : decode cX1_isOfKind 23 = .ok (.iload_n 1, 1) := by decide +kernel
theorem dX1_isOfKind_24 : decode cX1_isOfKind 24 = .ok (.iaload, 1) := by decide +kernel
theorem dX1_isOfKind_25 : decode cX1_isOfKind 25 = .ok (.iconst 4, 1) := by decide +kernel
theorem dX1_isOfKind_26 : decode cX1_isOfKind 26 = .ok (.if_icmp .ne 7, 3) := by decide +kernel
theorem dX1_isOfKind_29 : decode cX1_isOfKind 29 = .ok (.iconst 1, 1) := by decide +kernel
theorem dX1_isOfKind_30 : decode cX1_isOfKind 30 = .ok (.goto 4, 3) := by decide +kernel
theorem dX1_isOfKind_33 : decode cX1_isOfKind 33 = .ok (.iconst 0, 1) := by decide +kernel
theorem dX1_isOfKind_34 : decode cX1_isOfKind 34 = .ok (.ireturn, 1) := by decide +kernel
theorem dX1_whoLivesAt_0 : decode cX1_whoLivesAt 0 = .ok (.iconst 0, 1) := by decide +kernel
theorem dX1_whoLivesAt_1 : decode cX1_whoLivesAt 1 = .ok (.istore_n 2, 1) := by decide +kernel
theorem dX1_whoLivesAt_2 : decode cX1_whoLivesAt 2 = .ok (.iconst 0, 1) := by decide +kernel
theorem dX1_whoLivesAt_3 : decode cX1_whoLivesAt 3 = .ok (.istore_n 3, 1) := by decide +kernel
theorem dX1_whoLivesAt_4 : decode cX1_whoLivesAt 4 = .ok (.iload_n 3, 1) := by decide +kernel
theorem dX1_whoLivesAt_5 : decode cX1_whoLivesAt 5 = .ok (.aload_n 0, 1) := by decide +kernel
theorem dX1_whoLivesAt_6 : decode cX1_whoLivesAt 6 = .ok (.getfield 30, 3) := by decide +kernel
theorem dX1_whoLivesAt_9 : decode cX1_whoLivesAt 9 = .ok (.if_icmp .ge 25, 3) := by decide +kernel
theorem dX1_whoLivesAt_12 : decode cX1_whoLivesAt 12 = .ok (.aload_n 0, 1) := by decide +kernel
theorem dX1_whoLivesAt_13 : decode cX1_whoLivesAt 13 = .ok (.getfield 9, 3) := by decide +kernel
theorem dX1_whoLivesAt_16 : decode cX1_whoLivesAt 16 = .ok (.iload_n 3, 1) := by decide +kernel
theorem dX1_whoLivesAt_17 : decode cX1_whoLivesAt 17 = .ok (.iaload, 1) := by decide +kernel
theorem dX1_whoLivesAt_18 : decode cX1_whoLivesAt 18 = .ok (.iload_n 1, 1) := by decide +kernel
theorem dX1_whoLivesAt_19 : decode cX1_whoLivesAt 19 = .ok (.if_icmp .ne 9, 3) := by decide +kernel
theorem dX1_whoLivesAt_22 : decode cX1_whoLivesAt 22 = .ok (.iload_n 2, 1) := by decide +kernel
theorem dX1_whoLivesAt_23 : decode cX1_whoLivesAt 23 = .ok (.iconst 1, 1) := by decide +kernel
theorem dX1_whoLivesAt_24 : decode cX1_whoLivesAt 24 = .ok (.iload_n 3, 1) := by decide +kernel
theorem dX1_whoLivesAt_25 : decode cX1_whoLivesAt 25 = .ok (.ishl, 1) := by decide +kernel
theorem dX1_whoLivesAt_26 : decode cX1_whoLivesAt 26 = .ok (.ior, 1) := by decide +kernel
theorem dX1_whoLivesAt_27 : decode cX1_whoLivesAt 27 = .ok (.istore_n 2, 1) := by decide +kernel
theorem dX1_whoLivesAt_28 : decode cX1_whoLivesAt 28 = .ok (.iinc 3 1, 3) := by decide +kernel
theorem dX1_whoLivesAt_31 : decode cX1_whoLivesAt 31 = .ok (.goto (-27), 3) := by decide +kernel
theorem dX1_whoLivesAt_34 : decode cX1_whoLivesAt 34 = .ok (.iload_n 2, 1) := by decide +kernel
theorem dX1_whoLivesAt_35 : decode cX1_whoLivesAt 35 = .ok (.ireturn, 1) := by decide +kernel
theorem dX1_countedAfter_0 : decode cX1_countedAfter 0 = .ok (.iload_n 3, 1) := by decide +kernel
theorem dX1_countedAfter_1 : decode cX1_countedAfter 1 = .ok (.ifCond .ne 19, 3) := by decide +kernel
theorem dX1_countedAfter_4 : decode cX1_countedAfter 4 = .ok (.aload_n 0, 1) := by decide +kernel
theorem dX1_countedAfter_5 : decode cX1_countedAfter 5 = .ok (.getfield 15, 3) := by decide +kernel
theorem dX1_countedAfter_8 : decode cX1_countedAfter 8 = .ok (.iload_n 1, 1) := by decide +kernel
theorem dX1_countedAfter_9 : decode cX1_countedAfter 9 = .ok (.iaload, 1) := by decide +kernel
theorem dX1_countedAfter_10 : decode cX1_countedAfter 10 = .ok (.iconst 3, 1) := by decide +kernel
theorem dX1_countedAfter_11 : decode cX1_countedAfter 11 = .ok (.if_icmp .ne 7, 3) := by decide +kernel
theorem dX1_countedAfter_14 : decode cX1_countedAfter 14 = .ok (.iconst 0, 1) := by decide +kernel
theorem dX1_countedAfter_15 : decode cX1_countedAfter 15 = .ok (.goto 4, 3) := by decide +kernel
theorem dX1_countedAfter_18 : decode cX1_countedAfter 18 = .ok (.iload_n 2, 1) := by decide +kernel
theorem dX1_countedAfter_19 : decode cX1_countedAfter 19 = .ok (.ireturn, 1) := by decide +kernel
theorem dX1_countedAfter_20 : decode cX1_countedAfter 20 = .ok (.iload 4, 2) := by decide +kernel
theorem dX1_countedAfter_22 : decode cX1_countedAfter 22 = .ok (.aload_n 0, 1) := by decide +kernel
theorem dX1_countedAfter_23 : decode cX1_countedAfter 23 = .ok (.getfield 18, 3) := by decide +kernel
theorem dX1_countedAfter_26 : decode cX1_countedAfter 26 = .ok (.iload_n 1, 1) := by decide +kernel
theorem dX1_countedAfter_27 : decode cX1_countedAfter 27 = .ok (.iaload, 1) := by decide +kernel
theorem dX1_countedAfter_28 : decode cX1_countedAfter 28 = .ok (.if_icmp .lt 24, 3) := by decide +kernel
theorem dX1_countedAfter_31 : decode cX1_countedAfter 31 = .ok (.aload_n 0, 1) := by decide +kernel
theorem dX1_countedAfter_32 : decode cX1_countedAfter 32 = .ok (.getfield 15, 3) := by decide +kernel
theorem dX1_countedAfter_35 : decode cX1_countedAfter 35 = .ok (.iload_n 1, 1) := by decide +kernel
theorem dX1_countedAfter_36 : decode cX1_countedAfter 36 = .ok (.iaload, 1) := by decide +kernel
theorem dX1_countedAfter_37 : decode cX1_countedAfter 37 = .ok (.iconst 2, 1) := by decide +kernel
theorem dX1_countedAfter_38 : decode cX1_countedAfter 38 = .ok (.if_icmp .ne 10, 3) := by decide +kernel
theorem dX1_countedAfter_41 : decode cX1_countedAfter 41 = .ok (.iload 4, 2) := by decide +kernel
theorem dX1_countedAfter_43 : decode cX1_countedAfter 43 = .ok (.iconst 2, 1) := by decide +kernel
theorem dX1_countedAfter_44 : decode cX1_countedAfter 44 = .ok (.irem, 1) := by decide +kernel
theorem dX1_countedAfter_45 : decode cX1_countedAfter 45 = .ok (.ifCond .eq 7, 3) := by decide +kernel
theorem dX1_countedAfter_48 : decode cX1_countedAfter 48 = .ok (.iconst 1, 1) := by decide +kernel
theorem dX1_countedAfter_49 : decode cX1_countedAfter 49 = .ok (.goto 4, 3) := by decide +kernel
theorem dX1_countedAfter_52 : decode cX1_countedAfter 52 = .ok (.iconst 0, 1) := by decide +kernel
theorem dX1_countedAfter_53 : decode cX1_countedAfter 53 = .ok (.istore 5, 2) := by decide +kernel
theorem dX1_countedAfter_55 : decode cX1_countedAfter 55 = .ok (.iload 5, 2) := by decide +kernel
theorem dX1_countedAfter_57 : decode cX1_countedAfter 57 = .ok (.ifCond .eq 9, 3) := by decide +kernel
theorem dX1_countedAfter_60 : decode cX1_countedAfter 60 = .ok (.iload_n 2, 1) := by decide +kernel
theorem dX1_countedAfter_61 : decode cX1_countedAfter 61 = .ok (.iconst 1, 1) := by decide +kernel
theorem dX1_countedAfter_62 : decode cX1_countedAfter 62 = .ok (.iadd, 1) := by decide +kernel
theorem dX1_countedAfter_63 : decode cX1_countedAfter 63 = .ok (.goto 4, 3) := by decide +kernel
theorem dX1_countedAfter_66 : decode cX1_countedAfter 66 = .ok (.iload_n 2, 1) := by decide +kernel
theorem dX1_countedAfter_67 : decode cX1_countedAfter 67 = .ok (.ireturn, 1) := by decide +kernel
theorem dX2_init_0 : decode cX2_init 0 = .ok (.aload_n 0, 1) := by decide +kernel
theorem dX2_init_1 : decode cX2_init 1 = .ok (.invokespecial 3, 3) := by decide +kernel
theorem dX2_init_4 : decode cX2_init 4 = .ok (.aload_n 0, 1) := by decide +kernel
theorem dX2_init_5 : decode cX2_init 5 = .ok (.bipush 6, 2) := by decide +kernel
theorem dX2_init_7 : decode cX2_init 7 = .ok (.newarray .int, 2) := by decide +kernel
theorem dX2_init_9 : decode cX2_init 9 = .ok (.putfield 9, 3) := by decide +kernel
theorem dX2_init_12 : decode cX2_init 12 = .ok (.aload_n 0, 1) := by decide +kernel
theorem dX2_init_13 : decode cX2_init 13 = .ok (.bipush 6, 2) := by decide +kernel
theorem dX2_init_15 : decode cX2_init 15 = .ok (.newarray .boolean, 2) := by decide +kernel
theorem dX2_init_17 : decode cX2_init 17 = .ok (.putfield 15, 3) := by decide +kernel
theorem dX2_init_20 : decode cX2_init 20 = .ok (.return_, 1) := by decide +kernel
theorem dX2_copy_0 : decode cX2_copy 0 = .ok (.aload_n 0, 1) := by decide +kernel
theorem dX2_copy_1 : decode cX2_copy 1 = .ok (.aload_n 1, 1) := by decide +kernel
theorem dX2_copy_2 : decode cX2_copy 2 = .ok (.getfield 19, 3) := by decide +kernel
theorem dX2_copy_5 : decode cX2_copy 5 = .ok (.putfield 19, 3) := by decide +kernel
theorem dX2_copy_8 : decode cX2_copy 8 = .ok (.iconst 0, 1) := by decide +kernel
theorem dX2_copy_9 : decode cX2_copy 9 = .ok (.istore_n 2, 1) := by decide +kernel
theorem dX2_copy_10 : decode cX2_copy 10 = .ok (.iload_n 2, 1) := by decide +kernel
theorem dX2_copy_11 : decode cX2_copy 11 = .ok (.bipush 6, 2) := by decide +kernel
theorem dX2_copy_13 : decode cX2_copy 13 = .ok (.if_icmp .ge 33, 3) := by decide +kernel
theorem dX2_copy_16 : decode cX2_copy 16 = .ok (.aload_n 0, 1) := by decide +kernel
theorem dX2_copy_17 : decode cX2_copy 17 = .ok (.getfield 9, 3) := by decide +kernel
theorem dX2_copy_20 : decode cX2_copy 20 = .ok (.iload_n 2, 1) := by decide +kernel
theorem dX2_copy_21 : decode cX2_copy 21 = .ok (.aload_n 1, 1) := by decide +kernel
theorem dX2_copy_22 : decode cX2_copy 22 = .ok (.getfield 9, 3) := by decide +kernel
theorem dX2_copy_25 : decode cX2_copy 25 = .ok (.iload_n 2, 1) := by decide +kernel
theorem dX2_copy_26 : decode cX2_copy 26 = .ok (.iaload, 1) := by decide +kernel
theorem dX2_copy_27 : decode cX2_copy 27 = .ok (.iastore, 1) := by decide +kernel
theorem dX2_copy_28 : decode cX2_copy 28 = .ok (.aload_n 0, 1) := by decide +kernel
theorem dX2_copy_29 : decode cX2_copy 29 = .ok (.getfield 15, 3) := by decide +kernel
theorem dX2_copy_32 : decode cX2_copy 32 = .ok (.iload_n 2, 1) := by decide +kernel
theorem dX2_copy_33 : decode cX2_copy 33 = .ok (.aload_n 1, 1) := by decide +kernel
theorem dX2_copy_34 : decode cX2_copy 34 = .ok (.getfield 15, 3) := by decide +kernel
theorem dX2_copy_37 : decode cX2_copy 37 = .ok (.iload_n 2, 1) := by decide +kernel
theorem dX2_copy_38 : decode cX2_copy 38 = .ok (.baload, 1) := by decide +kernel
theorem dX2_copy_39 : decode cX2_copy 39 = .ok (.bastore, 1) := by decide +kernel
theorem dX2_copy_40 : decode cX2_copy 40 = .ok (.iinc 2 1, 3) := by decide +kernel
theorem dX2_copy_43 : decode cX2_copy 43 = .ok (.goto (-33), 3) := by decide +kernel
theorem dX2_copy_46 : decode cX2_copy 46 = .ok (.return_, 1) := by decide +kernel
theorem dX3_init_0 : decode cX3_init 0 = .ok (.aload_n 0, 1) := by decide +kernel
theorem dX3_init_1 : decode cX3_init 1 = .ok (.invokespecial 3, 3) := by decide +kernel
theorem dX3_init_4 : decode cX3_init 4 = .ok (.aload_n 0, 1) := by decide +kernel
theorem dX3_init_5 : decode cX3_init 5 = .ok (.bipush 60, 2) := by decide +kernel
theorem dX3_init_7 : decode cX3_init 7 = .ok (.newarray .int, 2) := by decide +kernel
theorem dX3_init_9 : decode cX3_init 9 = .ok (.putfield 9, 3) := by decide +kernel
theorem dX3_init_12 : decode cX3_init 12 = .ok (.return_, 1) := by decide +kernel
theorem dX3_firstFault_0 : decode cX3_firstFault 0 = .ok (.aload_n 0, 1) := by decide +kernel
theorem dX3_firstFault_1 : decode cX3_firstFault 1 = .ok (.iconst 0, 1) := by decide +kernel
theorem dX3_firstFault_2 : decode cX3_firstFault 2 = .ok (.putfield 15, 3) := by decide +kernel
theorem dX3_firstFault_5 : decode cX3_firstFault 5 = .ok (.aload_n 0, 1) := by decide +kernel
theorem dX3_firstFault_6 : decode cX3_firstFault 6 = .ok (.iconst 0, 1) := by decide +kernel
theorem dX3_firstFault_7 : decode cX3_firstFault 7 = .ok (.putfield 19, 3) := by decide +kernel
theorem dX3_firstFault_10 : decode cX3_firstFault 10 = .ok (.aload_n 0, 1) := by decide +kernel
theorem dX3_firstFault_11 : decode cX3_firstFault 11 = .ok (.iconst (-1), 1) := by decide +kernel
theorem dX3_firstFault_12 : decode cX3_firstFault 12 = .ok (.putfield 22, 3) := by decide +kernel
theorem dX3_firstFault_15 : decode cX3_firstFault 15 = .ok (.iconst 0, 1) := by decide +kernel
theorem dX3_firstFault_16 : decode cX3_firstFault 16 = .ok (.istore_n 1, 1) := by decide +kernel
theorem dX3_firstFault_17 : decode cX3_firstFault 17 = .ok (.iload_n 1, 1) := by decide +kernel
theorem dX3_firstFault_18 : decode cX3_firstFault 18 = .ok (.aload_n 0, 1) := by decide +kernel
theorem dX3_firstFault_19 : decode cX3_firstFault 19 = .ok (.getfield 25, 3) := by decide +kernel
theorem dX3_firstFault_22 : decode cX3_firstFault 22 = .ok (.if_icmp .ge 19, 3) := by decide +kernel
theorem dX3_firstFault_25 : decode cX3_firstFault 25 = .ok (.aload_n 0, 1) := by decide +kernel
theorem dX3_firstFault_26 : decode cX3_firstFault 26 = .ok (.iload_n 1, 1) := by decide +kernel
theorem dX3_firstFault_27 : decode cX3_firstFault 27 = .ok (.invokevirtual 28, 3) := by decide +kernel
theorem dX3_firstFault_30 : decode cX3_firstFault 30 = .ok (.ifCond .ne 5, 3) := by decide +kernel
theorem dX3_firstFault_33 : decode cX3_firstFault 33 = .ok (.iload_n 1, 1) := by decide +kernel
theorem dX3_firstFault_34 : decode cX3_firstFault 34 = .ok (.ireturn, 1) := by decide +kernel
theorem dX3_firstFault_35 : decode cX3_firstFault 35 = .ok (.iinc 1 1, 3) := by decide +kernel
theorem dX3_firstFault_38 : decode cX3_firstFault 38 = .ok (.goto (-21), 3) := by decide +kernel
theorem dX3_firstFault_41 : decode cX3_firstFault 41 = .ok (.aload_n 0, 1) := by decide +kernel
theorem dX3_firstFault_42 : decode cX3_firstFault 42 = .ok (.getfield 25, 3) := by decide +kernel
theorem dX3_firstFault_45 : decode cX3_firstFault 45 = .ok (.ireturn, 1) := by decide +kernel
theorem dX3_isSuburb_0 : decode cX3_isSuburb 0 = .ok (.aload_n 0, 1) := by decide +kernel
theorem dX3_isSuburb_1 : decode cX3_isSuburb 1 = .ok (.invokevirtual 32, 3) := by decide +kernel
theorem dX3_isSuburb_4 : decode cX3_isSuburb 4 = .ok (.aload_n 0, 1) := by decide +kernel
theorem dX3_isSuburb_5 : decode cX3_isSuburb 5 = .ok (.getfield 25, 3) := by decide +kernel
theorem dX3_isSuburb_8 : decode cX3_isSuburb 8 = .ok (.if_icmp .ne 32, 3) := by decide +kernel
theorem dX3_isSuburb_11 : decode cX3_isSuburb 11 = .ok (.aload_n 0, 1) := by decide +kernel
theorem dX3_isSuburb_12 : decode cX3_isSuburb 12 = .ok (.getfield 19, 3) := by decide +kernel
theorem dX3_isSuburb_15 : decode cX3_isSuburb 15 = .ok (.iconst 2, 1) := by decide +kernel
theorem dX3_isSuburb_16 : decode cX3_isSuburb 16 = .ok (.if_icmp .lt 24, 3) := by decide +kernel
theorem dX3_isSuburb_19 : decode cX3_isSuburb 19 = .ok (.aload_n 0, 1) := by decide +kernel
theorem dX3_isSuburb_20 : decode cX3_isSuburb 20 = .ok (.getfield 25, 3) := by decide +kernel
theorem dX3_isSuburb_23 : decode cX3_isSuburb 23 = .ok (.aload_n 0, 1) := by decide +kernel
theorem dX3_isSuburb_24 : decode cX3_isSuburb 24 = .ok (.aload_n 0, 1) := by decide +kernel
theorem dX3_isSuburb_25 : decode cX3_isSuburb 25 = .ok (.getfield 19, 3) := by decide +kernel
theorem dX3_isSuburb_28 : decode cX3_isSuburb 28 = .ok (.invokevirtual 36, 3) := by decide +kernel
theorem dX3_isSuburb_31 : decode cX3_isSuburb 31 = .ok (.iconst 1, 1) := by decide +kernel
theorem dX3_isSuburb_32 : decode cX3_isSuburb 32 = .ok (.isub, 1) := by decide +kernel
theorem dX3_isSuburb_33 : decode cX3_isSuburb 33 = .ok (.if_icmp .ne 7, 3) := by decide +kernel
theorem dX3_isSuburb_36 : decode cX3_isSuburb 36 = .ok (.iconst 1, 1) := by decide +kernel
theorem dX3_isSuburb_37 : decode cX3_isSuburb 37 = .ok (.goto 4, 3) := by decide +kernel
theorem dX3_isSuburb_40 : decode cX3_isSuburb 40 = .ok (.iconst 0, 1) := by decide +kernel
theorem dX3_isSuburb_41 : decode cX3_isSuburb 41 = .ok (.ireturn, 1) := by decide +kernel
theorem dX3_roadStart_0 : decode cX3_roadStart 0 = .ok (.iconst 3, 1) := by decide +kernel
theorem dX3_roadStart_1 : decode cX3_roadStart 1 = .ok (.iconst 3, 1) := by decide +kernel
theorem dX3_roadStart_2 : decode cX3_roadStart 2 = .ok (.iload_n 1, 1) := by decide +kernel
theorem dX3_roadStart_3 : decode cX3_roadStart 3 = .ok (.imul, 1) := by decide +kernel
theorem dX3_roadStart_4 : decode cX3_roadStart 4 = .ok (.iadd, 1) := by decide +kernel
theorem dX3_roadStart_5 : decode cX3_roadStart 5 = .ok (.ireturn, 1) := by decide +kernel
theorem dX3_personStart_0 : decode cX3_personStart 0 = .ok (.aload_n 0, 1) := by decide +kernel
theorem dX3_personStart_1 : decode cX3_personStart 1 = .ok (.getfield 22, 3) := by decide +kernel
theorem dX3_personStart_4 : decode cX3_personStart 4 = .ok (.iconst 5, 1) := by decide +kernel
theorem dX3_personStart_5 : decode cX3_personStart 5 = .ok (.iload_n 1, 1) := by decide +kernel
theorem dX3_personStart_6 : decode cX3_personStart 6 = .ok (.imul, 1) := by decide +kernel
theorem dX3_personStart_7 : decode cX3_personStart 7 = .ok (.iadd, 1) := by decide +kernel
theorem dX3_personStart_8 : decode cX3_personStart 8 = .ok (.ireturn, 1) := by decide +kernel
theorem dX3_digitAt_0 : decode cX3_digitAt 0 = .ok (.iload_n 1, 1) := by decide +kernel
theorem dX3_digitAt_1 : decode cX3_digitAt 1 = .ok (.ifCond .lt 23, 3) := by decide +kernel
theorem dX3_digitAt_4 : decode cX3_digitAt 4 = .ok (.iload_n 1, 1) := by decide +kernel
theorem dX3_digitAt_5 : decode cX3_digitAt 5 = .ok (.aload_n 0, 1) := by decide +kernel
theorem dX3_digitAt_6 : decode cX3_digitAt 6 = .ok (.getfield 25, 3) := by decide +kernel
theorem dX3_digitAt_9 : decode cX3_digitAt 9 = .ok (.if_icmp .ge 15, 3) := by decide +kernel
theorem dX3_digitAt_12 : decode cX3_digitAt 12 = .ok (.aload_n 0, 1) := by decide +kernel
theorem dX3_digitAt_13 : decode cX3_digitAt 13 = .ok (.getfield 9, 3) := by decide +kernel
theorem dX3_digitAt_16 : decode cX3_digitAt 16 = .ok (.iload_n 1, 1) := by decide +kernel
theorem dX3_digitAt_17 : decode cX3_digitAt 17 = .ok (.iaload, 1) := by decide +kernel
theorem dX3_digitAt_18 : decode cX3_digitAt 18 = .ok (.bipush 48, 2) := by decide +kernel
theorem dX3_digitAt_20 : decode cX3_digitAt 20 = .ok (.isub, 1) := by decide +kernel
theorem dX3_digitAt_21 : decode cX3_digitAt 21 = .ok (.goto 4, 3) := by decide +kernel
theorem dX3_digitAt_24 : decode cX3_digitAt 24 = .ok (.iconst 0, 1) := by decide +kernel
theorem dX3_digitAt_25 : decode cX3_digitAt 25 = .ok (.ireturn, 1) := by decide +kernel
theorem dX3_kindAt_0 : decode cX3_kindAt 0 = .ok (.iload_n 1, 1) := by decide +kernel
theorem dX3_kindAt_1 : decode cX3_kindAt 1 = .ok (.ifCond .lt 26, 3) := by decide +kernel
theorem dX3_kindAt_4 : decode cX3_kindAt 4 = .ok (.iload_n 1, 1) := by decide +kernel
theorem dX3_kindAt_5 : decode cX3_kindAt 5 = .ok (.aload_n 0, 1) := by decide +kernel
theorem dX3_kindAt_6 : decode cX3_kindAt 6 = .ok (.getfield 25, 3) := by decide +kernel
theorem dX3_kindAt_9 : decode cX3_kindAt 9 = .ok (.if_icmp .ge 18, 3) := by decide +kernel
theorem dX3_kindAt_12 : decode cX3_kindAt 12 = .ok (.ldc 40, 2) := by decide +kernel
theorem dX3_kindAt_14 : decode cX3_kindAt 14 = .ok (.aload_n 0, 1) := by decide +kernel
theorem dX3_kindAt_15 : decode cX3_kindAt 15 = .ok (.getfield 9, 3) := by decide +kernel
theorem dX3_kindAt_18 : decode cX3_kindAt 18 = .ok (.iload_n 1, 1) := by decide +kernel
theorem dX3_kindAt_19 : decode cX3_kindAt 19 = .ok (.iaload, 1) := by decide +kernel
theorem dX3_kindAt_20 : decode cX3_kindAt 20 = .ok (.i2c, 1) := by decide +kernel
theorem dX3_kindAt_21 : decode cX3_kindAt 21 = .ok (.invokevirtual 42, 3) := by decide +kernel
theorem dX3_kindAt_24 : decode cX3_kindAt 24 = .ok (.goto 4, 3) := by decide +kernel
theorem dX3_kindAt_27 : decode cX3_kindAt 27 = .ok (.iconst (-1), 1) := by decide +kernel
theorem dX3_kindAt_28 : decode cX3_kindAt 28 = .ok (.ireturn, 1) := by decide +kernel
theorem dX3_takes_0 : decode cX3_takes 0 = .ok (.iload_n 1, 1) := by decide +kernel
theorem dX3_takes_1 : decode cX3_takes 1 = .ok (.iconst 3, 1) := by decide +kernel
theorem dX3_takes_2 : decode cX3_takes 2 = .ok (.if_icmp .ge 9, 3) := by decide +kernel
theorem dX3_takes_5 : decode cX3_takes 5 = .ok (.aload_n 0, 1) := by decide +kernel
theorem dX3_takes_6 : decode cX3_takes 6 = .ok (.iload_n 1, 1) := by decide +kernel
theorem dX3_takes_7 : decode cX3_takes 7 = .ok (.invokevirtual 47, 3) := by decide +kernel
theorem dX3_takes_10 : decode cX3_takes 10 = .ok (.ireturn, 1) := by decide +kernel
theorem dX3_takes_11 : decode cX3_takes 11 = .ok (.aload_n 0, 1) := by decide +kernel
theorem dX3_takes_12 : decode cX3_takes 12 = .ok (.getfield 22, 3) := by decide +kernel
theorem dX3_takes_15 : decode cX3_takes 15 = .ok (.iconst (-1), 1) := by decide +kernel
theorem dX3_takes_16 : decode cX3_takes 16 = .ok (.if_icmp .ne 11, 3) := by decide +kernel
theorem dX3_takes_19 : decode cX3_takes 19 = .ok (.aload_n 0, 1) := by decide +kernel
theorem dX3_takes_20 : decode cX3_takes 20 = .ok (.iload_n 1, 1) := by decide +kernel
theorem dX3_takes_21 : decode cX3_takes 21 = .ok (.invokevirtual 50, 3) := by decide +kernel
theorem dX3_takes_24 : decode cX3_takes 24 = .ok (.goto 8, 3) := by decide +kernel
theorem dX3_takes_27 : decode cX3_takes 27 = .ok (.aload_n 0, 1) := by decide +kernel
theorem dX3_takes_28 : decode cX3_takes 28 = .ok (.iload_n 1, 1) := by decide +kernel
theorem dX3_takes_29 : decode cX3_takes 29 = .ok (.invokevirtual 53, 3) := by decide +kernel
theorem dX3_takes_32 : decode cX3_takes 32 = .ok (.ireturn, 1) := by decide +kernel
theorem dX3_takesHead_0 : decode cX3_takesHead 0 = .ok (.iload_n 1, 1) := by decide +kernel
theorem dX3_takesHead_1 : decode cX3_takesHead 1 = .ok (.lookupswitch 45 #[(0, 27), (1, 39)], 27) := by decide +kernel
theorem dX3_takesHead_28 : decode cX3_takesHead 28 = .ok (.aload_n 0, 1) := by decide +kernel
theorem dX3_takesHead_29 : decode cX3_takesHead 29 = .ok (.iconst 0, 1) := by decide +kernel
theorem dX3_takesHead_30 : decode cX3_takesHead 30 = .ok (.invokevirtual 56, 3) := by decide +kernel
theorem dX3_takesHead_33 : decode cX3_takesHead 33 = .ok (.iconst 2, 1) := by decide +kernel
theorem dX3_takesHead_34 : decode cX3_takesHead 34 = .ok (.bipush 6, 2) := by decide +kernel
theorem dX3_takesHead_36 : decode cX3_takesHead 36 = .ok (.invokestatic 59, 3) := by decide +kernel
theorem dX3_takesHead_39 : decode cX3_takesHead 39 = .ok (.ireturn, 1) := by decide +kernel
theorem dX3_takesHead_40 : decode cX3_takesHead 40 = .ok (.aload_n 0, 1) := by decide +kernel
theorem dX3_takesHead_41 : decode cX3_takesHead 41 = .ok (.iconst 1, 1) := by decide +kernel
theorem dX3_takesHead_42 : decode cX3_takesHead 42 = .ok (.invokevirtual 63, 3) := by decide +kernel
theorem dX3_takesHead_45 : decode cX3_takesHead 45 = .ok (.ireturn, 1) := by decide +kernel
theorem dX3_takesHead_46 : decode cX3_takesHead 46 = .ok (.aload_n 0, 1) := by decide +kernel
theorem dX3_takesHead_47 : decode cX3_takesHead 47 = .ok (.getfield 9, 3) := by decide +kernel
theorem dX3_takesHead_50 : decode cX3_takesHead 50 = .ok (.iload_n 1, 1) := by decide +kernel
theorem dX3_takesHead_51 : decode cX3_takesHead 51 = .ok (.iaload, 1) := by decide +kernel
theorem dX3_takesHead_52 : decode cX3_takesHead 52 = .ok (.bipush 59, 2) := by decide +kernel
theorem dX3_takesHead_54 : decode cX3_takesHead 54 = .ok (.if_icmp .ne 7, 3) := by decide +kernel
theorem dX3_takesHead_57 : decode cX3_takesHead 57 = .ok (.iconst 1, 1) := by decide +kernel
theorem dX3_takesHead_58 : decode cX3_takesHead 58 = .ok (.goto 4, 3) := by decide +kernel
theorem dX3_takesHead_61 : decode cX3_takesHead 61 = .ok (.iconst 0, 1) := by decide +kernel
theorem dX3_takesHead_62 : decode cX3_takesHead 62 = .ok (.ireturn, 1) := by decide +kernel
theorem dX3_takesRoads_0 : decode cX3_takesRoads 0 = .ok (.iload_n 1, 1) := by decide +kernel
theorem dX3_takesRoads_1 : decode cX3_takesRoads 1 = .ok (.iconst 3, 1) := by decide +kernel
theorem dX3_takesRoads_2 : decode cX3_takesRoads 2 = .ok (.isub, 1) := by decide +kernel
theorem dX3_takesRoads_3 : decode cX3_takesRoads 3 = .ok (.iconst 3, 1) := by decide +kernel
theorem dX3_takesRoads_4 : decode cX3_takesRoads 4 = .ok (.irem, 1) := by decide +kernel
theorem dX3_takesRoads_5 : decode cX3_takesRoads 5 = .ok (.istore_n 2, 1) := by decide +kernel
theorem dX3_takesRoads_6 : decode cX3_takesRoads 6 = .ok (.iload_n 2, 1) := by decide +kernel
theorem dX3_takesRoads_7 : decode cX3_takesRoads 7 = .ok (.ifCond .ne 9, 3) := by decide +kernel
theorem dX3_takesRoads_10 : decode cX3_takesRoads 10 = .ok (.aload_n 0, 1) := by decide +kernel
theorem dX3_takesRoads_11 : decode cX3_takesRoads 11 = .ok (.iload_n 1, 1) := by decide +kernel
theorem dX3_takesRoads_12 : decode cX3_takesRoads 12 = .ok (.invokevirtual 63, 3) := by decide +kernel
theorem dX3_takesRoads_15 : decode cX3_takesRoads 15 = .ok (.ireturn, 1) := by decide +kernel
theorem dX3_takesRoads_16 : decode cX3_takesRoads 16 = .ok (.iload_n 2, 1) := by decide +kernel
theorem dX3_takesRoads_17 : decode cX3_takesRoads 17 = .ok (.iconst 1, 1) := by decide +kernel
theorem dX3_takesRoads_18 : decode cX3_takesRoads 18 = .ok (.if_icmp .ne 34, 3) := by decide +kernel
theorem dX3_takesRoads_21 : decode cX3_takesRoads 21 = .ok (.aload_n 0, 1) := by decide +kernel
theorem dX3_takesRoads_22 : decode cX3_takesRoads 22 = .ok (.iload_n 1, 1) := by decide +kernel
theorem dX3_takesRoads_23 : decode cX3_takesRoads 23 = .ok (.invokevirtual 63, 3) := by decide +kernel
theorem dX3_takesRoads_26 : decode cX3_takesRoads 26 = .ok (.ifCond .eq 24, 3) := by decide +kernel
theorem dX3_takesRoads_29 : decode cX3_takesRoads 29 = .ok (.aload_n 0, 1) := by decide +kernel
theorem dX3_takesRoads_30 : decode cX3_takesRoads 30 = .ok (.getfield 9, 3) := by decide +kernel
theorem dX3_takesRoads_33 : decode cX3_takesRoads 33 = .ok (.iload_n 1, 1) := by decide +kernel
theorem dX3_takesRoads_34 : decode cX3_takesRoads 34 = .ok (.iaload, 1) := by decide +kernel
theorem dX3_takesRoads_35 : decode cX3_takesRoads 35 = .ok (.aload_n 0, 1) := by decide +kernel
theorem dX3_takesRoads_36 : decode cX3_takesRoads 36 = .ok (.getfield 9, 3) := by decide +kernel
theorem dX3_takesRoads_39 : decode cX3_takesRoads 39 = .ok (.iload_n 1, 1) := by decide +kernel
theorem dX3_takesRoads_40 : decode cX3_takesRoads 40 = .ok (.iconst 1, 1) := by decide +kernel
theorem dX3_takesRoads_41 : decode cX3_takesRoads 41 = .ok (.isub, 1) := by decide +kernel
theorem dX3_takesRoads_42 : decode cX3_takesRoads 42 = .ok (.iaload, 1) := by decide +kernel
theorem dX3_takesRoads_43 : decode cX3_takesRoads 43 = .ok (.if_icmp .eq 7, 3) := by decide +kernel
theorem dX3_takesRoads_46 : decode cX3_takesRoads 46 = .ok (.iconst 1, 1) := by decide +kernel
theorem dX3_takesRoads_47 : decode cX3_takesRoads 47 = .ok (.goto 4, 3) := by decide +kernel
theorem dX3_takesRoads_50 : decode cX3_takesRoads 50 = .ok (.iconst 0, 1) := by decide +kernel
theorem dX3_takesRoads_51 : decode cX3_takesRoads 51 = .ok (.ireturn, 1) := by decide +kernel
theorem dX3_takesRoads_52 : decode cX3_takesRoads 52 = .ok (.aload_n 0, 1) := by decide +kernel
theorem dX3_takesRoads_53 : decode cX3_takesRoads 53 = .ok (.dup, 1) := by decide +kernel
theorem dX3_takesRoads_54 : decode cX3_takesRoads 54 = .ok (.getfield 15, 3) := by decide +kernel
theorem dX3_takesRoads_57 : decode cX3_takesRoads 57 = .ok (.iconst 1, 1) := by decide +kernel
theorem dX3_takesRoads_58 : decode cX3_takesRoads 58 = .ok (.iadd, 1) := by decide +kernel
theorem dX3_takesRoads_59 : decode cX3_takesRoads 59 = .ok (.putfield 15, 3) := by decide +kernel
theorem dX3_takesRoads_62 : decode cX3_takesRoads 62 = .ok (.aload_n 0, 1) := by decide +kernel
theorem dX3_takesRoads_63 : decode cX3_takesRoads 63 = .ok (.getfield 9, 3) := by decide +kernel
theorem dX3_takesRoads_66 : decode cX3_takesRoads 66 = .ok (.iload_n 1, 1) := by decide +kernel
theorem dX3_takesRoads_67 : decode cX3_takesRoads 67 = .ok (.iaload, 1) := by decide +kernel
theorem dX3_takesRoads_68 : decode cX3_takesRoads 68 = .ok (.bipush 59, 2) := by decide +kernel
theorem dX3_takesRoads_70 : decode cX3_takesRoads 70 = .ok (.if_icmp .ne 12, 3) := by decide +kernel
theorem dX3_takesRoads_73 : decode cX3_takesRoads 73 = .ok (.aload_n 0, 1) := by decide +kernel
theorem dX3_takesRoads_74 : decode cX3_takesRoads 74 = .ok (.iload_n 1, 1) := by decide +kernel
theorem dX3_takesRoads_75 : decode cX3_takesRoads 75 = .ok (.iconst 1, 1) := by decide +kernel
theorem dX3_takesRoads_76 : decode cX3_takesRoads 76 = .ok (.iadd, 1) := by decide +kernel
theorem dX3_takesRoads_77 : decode cX3_takesRoads 77 = .ok (.putfield 22, 3) := by decide +kernel
theorem dX3_takesRoads_80 : decode cX3_takesRoads 80 = .ok (.iconst 1, 1) := by decide +kernel
theorem dX3_takesRoads_81 : decode cX3_takesRoads 81 = .ok (.ireturn, 1) := by decide +kernel
theorem dX3_takesRoads_82 : decode cX3_takesRoads 82 = .ok (.aload_n 0, 1) := by decide +kernel
theorem dX3_takesRoads_83 : decode cX3_takesRoads 83 = .ok (.getfield 9, 3) := by decide +kernel
theorem dX3_takesRoads_86 : decode cX3_takesRoads 86 = .ok (.iload_n 1, 1) := by decide +kernel
theorem dX3_takesRoads_87 : decode cX3_takesRoads 87 = .ok (.iaload, 1) := by decide +kernel
theorem dX3_takesRoads_88 : decode cX3_takesRoads 88 = .ok (.bipush 44, 2) := by decide +kernel
theorem dX3_takesRoads_90 : decode cX3_takesRoads 90 = .ok (.if_icmp .ne 16, 3) := by decide +kernel
theorem dX3_takesRoads_93 : decode cX3_takesRoads 93 = .ok (.aload_n 0, 1) := by decide +kernel
theorem dX3_takesRoads_94 : decode cX3_takesRoads 94 = .ok (.getfield 15, 3) := by decide +kernel
theorem dX3_takesRoads_97 : decode cX3_takesRoads 97 = .ok (.bipush 8, 2) := by decide +kernel
theorem dX3_takesRoads_99 : decode cX3_takesRoads 99 = .ok (.if_icmp .ge 7, 3) := by decide +kernel
theorem dX3_takesRoads_102 : decode cX3_takesRoads 102 = .ok (.iconst 1, 1) := by decide +kernel
theorem dX3_takesRoads_103 : decode cX3_takesRoads 103 = .ok (.goto 4, 3) := by decide +kernel
theorem dX3_takesRoads_106 : decode cX3_takesRoads 106 = .ok (.iconst 0, 1) := by decide +kernel
theorem dX3_takesRoads_107 : decode cX3_takesRoads 107 = .ok (.ireturn, 1) := by decide +kernel
theorem dX3_takesPeople_0 : decode cX3_takesPeople 0 = .ok (.iload_n 1, 1) := by decide +kernel
theorem dX3_takesPeople_1 : decode cX3_takesPeople 1 = .ok (.aload_n 0, 1) := by decide +kernel
theorem dX3_takesPeople_2 : decode cX3_takesPeople 2 = .ok (.getfield 22, 3) := by decide +kernel
theorem dX3_takesPeople_5 : decode cX3_takesPeople 5 = .ok (.isub, 1) := by decide +kernel
theorem dX3_takesPeople_6 : decode cX3_takesPeople 6 = .ok (.iconst 5, 1) := by decide +kernel
theorem dX3_takesPeople_7 : decode cX3_takesPeople 7 = .ok (.irem, 1) := by decide +kernel
theorem dX3_takesPeople_8 : decode cX3_takesPeople 8 = .ok (.tableswitch 75 0 3 #[32, 47, 53, 59], 32) := by decide +kernel
theorem dX3_takesPeople_40 : decode cX3_takesPeople 40 = .ok (.aload_n 0, 1) := by decide +kernel
theorem dX3_takesPeople_41 : decode cX3_takesPeople 41 = .ok (.iload_n 1, 1) := by decide +kernel
theorem dX3_takesPeople_42 : decode cX3_takesPeople 42 = .ok (.invokevirtual 66, 3) := by decide +kernel
theorem dX3_takesPeople_45 : decode cX3_takesPeople 45 = .ok (.iconst (-1), 1) := by decide +kernel
theorem dX3_takesPeople_46 : decode cX3_takesPeople 46 = .ok (.if_icmp .eq 7, 3) := by decide +kernel
theorem dX3_takesPeople_49 : decode cX3_takesPeople 49 = .ok (.iconst 1, 1) := by decide +kernel
theorem dX3_takesPeople_50 : decode cX3_takesPeople 50 = .ok (.goto 4, 3) := by decide +kernel
theorem dX3_takesPeople_53 : decode cX3_takesPeople 53 = .ok (.iconst 0, 1) := by decide +kernel
theorem dX3_takesPeople_54 : decode cX3_takesPeople 54 = .ok (.ireturn, 1) := by decide +kernel
theorem dX3_takesPeople_55 : decode cX3_takesPeople 55 = .ok (.aload_n 0, 1) := by decide +kernel
theorem dX3_takesPeople_56 : decode cX3_takesPeople 56 = .ok (.iload_n 1, 1) := by decide +kernel
theorem dX3_takesPeople_57 : decode cX3_takesPeople 57 = .ok (.invokevirtual 63, 3) := by decide +kernel
theorem dX3_takesPeople_60 : decode cX3_takesPeople 60 = .ok (.ireturn, 1) := by decide +kernel
theorem dX3_takesPeople_61 : decode cX3_takesPeople 61 = .ok (.aload_n 0, 1) := by decide +kernel
theorem dX3_takesPeople_62 : decode cX3_takesPeople 62 = .ok (.iload_n 1, 1) := by decide +kernel
theorem dX3_takesPeople_63 : decode cX3_takesPeople 63 = .ok (.invokevirtual 69, 3) := by decide +kernel
theorem dX3_takesPeople_66 : decode cX3_takesPeople 66 = .ok (.ireturn, 1) := by decide +kernel
theorem dX3_takesPeople_67 : decode cX3_takesPeople 67 = .ok (.aload_n 0, 1) := by decide +kernel
theorem dX3_takesPeople_68 : decode cX3_takesPeople 68 = .ok (.dup, 1) := by decide +kernel
theorem dX3_takesPeople_69 : decode cX3_takesPeople 69 = .ok (.getfield 19, 3) := by decide +kernel
theorem dX3_takesPeople_72 : decode cX3_takesPeople 72 = .ok (.iconst 1, 1) := by decide +kernel
theorem dX3_takesPeople_73 : decode cX3_takesPeople 73 = .ok (.iadd, 1) := by decide +kernel
theorem dX3_takesPeople_74 : decode cX3_takesPeople 74 = .ok (.putfield 19, 3) := by decide +kernel
theorem dX3_takesPeople_77 : decode cX3_takesPeople 77 = .ok (.aload_n 0, 1) := by decide +kernel
theorem dX3_takesPeople_78 : decode cX3_takesPeople 78 = .ok (.iload_n 1, 1) := by decide +kernel
theorem dX3_takesPeople_79 : decode cX3_takesPeople 79 = .ok (.invokevirtual 69, 3) := by decide +kernel
theorem dX3_takesPeople_82 : decode cX3_takesPeople 82 = .ok (.ireturn, 1) := by decide +kernel
theorem dX3_takesPeople_83 : decode cX3_takesPeople 83 = .ok (.aload_n 0, 1) := by decide +kernel
theorem dX3_takesPeople_84 : decode cX3_takesPeople 84 = .ok (.getfield 9, 3) := by decide +kernel
theorem dX3_takesPeople_87 : decode cX3_takesPeople 87 = .ok (.iload_n 1, 1) := by decide +kernel
theorem dX3_takesPeople_88 : decode cX3_takesPeople 88 = .ok (.iaload, 1) := by decide +kernel
theorem dX3_takesPeople_89 : decode cX3_takesPeople 89 = .ok (.bipush 44, 2) := by decide +kernel
theorem dX3_takesPeople_91 : decode cX3_takesPeople 91 = .ok (.if_icmp .ne 16, 3) := by decide +kernel
theorem dX3_takesPeople_94 : decode cX3_takesPeople 94 = .ok (.aload_n 0, 1) := by decide +kernel
theorem dX3_takesPeople_95 : decode cX3_takesPeople 95 = .ok (.getfield 19, 3) := by decide +kernel
theorem dX3_takesPeople_98 : decode cX3_takesPeople 98 = .ok (.bipush 6, 2) := by decide +kernel
theorem dX3_takesPeople_100 : decode cX3_takesPeople 100 = .ok (.if_icmp .ge 7, 3) := by decide +kernel
theorem dX3_takesPeople_103 : decode cX3_takesPeople 103 = .ok (.iconst 1, 1) := by decide +kernel
theorem dX3_takesPeople_104 : decode cX3_takesPeople 104 = .ok (.goto 4, 3) := by decide +kernel
theorem dX3_takesPeople_107 : decode cX3_takesPeople 107 = .ok (.iconst 0, 1) := by decide +kernel
theorem dX3_takesPeople_108 : decode cX3_takesPeople 108 = .ok (.ireturn, 1) := by decide +kernel
theorem dX3_isDigitAt_0 : decode cX3_isDigitAt 0 = .ok (.aload_n 0, 1) := by decide +kernel
theorem dX3_isDigitAt_1 : decode cX3_isDigitAt 1 = .ok (.iload_n 1, 1) := by decide +kernel
theorem dX3_isDigitAt_2 : decode cX3_isDigitAt 2 = .ok (.invokevirtual 56, 3) := by decide +kernel
theorem dX3_isDigitAt_5 : decode cX3_isDigitAt 5 = .ok (.iconst 0, 1) := by decide +kernel
theorem dX3_isDigitAt_6 : decode cX3_isDigitAt 6 = .ok (.bipush 9, 2) := by decide +kernel
theorem dX3_isDigitAt_8 : decode cX3_isDigitAt 8 = .ok (.invokestatic 59, 3) := by decide +kernel
theorem dX3_isDigitAt_11 : decode cX3_isDigitAt 11 = .ok (.ireturn, 1) := by decide +kernel
theorem dX3_isCornerAt_0 : decode cX3_isCornerAt 0 = .ok (.aload_n 0, 1) := by decide +kernel
theorem dX3_isCornerAt_1 : decode cX3_isCornerAt 1 = .ok (.iload_n 1, 1) := by decide +kernel
theorem dX3_isCornerAt_2 : decode cX3_isCornerAt 2 = .ok (.invokevirtual 56, 3) := by decide +kernel
theorem dX3_isCornerAt_5 : decode cX3_isCornerAt 5 = .ok (.iconst 0, 1) := by decide +kernel
theorem dX3_isCornerAt_6 : decode cX3_isCornerAt 6 = .ok (.aload_n 0, 1) := by decide +kernel
theorem dX3_isCornerAt_7 : decode cX3_isCornerAt 7 = .ok (.iconst 0, 1) := by decide +kernel
theorem dX3_isCornerAt_8 : decode cX3_isCornerAt 8 = .ok (.invokevirtual 56, 3) := by decide +kernel
theorem dX3_isCornerAt_11 : decode cX3_isCornerAt 11 = .ok (.iconst 1, 1) := by decide +kernel
theorem dX3_isCornerAt_12 : decode cX3_isCornerAt 12 = .ok (.isub, 1) := by decide +kernel
theorem dX3_isCornerAt_13 : decode cX3_isCornerAt 13 = .ok (.invokestatic 59, 3) := by decide +kernel
theorem dX3_isCornerAt_16 : decode cX3_isCornerAt 16 = .ok (.ireturn, 1) := by decide +kernel
theorem dX4_init_0 : decode cX4_init 0 = .ok (.aload_n 0, 1) := by decide +kernel
theorem dX4_init_1 : decode cX4_init 1 = .ok (.invokespecial 3, 3) := by decide +kernel
theorem dX4_init_4 : decode cX4_init 4 = .ok (.aload_n 0, 1) := by decide +kernel
theorem dX4_init_5 : decode cX4_init 5 = .ok (.iconst 5, 1) := by decide +kernel
theorem dX4_init_6 : decode cX4_init 6 = .ok (.newarray .int, 2) := by decide +kernel
theorem dX4_init_8 : decode cX4_init 8 = .ok (.putfield 9, 3) := by decide +kernel
theorem dX4_init_11 : decode cX4_init 11 = .ok (.aload_n 0, 1) := by decide +kernel
theorem dX4_init_12 : decode cX4_init 12 = .ok (.iconst 5, 1) := by decide +kernel
theorem dX4_init_13 : decode cX4_init 13 = .ok (.newarray .int, 2) := by decide +kernel
theorem dX4_init_15 : decode cX4_init 15 = .ok (.putfield 15, 3) := by decide +kernel
theorem dX4_init_18 : decode cX4_init 18 = .ok (.aload_n 0, 1) := by decide +kernel
theorem dX4_init_19 : decode cX4_init 19 = .ok (.bipush 6, 2) := by decide +kernel
theorem dX4_init_21 : decode cX4_init 21 = .ok (.anewarray 18, 3) := by decide +kernel
theorem dX4_init_24 : decode cX4_init 24 = .ok (.putfield 20, 3) := by decide +kernel
theorem dX4_init_27 : decode cX4_init 27 = .ok (.iconst 0, 1) := by decide +kernel
theorem dX4_init_28 : decode cX4_init 28 = .ok (.istore_n 1, 1) := by decide +kernel
theorem dX4_init_29 : decode cX4_init 29 = .ok (.iload_n 1, 1) := by decide +kernel
theorem dX4_init_30 : decode cX4_init 30 = .ok (.iconst 5, 1) := by decide +kernel
theorem dX4_init_31 : decode cX4_init 31 = .ok (.if_icmp .gt 22, 3) := by decide +kernel
theorem dX4_init_34 : decode cX4_init 34 = .ok (.aload_n 0, 1) := by decide +kernel
theorem dX4_init_35 : decode cX4_init 35 = .ok (.getfield 20, 3) := by decide +kernel
theorem dX4_init_38 : decode cX4_init 38 = .ok (.iload_n 1, 1) := by decide +kernel
theorem dX4_init_39 : decode cX4_init 39 = .ok (.new 18, 3) := by decide +kernel
theorem dX4_init_42 : decode cX4_init 42 = .ok (.dup, 1) := by decide +kernel
theorem dX4_init_43 : decode cX4_init 43 = .ok (.invokespecial 24, 3) := by decide +kernel
theorem dX4_init_46 : decode cX4_init 46 = .ok (.aastore, 1) := by decide +kernel
theorem dX4_init_47 : decode cX4_init 47 = .ok (.iinc 1 1, 3) := by decide +kernel
theorem dX4_init_50 : decode cX4_init 50 = .ok (.goto (-21), 3) := by decide +kernel
theorem dX4_init_53 : decode cX4_init 53 = .ok (.return_, 1) := by decide +kernel
theorem dX4_run_0 : decode cX4_run 0 = .ok (.aload_n 0, 1) := by decide +kernel
theorem dX4_run_1 : decode cX4_run 1 = .ok (.iconst (-1), 1) := by decide +kernel
theorem dX4_run_2 : decode cX4_run 2 = .ok (.putfield 25, 3) := by decide +kernel
theorem dX4_run_5 : decode cX4_run 5 = .ok (.aload_n 0, 1) := by decide +kernel
theorem dX4_run_6 : decode cX4_run 6 = .ok (.iconst (-1), 1) := by decide +kernel
theorem dX4_run_7 : decode cX4_run 7 = .ok (.putfield 29, 3) := by decide +kernel
theorem dX4_run_10 : decode cX4_run 10 = .ok (.aload_n 0, 1) := by decide +kernel
theorem dX4_run_11 : decode cX4_run 11 = .ok (.getfield 20, 3) := by decide +kernel
theorem dX4_run_14 : decode cX4_run 14 = .ok (.iconst 0, 1) := by decide +kernel
theorem dX4_run_15 : decode cX4_run 15 = .ok (.aaload, 1) := by decide +kernel
theorem dX4_run_16 : decode cX4_run 16 = .ok (.aload_n 3, 1) := by decide +kernel
theorem dX4_run_17 : decode cX4_run 17 = .ok (.invokevirtual 32, 3) := by decide +kernel
theorem dX4_run_20 : decode cX4_run 20 = .ok (.aload_n 0, 1) := by decide +kernel
theorem dX4_run_21 : decode cX4_run 21 = .ok (.aload_n 1, 1) := by decide +kernel
theorem dX4_run_22 : decode cX4_run 22 = .ok (.aload_n 2, 1) := by decide +kernel
theorem dX4_run_23 : decode cX4_run 23 = .ok (.iconst 0, 1) := by decide +kernel
theorem dX4_run_24 : decode cX4_run 24 = .ok (.iload 4, 2) := by decide +kernel
theorem dX4_run_26 : decode cX4_run 26 = .ok (.invokevirtual 36, 3) := by decide +kernel
theorem dX4_run_29 : decode cX4_run 29 = .ok (.return_, 1) := by decide +kernel
theorem dX4_extend_0 : decode cX4_extend 0 = .ok (.iload_n 3, 1) := by decide +kernel
theorem dX4_extend_1 : decode cX4_extend 1 = .ok (.iload 4, 2) := by decide +kernel
theorem dX4_extend_3 : decode cX4_extend 3 = .ok (.if_icmp .ge 8, 3) := by decide +kernel
theorem dX4_extend_6 : decode cX4_extend 6 = .ok (.iload_n 3, 1) := by decide +kernel
theorem dX4_extend_7 : decode cX4_extend 7 = .ok (.iconst 5, 1) := by decide +kernel
theorem dX4_extend_8 : decode cX4_extend 8 = .ok (.if_icmp .lt 14, 3) := by decide +kernel
theorem dX4_extend_11 : decode cX4_extend 11 = .ok (.aload_n 0, 1) := by decide +kernel
theorem dX4_extend_12 : decode cX4_extend 12 = .ok (.aload_n 0, 1) := by decide +kernel
theorem dX4_extend_13 : decode cX4_extend 13 = .ok (.getfield 20, 3) := by decide +kernel
theorem dX4_extend_16 : decode cX4_extend 16 = .ok (.iload_n 3, 1) := by decide +kernel
theorem dX4_extend_17 : decode cX4_extend 17 = .ok (.aaload, 1) := by decide +kernel
theorem dX4_extend_18 : decode cX4_extend 18 = .ok (.invokevirtual 40, 3) := by decide +kernel
theorem dX4_extend_21 : decode cX4_extend 21 = .ok (.return_, 1) := by decide +kernel
theorem dX4_extend_22 : decode cX4_extend 22 = .ok (.aload_n 0, 1) := by decide +kernel
theorem dX4_extend_23 : decode cX4_extend 23 = .ok (.getfield 20, 3) := by decide +kernel
theorem dX4_extend_26 : decode cX4_extend 26 = .ok (.iload_n 3, 1) := by decide +kernel
theorem dX4_extend_27 : decode cX4_extend 27 = .ok (.aaload, 1) := by decide +kernel
theorem dX4_extend_28 : decode cX4_extend 28 = .ok (.astore 5, 2) := by decide +kernel
theorem dX4_extend_30 : decode cX4_extend 30 = .ok (.aload_n 0, 1) := by decide +kernel
theorem dX4_extend_31 : decode cX4_extend 31 = .ok (.getfield 20, 3) := by decide +kernel
theorem dX4_extend_34 : decode cX4_extend 34 = .ok (.iload_n 3, 1) := by decide +kernel
theorem dX4_extend_35 : decode cX4_extend 35 = .ok (.iconst 1, 1) := by decide +kernel
theorem dX4_extend_36 : decode cX4_extend 36 = .ok (.iadd, 1) := by decide +kernel
theorem dX4_extend_37 : decode cX4_extend 37 = .ok (.aaload, 1) := by decide +kernel
theorem dX4_extend_38 : decode cX4_extend 38 = .ok (.astore 6, 2) := by decide +kernel
theorem dX4_extend_40 : decode cX4_extend 40 = .ok (.iconst 0, 1) := by decide +kernel
theorem dX4_extend_41 : decode cX4_extend 41 = .ok (.istore 7, 2) := by decide +kernel
theorem dX4_extend_43 : decode cX4_extend 43 = .ok (.iload 7, 2) := by decide +kernel
theorem dX4_extend_45 : decode cX4_extend 45 = .ok (.aload_n 1, 1) := by decide +kernel
theorem dX4_extend_46 : decode cX4_extend 46 = .ok (.getfield 43, 3) := by decide +kernel
theorem dX4_extend_49 : decode cX4_extend 49 = .ok (.if_icmp .ge 62, 3) := by decide +kernel
theorem dX4_extend_52 : decode cX4_extend 52 = .ok (.aload_n 1, 1) := by decide +kernel
theorem dX4_extend_53 : decode cX4_extend 53 = .ok (.getfield 48, 3) := by decide +kernel
theorem dX4_extend_56 : decode cX4_extend 56 = .ok (.aload 5, 2) := by decide +kernel
theorem dX4_extend_58 : decode cX4_extend 58 = .ok (.getfield 51, 3) := by decide +kernel
theorem dX4_extend_61 : decode cX4_extend 61 = .ok (.iaload, 1) := by decide +kernel
theorem dX4_extend_62 : decode cX4_extend 62 = .ok (.iload 7, 2) := by decide +kernel
theorem dX4_extend_64 : decode cX4_extend 64 = .ok (.invokestatic 54, 3) := by decide +kernel
theorem dX4_extend_67 : decode cX4_extend 67 = .ok (.ifCond .eq 38, 3) := by decide +kernel
theorem dX4_extend_70 : decode cX4_extend 70 = .ok (.aload_n 0, 1) := by decide +kernel
theorem dX4_extend_71 : decode cX4_extend 71 = .ok (.getfield 15, 3) := by decide +kernel
theorem dX4_extend_74 : decode cX4_extend 74 = .ok (.iload_n 3, 1) := by decide +kernel
theorem dX4_extend_75 : decode cX4_extend 75 = .ok (.iload 7, 2) := by decide +kernel
theorem dX4_extend_77 : decode cX4_extend 77 = .ok (.iastore, 1) := by decide +kernel
theorem dX4_extend_78 : decode cX4_extend 78 = .ok (.aload 6, 2) := by decide +kernel
theorem dX4_extend_80 : decode cX4_extend 80 = .ok (.aload 5, 2) := by decide +kernel
theorem dX4_extend_82 : decode cX4_extend 82 = .ok (.invokevirtual 32, 3) := by decide +kernel
theorem dX4_extend_85 : decode cX4_extend 85 = .ok (.aload 6, 2) := by decide +kernel
theorem dX4_extend_87 : decode cX4_extend 87 = .ok (.iload 7, 2) := by decide +kernel
theorem dX4_extend_89 : decode cX4_extend 89 = .ok (.aload_n 2, 1) := by decide +kernel
theorem dX4_extend_90 : decode cX4_extend 90 = .ok (.invokevirtual 58, 3) := by decide +kernel
theorem dX4_extend_93 : decode cX4_extend 93 = .ok (.pop, 1) := by decide +kernel
theorem dX4_extend_94 : decode cX4_extend 94 = .ok (.aload_n 0, 1) := by decide +kernel
theorem dX4_extend_95 : decode cX4_extend 95 = .ok (.aload_n 1, 1) := by decide +kernel
theorem dX4_extend_96 : decode cX4_extend 96 = .ok (.aload_n 2, 1) := by decide +kernel
theorem dX4_extend_97 : decode cX4_extend 97 = .ok (.iload_n 3, 1) := by decide +kernel
theorem dX4_extend_98 : decode cX4_extend 98 = .ok (.iconst 1, 1) := by decide +kernel
theorem dX4_extend_99 : decode cX4_extend 99 = .ok (.iadd, 1) := by decide +kernel
theorem dX4_extend_100 : decode cX4_extend 100 = .ok (.iload 4, 2) := by decide +kernel
theorem dX4_extend_102 : decode cX4_extend 102 = .ok (.invokevirtual 36, 3) := by decide +kernel
theorem dX4_extend_105 : decode cX4_extend 105 = .ok (.iinc 7 1, 3) := by decide +kernel
theorem dX4_extend_108 : decode cX4_extend 108 = .ok (.goto (-65), 3) := by decide +kernel
theorem dX4_extend_111 : decode cX4_extend 111 = .ok (.return_, 1) := by decide +kernel
theorem dX4_judge_0 : decode cX4_judge 0 = .ok (.aload_n 1, 1) := by decide +kernel
theorem dX4_judge_1 : decode cX4_judge 1 = .ok (.invokevirtual 62, 3) := by decide +kernel
theorem dX4_judge_4 : decode cX4_judge 4 = .ok (.aload_n 0, 1) := by decide +kernel
theorem dX4_judge_5 : decode cX4_judge 5 = .ok (.getfield 20, 3) := by decide +kernel
theorem dX4_judge_8 : decode cX4_judge 8 = .ok (.iconst 0, 1) := by decide +kernel
theorem dX4_judge_9 : decode cX4_judge 9 = .ok (.aaload, 1) := by decide +kernel
theorem dX4_judge_10 : decode cX4_judge 10 = .ok (.invokevirtual 62, 3) := by decide +kernel
theorem dX4_judge_13 : decode cX4_judge 13 = .ok (.isub, 1) := by decide +kernel
theorem dX4_judge_14 : decode cX4_judge 14 = .ok (.istore_n 2, 1) := by decide +kernel
theorem dX4_judge_15 : decode cX4_judge 15 = .ok (.aload_n 1, 1) := by decide +kernel
theorem dX4_judge_16 : decode cX4_judge 16 = .ok (.invokevirtual 66, 3) := by decide +kernel
theorem dX4_judge_19 : decode cX4_judge 19 = .ok (.istore_n 3, 1) := by decide +kernel
theorem dX4_judge_20 : decode cX4_judge 20 = .ok (.iload_n 2, 1) := by decide +kernel
theorem dX4_judge_21 : decode cX4_judge 21 = .ok (.aload_n 0, 1) := by decide +kernel
theorem dX4_judge_22 : decode cX4_judge 22 = .ok (.getfield 25, 3) := by decide +kernel
theorem dX4_judge_25 : decode cX4_judge 25 = .ok (.if_icmp .gt 19, 3) := by decide +kernel
theorem dX4_judge_28 : decode cX4_judge 28 = .ok (.iload_n 2, 1) := by decide +kernel
theorem dX4_judge_29 : decode cX4_judge 29 = .ok (.aload_n 0, 1) := by decide +kernel
theorem dX4_judge_30 : decode cX4_judge 30 = .ok (.getfield 25, 3) := by decide +kernel
theorem dX4_judge_33 : decode cX4_judge 33 = .ok (.if_icmp .ne 35, 3) := by decide +kernel
theorem dX4_judge_36 : decode cX4_judge 36 = .ok (.iload_n 3, 1) := by decide +kernel
theorem dX4_judge_37 : decode cX4_judge 37 = .ok (.aload_n 0, 1) := by decide +kernel
theorem dX4_judge_38 : decode cX4_judge 38 = .ok (.getfield 29, 3) := by decide +kernel
theorem dX4_judge_41 : decode cX4_judge 41 = .ok (.if_icmp .le 27, 3) := by decide +kernel
theorem dX4_judge_44 : decode cX4_judge 44 = .ok (.aload_n 0, 1) := by decide +kernel
theorem dX4_judge_45 : decode cX4_judge 45 = .ok (.iload_n 2, 1) := by decide +kernel
theorem dX4_judge_46 : decode cX4_judge 46 = .ok (.putfield 25, 3) := by decide +kernel
theorem dX4_judge_49 : decode cX4_judge 49 = .ok (.aload_n 0, 1) := by decide +kernel
theorem dX4_judge_50 : decode cX4_judge 50 = .ok (.iload_n 3, 1) := by decide +kernel
theorem dX4_judge_51 : decode cX4_judge 51 = .ok (.putfield 29, 3) := by decide +kernel
theorem dX4_judge_54 : decode cX4_judge 54 = .ok (.aload_n 0, 1) := by decide +kernel
theorem dX4_judge_55 : decode cX4_judge 55 = .ok (.getfield 15, 3) := by decide +kernel
theorem dX4_judge_58 : decode cX4_judge 58 = .ok (.iconst 0, 1) := by decide +kernel
theorem dX4_judge_59 : decode cX4_judge 59 = .ok (.aload_n 0, 1) := by decide +kernel
theorem dX4_judge_60 : decode cX4_judge 60 = .ok (.getfield 9, 3) := by decide +kernel
theorem dX4_judge_63 : decode cX4_judge 63 = .ok (.iconst 0, 1) := by decide +kernel
theorem dX4_judge_64 : decode cX4_judge 64 = .ok (.iconst 5, 1) := by decide +kernel
theorem dX4_judge_65 : decode cX4_judge 65 = .ok (.invokestatic 69, 3) := by decide +kernel
theorem dX4_judge_68 : decode cX4_judge 68 = .ok (.return_, 1) := by decide +kernel
theorem dX5_init_0 : decode cX5_init 0 = .ok (.aload_n 0, 1) := by decide +kernel
theorem dX5_init_1 : decode cX5_init 1 = .ok (.invokespecial 3, 3) := by decide +kernel
theorem dX5_init_4 : decode cX5_init 4 = .ok (.aload_n 0, 1) := by decide +kernel
theorem dX5_init_5 : decode cX5_init 5 = .ok (.bipush 6, 2) := by decide +kernel
theorem dX5_init_7 : decode cX5_init 7 = .ok (.newarray .long, 2) := by decide +kernel
theorem dX5_init_9 : decode cX5_init 9 = .ok (.putfield 9, 3) := by decide +kernel
theorem dX5_init_12 : decode cX5_init 12 = .ok (.aload_n 0, 1) := by decide +kernel
theorem dX5_init_13 : decode cX5_init 13 = .ok (.bipush 6, 2) := by decide +kernel
theorem dX5_init_15 : decode cX5_init 15 = .ok (.newarray .long, 2) := by decide +kernel
theorem dX5_init_17 : decode cX5_init 17 = .ok (.putfield 15, 3) := by decide +kernel
theorem dX5_init_20 : decode cX5_init 20 = .ok (.return_, 1) := by decide +kernel
theorem dX5_run_0 : decode cX5_run 0 = .ok (.aload_n 0, 1) := by decide +kernel
theorem dX5_run_1 : decode cX5_run 1 = .ok (.getfield 9, 3) := by decide +kernel
theorem dX5_run_4 : decode cX5_run 4 = .ok (.lconst 0, 1) := by decide +kernel
theorem dX5_run_5 : decode cX5_run 5 = .ok (.invokestatic 18, 3) := by decide +kernel
theorem dX5_run_8 : decode cX5_run 8 = .ok (.aload_n 0, 1) := by decide +kernel
theorem dX5_run_9 : decode cX5_run 9 = .ok (.getfield 9, 3) := by decide +kernel
theorem dX5_run_12 : decode cX5_run 12 = .ok (.iload_n 2, 1) := by decide +kernel
theorem dX5_run_13 : decode cX5_run 13 = .ok (.lconst 1, 1) := by decide +kernel
theorem dX5_run_14 : decode cX5_run 14 = .ok (.lastore, 1) := by decide +kernel
theorem dX5_run_15 : decode cX5_run 15 = .ok (.aload_n 0, 1) := by decide +kernel
theorem dX5_run_16 : decode cX5_run 16 = .ok (.lconst 1, 1) := by decide +kernel
theorem dX5_run_17 : decode cX5_run 17 = .ok (.putfield 24, 3) := by decide +kernel
theorem dX5_run_20 : decode cX5_run 20 = .ok (.iconst 0, 1) := by decide +kernel
theorem dX5_run_21 : decode cX5_run 21 = .ok (.istore 4, 2) := by decide +kernel
theorem dX5_run_23 : decode cX5_run 23 = .ok (.iload 4, 2) := by decide +kernel
theorem dX5_run_25 : decode cX5_run 25 = .ok (.iload_n 3, 1) := by decide +kernel
theorem dX5_run_26 : decode cX5_run 26 = .ok (.if_icmp .ge 26, 3) := by decide +kernel
theorem dX5_run_29 : decode cX5_run 29 = .ok (.aload_n 0, 1) := by decide +kernel
theorem dX5_run_30 : decode cX5_run 30 = .ok (.aload_n 1, 1) := by decide +kernel
theorem dX5_run_31 : decode cX5_run 31 = .ok (.invokevirtual 28, 3) := by decide +kernel
theorem dX5_run_34 : decode cX5_run 34 = .ok (.aload_n 0, 1) := by decide +kernel
theorem dX5_run_35 : decode cX5_run 35 = .ok (.dup, 1) := by decide +kernel
theorem dX5_run_36 : decode cX5_run 36 = .ok (.getfield 24, 3) := by decide +kernel
theorem dX5_run_39 : decode cX5_run 39 = .ok (.ldc2_w 32, 3) := by decide +kernel
theorem dX5_run_42 : decode cX5_run 42 = .ok (.lmul, 1) := by decide +kernel
theorem dX5_run_43 : decode cX5_run 43 = .ok (.putfield 24, 3) := by decide +kernel
theorem dX5_run_46 : decode cX5_run 46 = .ok (.iinc 4 1, 3) := by decide +kernel
theorem dX5_run_49 : decode cX5_run 49 = .ok (.goto (-26), 3) := by decide +kernel
theorem dX5_run_52 : decode cX5_run 52 = .ok (.return_, 1) := by decide +kernel
theorem dX5_above_0 : decode cX5_above 0 = .ok (.aload_n 0, 1) := by decide +kernel
theorem dX5_above_1 : decode cX5_above 1 = .ok (.getfield 9, 3) := by decide +kernel
theorem dX5_above_4 : decode cX5_above 4 = .ok (.iload_n 1, 1) := by decide +kernel
theorem dX5_above_5 : decode cX5_above 5 = .ok (.laload, 1) := by decide +kernel
theorem dX5_above_6 : decode cX5_above 6 = .ok (.aload_n 0, 1) := by decide +kernel
theorem dX5_above_7 : decode cX5_above 7 = .ok (.iload_n 1, 1) := by decide +kernel
theorem dX5_above_8 : decode cX5_above 8 = .ok (.invokevirtual 34, 3) := by decide +kernel
theorem dX5_above_11 : decode cX5_above 11 = .ok (.ldiv, 1) := by decide +kernel
theorem dX5_above_12 : decode cX5_above 12 = .ok (.l2i, 1) := by decide +kernel
theorem dX5_above_13 : decode cX5_above 13 = .ok (.ireturn, 1) := by decide +kernel
theorem dX5_below_0 : decode cX5_below 0 = .ok (.aload_n 0, 1) := by decide +kernel
theorem dX5_below_1 : decode cX5_below 1 = .ok (.getfield 24, 3) := by decide +kernel
theorem dX5_below_4 : decode cX5_below 4 = .ok (.aload_n 0, 1) := by decide +kernel
theorem dX5_below_5 : decode cX5_below 5 = .ok (.iload_n 1, 1) := by decide +kernel
theorem dX5_below_6 : decode cX5_below 6 = .ok (.invokevirtual 34, 3) := by decide +kernel
theorem dX5_below_9 : decode cX5_below 9 = .ok (.ldiv, 1) := by decide +kernel
theorem dX5_below_10 : decode cX5_below 10 = .ok (.l2i, 1) := by decide +kernel
theorem dX5_below_11 : decode cX5_below 11 = .ok (.ireturn, 1) := by decide +kernel
theorem dX5_scatter_0 : decode cX5_scatter 0 = .ok (.iconst 0, 1) := by decide +kernel
theorem dX5_scatter_1 : decode cX5_scatter 1 = .ok (.istore_n 2, 1) := by decide +kernel
theorem dX5_scatter_2 : decode cX5_scatter 2 = .ok (.iload_n 2, 1) := by decide +kernel
theorem dX5_scatter_3 : decode cX5_scatter 3 = .ok (.aload_n 1, 1) := by decide +kernel
theorem dX5_scatter_4 : decode cX5_scatter 4 = .ok (.getfield 38, 3) := by decide +kernel
theorem dX5_scatter_7 : decode cX5_scatter 7 = .ok (.if_icmp .ge 38, 3) := by decide +kernel
theorem dX5_scatter_10 : decode cX5_scatter 10 = .ok (.aload_n 0, 1) := by decide +kernel
theorem dX5_scatter_11 : decode cX5_scatter 11 = .ok (.getfield 15, 3) := by decide +kernel
theorem dX5_scatter_14 : decode cX5_scatter 14 = .ok (.iload_n 2, 1) := by decide +kernel
theorem dX5_scatter_15 : decode cX5_scatter 15 = .ok (.aload_n 1, 1) := by decide +kernel
theorem dX5_scatter_16 : decode cX5_scatter 16 = .ok (.getfield 44, 3) := by decide +kernel
theorem dX5_scatter_19 : decode cX5_scatter 19 = .ok (.iload_n 2, 1) := by decide +kernel
theorem dX5_scatter_20 : decode cX5_scatter 20 = .ok (.iaload, 1) := by decide +kernel
theorem dX5_scatter_21 : decode cX5_scatter 21 = .ok (.ifCond .ne 16, 3) := by decide +kernel
theorem dX5_scatter_24 : decode cX5_scatter 24 = .ok (.aload_n 0, 1) := by decide +kernel
theorem dX5_scatter_25 : decode cX5_scatter 25 = .ok (.getfield 9, 3) := by decide +kernel
theorem dX5_scatter_28 : decode cX5_scatter 28 = .ok (.iload_n 2, 1) := by decide +kernel
theorem dX5_scatter_29 : decode cX5_scatter 29 = .ok (.laload, 1) := by decide +kernel
theorem dX5_scatter_30 : decode cX5_scatter 30 = .ok (.ldc2_w 32, 3) := by decide +kernel
theorem dX5_scatter_33 : decode cX5_scatter 33 = .ok (.lmul, 1) := by decide +kernel
theorem dX5_scatter_34 : decode cX5_scatter 34 = .ok (.goto 4, 3) := by decide +kernel
theorem dX5_scatter_37 : decode cX5_scatter 37 = .ok (.lconst 0, 1) := by decide +kernel
theorem dX5_scatter_38 : decode cX5_scatter 38 = .ok (.lastore, 1) := by decide +kernel
theorem dX5_scatter_39 : decode cX5_scatter 39 = .ok (.iinc 2 1, 3) := by decide +kernel
theorem dX5_scatter_42 : decode cX5_scatter 42 = .ok (.goto (-40), 3) := by decide +kernel
theorem dX5_scatter_45 : decode cX5_scatter 45 = .ok (.iconst 0, 1) := by decide +kernel
theorem dX5_scatter_46 : decode cX5_scatter 46 = .ok (.istore_n 2, 1) := by decide +kernel
theorem dX5_scatter_47 : decode cX5_scatter 47 = .ok (.iload_n 2, 1) := by decide +kernel
theorem dX5_scatter_48 : decode cX5_scatter 48 = .ok (.aload_n 1, 1) := by decide +kernel
theorem dX5_scatter_49 : decode cX5_scatter 49 = .ok (.getfield 48, 3) := by decide +kernel
theorem dX5_scatter_52 : decode cX5_scatter 52 = .ok (.if_icmp .ge 56, 3) := by decide +kernel
theorem dX5_scatter_55 : decode cX5_scatter 55 = .ok (.aload_n 1, 1) := by decide +kernel
theorem dX5_scatter_56 : decode cX5_scatter 56 = .ok (.getfield 51, 3) := by decide +kernel
theorem dX5_scatter_59 : decode cX5_scatter 59 = .ok (.iload_n 2, 1) := by decide +kernel
theorem dX5_scatter_60 : decode cX5_scatter 60 = .ok (.iaload, 1) := by decide +kernel
theorem dX5_scatter_61 : decode cX5_scatter 61 = .ok (.istore_n 3, 1) := by decide +kernel
theorem dX5_scatter_62 : decode cX5_scatter 62 = .ok (.aload_n 1, 1) := by decide +kernel
theorem dX5_scatter_63 : decode cX5_scatter 63 = .ok (.getfield 54, 3) := by decide +kernel
theorem dX5_scatter_66 : decode cX5_scatter 66 = .ok (.iload_n 2, 1) := by decide +kernel
theorem dX5_scatter_67 : decode cX5_scatter 67 = .ok (.iaload, 1) := by decide +kernel
theorem dX5_scatter_68 : decode cX5_scatter 68 = .ok (.istore 4, 2) := by decide +kernel
theorem dX5_scatter_70 : decode cX5_scatter 70 = .ok (.aload_n 0, 1) := by decide +kernel
theorem dX5_scatter_71 : decode cX5_scatter 71 = .ok (.getfield 15, 3) := by decide +kernel
theorem dX5_scatter_74 : decode cX5_scatter 74 = .ok (.iload 4, 2) := by decide +kernel
theorem dX5_scatter_76 : decode cX5_scatter 76 = .ok (.dup2, 1) := by decide +kernel
theorem dX5_scatter_77 : decode cX5_scatter 77 = .ok (.laload, 1) := by decide +kernel
theorem dX5_scatter_78 : decode cX5_scatter 78 = .ok (.aload_n 0, 1) := by decide +kernel
theorem dX5_scatter_79 : decode cX5_scatter 79 = .ok (.aload_n 1, 1) := by decide +kernel
theorem dX5_scatter_80 : decode cX5_scatter 80 = .ok (.iload_n 3, 1) := by decide +kernel
theorem dX5_scatter_81 : decode cX5_scatter 81 = .ok (.invokevirtual 57, 3) := by decide +kernel
theorem dX5_scatter_84 : decode cX5_scatter 84 = .ok (.ladd, 1) := by decide +kernel
theorem dX5_scatter_85 : decode cX5_scatter 85 = .ok (.lastore, 1) := by decide +kernel
theorem dX5_scatter_86 : decode cX5_scatter 86 = .ok (.aload_n 0, 1) := by decide +kernel
theorem dX5_scatter_87 : decode cX5_scatter 87 = .ok (.getfield 15, 3) := by decide +kernel
theorem dX5_scatter_90 : decode cX5_scatter 90 = .ok (.iload_n 3, 1) := by decide +kernel
theorem dX5_scatter_91 : decode cX5_scatter 91 = .ok (.dup2, 1) := by decide +kernel
theorem dX5_scatter_92 : decode cX5_scatter 92 = .ok (.laload, 1) := by decide +kernel
theorem dX5_scatter_93 : decode cX5_scatter 93 = .ok (.aload_n 0, 1) := by decide +kernel
theorem dX5_scatter_94 : decode cX5_scatter 94 = .ok (.aload_n 1, 1) := by decide +kernel
theorem dX5_scatter_95 : decode cX5_scatter 95 = .ok (.iload 4, 2) := by decide +kernel
theorem dX5_scatter_97 : decode cX5_scatter 97 = .ok (.invokevirtual 57, 3) := by decide +kernel
theorem dX5_scatter_100 : decode cX5_scatter 100 = .ok (.ladd, 1) := by decide +kernel
theorem dX5_scatter_101 : decode cX5_scatter 101 = .ok (.lastore, 1) := by decide +kernel
theorem dX5_scatter_102 : decode cX5_scatter 102 = .ok (.iinc 2 1, 3) := by decide +kernel
theorem dX5_scatter_105 : decode cX5_scatter 105 = .ok (.goto (-58), 3) := by decide +kernel
theorem dX5_scatter_108 : decode cX5_scatter 108 = .ok (.aload_n 0, 1) := by decide +kernel
theorem dX5_scatter_109 : decode cX5_scatter 109 = .ok (.getfield 15, 3) := by decide +kernel
theorem dX5_scatter_112 : decode cX5_scatter 112 = .ok (.iconst 0, 1) := by decide +kernel
theorem dX5_scatter_113 : decode cX5_scatter 113 = .ok (.aload_n 0, 1) := by decide +kernel
theorem dX5_scatter_114 : decode cX5_scatter 114 = .ok (.getfield 9, 3) := by decide +kernel
theorem dX5_scatter_117 : decode cX5_scatter 117 = .ok (.iconst 0, 1) := by decide +kernel
theorem dX5_scatter_118 : decode cX5_scatter 118 = .ok (.aload_n 1, 1) := by decide +kernel
theorem dX5_scatter_119 : decode cX5_scatter 119 = .ok (.getfield 38, 3) := by decide +kernel
theorem dX5_scatter_122 : decode cX5_scatter 122 = .ok (.invokestatic 61, 3) := by decide +kernel
theorem dX5_scatter_125 : decode cX5_scatter 125 = .ok (.return_, 1) := by decide +kernel
theorem dX5_partPerRoad_0 : decode cX5_partPerRoad 0 = .ok (.aload_n 1, 1) := by decide +kernel
theorem dX5_partPerRoad_1 : decode cX5_partPerRoad 1 = .ok (.getfield 44, 3) := by decide +kernel
theorem dX5_partPerRoad_4 : decode cX5_partPerRoad 4 = .ok (.iload_n 2, 1) := by decide +kernel
theorem dX5_partPerRoad_5 : decode cX5_partPerRoad 5 = .ok (.iaload, 1) := by decide +kernel
theorem dX5_partPerRoad_6 : decode cX5_partPerRoad 6 = .ok (.istore_n 3, 1) := by decide +kernel
theorem dX5_partPerRoad_7 : decode cX5_partPerRoad 7 = .ok (.iload_n 3, 1) := by decide +kernel
theorem dX5_partPerRoad_8 : decode cX5_partPerRoad 8 = .ok (.ifCond .le 19, 3) := by decide +kernel
theorem dX5_partPerRoad_11 : decode cX5_partPerRoad 11 = .ok (.aload_n 0, 1) := by decide +kernel
theorem dX5_partPerRoad_12 : decode cX5_partPerRoad 12 = .ok (.getfield 9, 3) := by decide +kernel
theorem dX5_partPerRoad_15 : decode cX5_partPerRoad 15 = .ok (.iload_n 2, 1) := by decide +kernel
theorem dX5_partPerRoad_16 : decode cX5_partPerRoad 16 = .ok (.laload, 1) := by decide +kernel
theorem dX5_partPerRoad_17 : decode cX5_partPerRoad 17 = .ok (.ldc2_w 32, 3) := by decide +kernel
theorem dX5_partPerRoad_20 : decode cX5_partPerRoad 20 = .ok (.iload_n 3, 1) := by decide +kernel
theorem dX5_partPerRoad_21 : decode cX5_partPerRoad 21 = .ok (.i2l, 1) := by decide +kernel
theorem dX5_partPerRoad_22 : decode cX5_partPerRoad 22 = .ok (.ldiv, 1) := by decide +kernel
theorem dX5_partPerRoad_23 : decode cX5_partPerRoad 23 = .ok (.lmul, 1) := by decide +kernel
theorem dX5_partPerRoad_24 : decode cX5_partPerRoad 24 = .ok (.goto 4, 3) := by decide +kernel
theorem dX5_partPerRoad_27 : decode cX5_partPerRoad 27 = .ok (.lconst 0, 1) := by decide +kernel
theorem dX5_partPerRoad_28 : decode cX5_partPerRoad 28 = .ok (.lreturn, 1) := by decide +kernel
theorem dX5_sharedPart_0 : decode cX5_sharedPart 0 = .ok (.aload_n 0, 1) := by decide +kernel
theorem dX5_sharedPart_1 : decode cX5_sharedPart 1 = .ok (.getfield 24, 3) := by decide +kernel
theorem dX5_sharedPart_4 : decode cX5_sharedPart 4 = .ok (.lstore_n 2, 1) := by decide +kernel
theorem dX5_sharedPart_5 : decode cX5_sharedPart 5 = .ok (.aload_n 0, 1) := by decide +kernel
theorem dX5_sharedPart_6 : decode cX5_sharedPart 6 = .ok (.getfield 9, 3) := by decide +kernel
theorem dX5_sharedPart_9 : decode cX5_sharedPart 9 = .ok (.iload_n 1, 1) := by decide +kernel
theorem dX5_sharedPart_10 : decode cX5_sharedPart 10 = .ok (.laload, 1) := by decide +kernel
theorem dX5_sharedPart_11 : decode cX5_sharedPart 11 = .ok (.lstore 4, 2) := by decide +kernel
theorem dX5_sharedPart_13 : decode cX5_sharedPart 13 = .ok (.iconst 0, 1) := by decide +kernel
theorem dX5_sharedPart_14 : decode cX5_sharedPart 14 = .ok (.istore 6, 2) := by decide +kernel
theorem dX5_sharedPart_16 : decode cX5_sharedPart 16 = .ok (.iload 6, 2) := by decide +kernel
theorem dX5_sharedPart_18 : decode cX5_sharedPart 18 = .ok (.bipush 100, 2) := by decide +kernel
theorem dX5_sharedPart_20 : decode cX5_sharedPart 20 = .ok (.if_icmp .ge 29, 3) := by decide +kernel
theorem dX5_sharedPart_23 : decode cX5_sharedPart 23 = .ok (.lload 4, 2) := by decide +kernel
theorem dX5_sharedPart_25 : decode cX5_sharedPart 25 = .ok (.lconst 0, 1) := by decide +kernel
theorem dX5_sharedPart_26 : decode cX5_sharedPart 26 = .ok (.lcmp, 1) := by decide +kernel
theorem dX5_sharedPart_27 : decode cX5_sharedPart 27 = .ok (.ifCond .eq 22, 3) := by decide +kernel
theorem dX5_sharedPart_30 : decode cX5_sharedPart 30 = .ok (.lload_n 2, 1) := by decide +kernel
theorem dX5_sharedPart_31 : decode cX5_sharedPart 31 = .ok (.lload 4, 2) := by decide +kernel
theorem dX5_sharedPart_33 : decode cX5_sharedPart 33 = .ok (.lrem, 1) := by decide +kernel
theorem dX5_sharedPart_34 : decode cX5_sharedPart 34 = .ok (.lstore 7, 2) := by decide +kernel
theorem dX5_sharedPart_36 : decode cX5_sharedPart 36 = .ok (.lload 4, 2) := by decide +kernel
theorem dX5_sharedPart_38 : decode cX5_sharedPart 38 = .ok (.lstore_n 2, 1) := by decide +kernel
theorem dX5_sharedPart_39 : decode cX5_sharedPart 39 = .ok (.lload 7, 2) := by decide +kernel
theorem dX5_sharedPart_41 : decode cX5_sharedPart 41 = .ok (.lstore 4, 2) := by decide +kernel
theorem dX5_sharedPart_43 : decode cX5_sharedPart 43 = .ok (.iinc 6 1, 3) := by decide +kernel
theorem dX5_sharedPart_46 : decode cX5_sharedPart 46 = .ok (.goto (-30), 3) := by decide +kernel
theorem dX5_sharedPart_49 : decode cX5_sharedPart 49 = .ok (.lload_n 2, 1) := by decide +kernel
theorem dX5_sharedPart_50 : decode cX5_sharedPart 50 = .ok (.lconst 1, 1) := by decide +kernel
theorem dX5_sharedPart_51 : decode cX5_sharedPart 51 = .ok (.invokestatic 67, 3) := by decide +kernel
theorem dX5_sharedPart_54 : decode cX5_sharedPart 54 = .ok (.lreturn, 1) := by decide +kernel
theorem dX6_init_0 : decode cX6_init 0 = .ok (.aload_n 0, 1) := by decide +kernel
theorem dX6_init_1 : decode cX6_init 1 = .ok (.invokespecial 3, 3) := by decide +kernel
theorem dX6_init_4 : decode cX6_init 4 = .ok (.aload_n 0, 1) := by decide +kernel
theorem dX6_init_5 : decode cX6_init 5 = .ok (.bipush 8, 2) := by decide +kernel
theorem dX6_init_7 : decode cX6_init 7 = .ok (.newarray .int, 2) := by decide +kernel
theorem dX6_init_9 : decode cX6_init 9 = .ok (.putfield 9, 3) := by decide +kernel
theorem dX6_init_12 : decode cX6_init 12 = .ok (.aload_n 0, 1) := by decide +kernel
theorem dX6_init_13 : decode cX6_init 13 = .ok (.bipush 8, 2) := by decide +kernel
theorem dX6_init_15 : decode cX6_init 15 = .ok (.newarray .int, 2) := by decide +kernel
theorem dX6_init_17 : decode cX6_init 17 = .ok (.putfield 15, 3) := by decide +kernel
theorem dX6_init_20 : decode cX6_init 20 = .ok (.aload_n 0, 1) := by decide +kernel
theorem dX6_init_21 : decode cX6_init 21 = .ok (.bipush 6, 2) := by decide +kernel
theorem dX6_init_23 : decode cX6_init 23 = .ok (.newarray .int, 2) := by decide +kernel
theorem dX6_init_25 : decode cX6_init 25 = .ok (.putfield 18, 3) := by decide +kernel
theorem dX6_init_28 : decode cX6_init 28 = .ok (.aload_n 0, 1) := by decide +kernel
theorem dX6_init_29 : decode cX6_init 29 = .ok (.bipush 6, 2) := by decide +kernel
theorem dX6_init_31 : decode cX6_init 31 = .ok (.newarray .int, 2) := by decide +kernel
theorem dX6_init_33 : decode cX6_init 33 = .ok (.putfield 21, 3) := by decide +kernel
theorem dX6_init_36 : decode cX6_init 36 = .ok (.aload_n 0, 1) := by decide +kernel
theorem dX6_init_37 : decode cX6_init 37 = .ok (.bipush 6, 2) := by decide +kernel
theorem dX6_init_39 : decode cX6_init 39 = .ok (.bipush 6, 2) := by decide +kernel
theorem dX6_init_41 : decode cX6_init 41 = .ok (.multianewarray 24 2, 4) := by decide +kernel
theorem dX6_init_45 : decode cX6_init 45 = .ok (.putfield 26, 3) := by decide +kernel
theorem dX6_init_48 : decode cX6_init 48 = .ok (.aload_n 0, 1) := by decide +kernel
theorem dX6_init_49 : decode cX6_init 49 = .ok (.bipush 6, 2) := by decide +kernel
theorem dX6_init_51 : decode cX6_init 51 = .ok (.bipush 6, 2) := by decide +kernel
theorem dX6_init_53 : decode cX6_init 53 = .ok (.multianewarray 24 2, 4) := by decide +kernel
theorem dX6_init_57 : decode cX6_init 57 = .ok (.putfield 29, 3) := by decide +kernel
theorem dX6_init_60 : decode cX6_init 60 = .ok (.return_, 1) := by decide +kernel
theorem dX6_build_0 : decode cX6_build 0 = .ok (.aload_n 0, 1) := by decide +kernel
theorem dX6_build_1 : decode cX6_build 1 = .ok (.aload_n 1, 1) := by decide +kernel
theorem dX6_build_2 : decode cX6_build 2 = .ok (.iconst 0, 1) := by decide +kernel
theorem dX6_build_3 : decode cX6_build 3 = .ok (.invokevirtual 32, 3) := by decide +kernel
theorem dX6_build_6 : decode cX6_build 6 = .ok (.putfield 38, 3) := by decide +kernel
theorem dX6_build_9 : decode cX6_build 9 = .ok (.aload_n 0, 1) := by decide +kernel
theorem dX6_build_10 : decode cX6_build 10 = .ok (.aload_n 1, 1) := by decide +kernel
theorem dX6_build_11 : decode cX6_build 11 = .ok (.getfield 42, 3) := by decide +kernel
theorem dX6_build_14 : decode cX6_build 14 = .ok (.putfield 45, 3) := by decide +kernel
theorem dX6_build_17 : decode cX6_build 17 = .ok (.iconst 0, 1) := by decide +kernel
theorem dX6_build_18 : decode cX6_build 18 = .ok (.istore_n 2, 1) := by decide +kernel
theorem dX6_build_19 : decode cX6_build 19 = .ok (.iload_n 2, 1) := by decide +kernel
theorem dX6_build_20 : decode cX6_build 20 = .ok (.aload_n 0, 1) := by decide +kernel
theorem dX6_build_21 : decode cX6_build 21 = .ok (.getfield 38, 3) := by decide +kernel
theorem dX6_build_24 : decode cX6_build 24 = .ok (.if_icmp .ge 25, 3) := by decide +kernel
theorem dX6_build_27 : decode cX6_build 27 = .ok (.aload_n 0, 1) := by decide +kernel
theorem dX6_build_28 : decode cX6_build 28 = .ok (.getfield 18, 3) := by decide +kernel
theorem dX6_build_31 : decode cX6_build 31 = .ok (.iload_n 2, 1) := by decide +kernel
theorem dX6_build_32 : decode cX6_build 32 = .ok (.iconst 1, 1) := by decide +kernel
theorem dX6_build_33 : decode cX6_build 33 = .ok (.iload_n 2, 1) := by decide +kernel
theorem dX6_build_34 : decode cX6_build 34 = .ok (.ishl, 1) := by decide +kernel
theorem dX6_build_35 : decode cX6_build 35 = .ok (.iastore, 1) := by decide +kernel
theorem dX6_build_36 : decode cX6_build 36 = .ok (.aload_n 0, 1) := by decide +kernel
theorem dX6_build_37 : decode cX6_build 37 = .ok (.getfield 21, 3) := by decide +kernel
theorem dX6_build_40 : decode cX6_build 40 = .ok (.iload_n 2, 1) := by decide +kernel
theorem dX6_build_41 : decode cX6_build 41 = .ok (.iconst 0, 1) := by decide +kernel
theorem dX6_build_42 : decode cX6_build 42 = .ok (.iastore, 1) := by decide +kernel
theorem dX6_build_43 : decode cX6_build 43 = .ok (.iinc 2 1, 3) := by decide +kernel
theorem dX6_build_46 : decode cX6_build 46 = .ok (.goto (-27), 3) := by decide +kernel
theorem dX6_build_49 : decode cX6_build 49 = .ok (.iconst 0, 1) := by decide +kernel
theorem dX6_build_50 : decode cX6_build 50 = .ok (.istore_n 2, 1) := by decide +kernel
theorem dX6_build_51 : decode cX6_build 51 = .ok (.iload_n 2, 1) := by decide +kernel
theorem dX6_build_52 : decode cX6_build 52 = .ok (.aload_n 0, 1) := by decide +kernel
theorem dX6_build_53 : decode cX6_build 53 = .ok (.getfield 45, 3) := by decide +kernel
theorem dX6_build_56 : decode cX6_build 56 = .ok (.if_icmp .ge 32, 3) := by decide +kernel
theorem dX6_build_59 : decode cX6_build 59 = .ok (.aload_n 1, 1) := by decide +kernel
theorem dX6_build_60 : decode cX6_build 60 = .ok (.iload_n 2, 1) := by decide +kernel
theorem dX6_build_61 : decode cX6_build 61 = .ok (.invokevirtual 46, 3) := by decide +kernel
theorem dX6_build_64 : decode cX6_build 64 = .ok (.istore_n 3, 1) := by decide +kernel
theorem dX6_build_65 : decode cX6_build 65 = .ok (.aload_n 0, 1) := by decide +kernel
theorem dX6_build_66 : decode cX6_build 66 = .ok (.iload_n 2, 1) := by decide +kernel
theorem dX6_build_67 : decode cX6_build 67 = .ok (.aload_n 1, 1) := by decide +kernel
theorem dX6_build_68 : decode cX6_build 68 = .ok (.iload_n 3, 1) := by decide +kernel
theorem dX6_build_69 : decode cX6_build 69 = .ok (.invokevirtual 32, 3) := by decide +kernel
theorem dX6_build_72 : decode cX6_build 72 = .ok (.aload_n 1, 1) := by decide +kernel
theorem dX6_build_73 : decode cX6_build 73 = .ok (.iload_n 3, 1) := by decide +kernel
theorem dX6_build_74 : decode cX6_build 74 = .ok (.iconst 1, 1) := by decide +kernel
theorem dX6_build_75 : decode cX6_build 75 = .ok (.iadd, 1) := by decide +kernel
theorem dX6_build_76 : decode cX6_build 76 = .ok (.invokevirtual 32, 3) := by decide +kernel
theorem dX6_build_79 : decode cX6_build 79 = .ok (.invokevirtual 49, 3) := by decide +kernel
theorem dX6_build_82 : decode cX6_build 82 = .ok (.iinc 2 1, 3) := by decide +kernel
theorem dX6_build_85 : decode cX6_build 85 = .ok (.goto (-34), 3) := by decide +kernel
theorem dX6_build_88 : decode cX6_build 88 = .ok (.iconst 0, 1) := by decide +kernel
theorem dX6_build_89 : decode cX6_build 89 = .ok (.istore_n 2, 1) := by decide +kernel
theorem dX6_build_90 : decode cX6_build 90 = .ok (.iload_n 2, 1) := by decide +kernel
theorem dX6_build_91 : decode cX6_build 91 = .ok (.aload_n 0, 1) := by decide +kernel
theorem dX6_build_92 : decode cX6_build 92 = .ok (.getfield 38, 3) := by decide +kernel
theorem dX6_build_95 : decode cX6_build 95 = .ok (.if_icmp .ge 14, 3) := by decide +kernel
theorem dX6_build_98 : decode cX6_build 98 = .ok (.aload_n 0, 1) := by decide +kernel
theorem dX6_build_99 : decode cX6_build 99 = .ok (.iload_n 2, 1) := by decide +kernel
theorem dX6_build_100 : decode cX6_build 100 = .ok (.invokevirtual 53, 3) := by decide +kernel
theorem dX6_build_103 : decode cX6_build 103 = .ok (.iinc 2 1, 3) := by decide +kernel
theorem dX6_build_106 : decode cX6_build 106 = .ok (.goto (-16), 3) := by decide +kernel
theorem dX6_build_109 : decode cX6_build 109 = .ok (.aload_n 0, 1) := by decide +kernel
theorem dX6_build_110 : decode cX6_build 110 = .ok (.invokevirtual 57, 3) := by decide +kernel
theorem dX6_build_113 : decode cX6_build 113 = .ok (.return_, 1) := by decide +kernel
theorem dX6_alongRoad_0 : decode cX6_alongRoad 0 = .ok (.aload_n 0, 1) := by decide +kernel
theorem dX6_alongRoad_1 : decode cX6_alongRoad 1 = .ok (.getfield 9, 3) := by decide +kernel
theorem dX6_alongRoad_4 : decode cX6_alongRoad 4 = .ok (.iload_n 1, 1) := by decide +kernel
theorem dX6_alongRoad_5 : decode cX6_alongRoad 5 = .ok (.iaload, 1) := by decide +kernel
theorem dX6_alongRoad_6 : decode cX6_alongRoad 6 = .ok (.iload_n 2, 1) := by decide +kernel
theorem dX6_alongRoad_7 : decode cX6_alongRoad 7 = .ok (.if_icmp .ne 10, 3) := by decide +kernel
theorem dX6_alongRoad_10 : decode cX6_alongRoad 10 = .ok (.aload_n 0, 1) := by decide +kernel
theorem dX6_alongRoad_11 : decode cX6_alongRoad 11 = .ok (.getfield 15, 3) := by decide +kernel
theorem dX6_alongRoad_14 : decode cX6_alongRoad 14 = .ok (.iload_n 1, 1) := by decide +kernel
theorem dX6_alongRoad_15 : decode cX6_alongRoad 15 = .ok (.iaload, 1) := by decide +kernel
theorem dX6_alongRoad_16 : decode cX6_alongRoad 16 = .ok (.ireturn, 1) := by decide +kernel
theorem dX6_alongRoad_17 : decode cX6_alongRoad 17 = .ok (.aload_n 0, 1) := by decide +kernel
theorem dX6_alongRoad_18 : decode cX6_alongRoad 18 = .ok (.getfield 15, 3) := by decide +kernel
theorem dX6_alongRoad_21 : decode cX6_alongRoad 21 = .ok (.iload_n 1, 1) := by decide +kernel
theorem dX6_alongRoad_22 : decode cX6_alongRoad 22 = .ok (.iaload, 1) := by decide +kernel
theorem dX6_alongRoad_23 : decode cX6_alongRoad 23 = .ok (.iload_n 2, 1) := by decide +kernel
theorem dX6_alongRoad_24 : decode cX6_alongRoad 24 = .ok (.if_icmp .ne 12, 3) := by decide +kernel
theorem dX6_alongRoad_27 : decode cX6_alongRoad 27 = .ok (.aload_n 0, 1) := by decide +kernel
theorem dX6_alongRoad_28 : decode cX6_alongRoad 28 = .ok (.getfield 9, 3) := by decide +kernel
theorem dX6_alongRoad_31 : decode cX6_alongRoad 31 = .ok (.iload_n 1, 1) := by decide +kernel
theorem dX6_alongRoad_32 : decode cX6_alongRoad 32 = .ok (.iaload, 1) := by decide +kernel
theorem dX6_alongRoad_33 : decode cX6_alongRoad 33 = .ok (.goto 4, 3) := by decide +kernel
theorem dX6_alongRoad_36 : decode cX6_alongRoad 36 = .ok (.iload_n 2, 1) := by decide +kernel
theorem dX6_alongRoad_37 : decode cX6_alongRoad 37 = .ok (.ireturn, 1) := by decide +kernel
theorem dX6_layRoad_0 : decode cX6_layRoad 0 = .ok (.aload_n 0, 1) := by decide +kernel
theorem dX6_layRoad_1 : decode cX6_layRoad 1 = .ok (.getfield 9, 3) := by decide +kernel
theorem dX6_layRoad_4 : decode cX6_layRoad 4 = .ok (.iload_n 1, 1) := by decide +kernel
theorem dX6_layRoad_5 : decode cX6_layRoad 5 = .ok (.iload_n 2, 1) := by decide +kernel
theorem dX6_layRoad_6 : decode cX6_layRoad 6 = .ok (.iastore, 1) := by decide +kernel
theorem dX6_layRoad_7 : decode cX6_layRoad 7 = .ok (.aload_n 0, 1) := by decide +kernel
theorem dX6_layRoad_8 : decode cX6_layRoad 8 = .ok (.getfield 15, 3) := by decide +kernel
theorem dX6_layRoad_11 : decode cX6_layRoad 11 = .ok (.iload_n 1, 1) := by decide +kernel
theorem dX6_layRoad_12 : decode cX6_layRoad 12 = .ok (.iload_n 3, 1) := by decide +kernel
theorem dX6_layRoad_13 : decode cX6_layRoad 13 = .ok (.iastore, 1) := by decide +kernel
theorem dX6_layRoad_14 : decode cX6_layRoad 14 = .ok (.aload_n 0, 1) := by decide +kernel
theorem dX6_layRoad_15 : decode cX6_layRoad 15 = .ok (.getfield 18, 3) := by decide +kernel
theorem dX6_layRoad_18 : decode cX6_layRoad 18 = .ok (.iload_n 2, 1) := by decide +kernel
theorem dX6_layRoad_19 : decode cX6_layRoad 19 = .ok (.dup2, 1) := by decide +kernel
theorem dX6_layRoad_20 : decode cX6_layRoad 20 = .ok (.iaload, 1) := by decide +kernel
theorem dX6_layRoad_21 : decode cX6_layRoad 21 = .ok (.iconst 1, 1) := by decide +kernel
theorem dX6_layRoad_22 : decode cX6_layRoad 22 = .ok (.iload_n 3, 1) := by decide +kernel
theorem dX6_layRoad_23 : decode cX6_layRoad 23 = .ok (.ishl, 1) := by decide +kernel
theorem dX6_layRoad_24 : decode cX6_layRoad 24 = .ok (.ior, 1) := by decide +kernel
theorem dX6_layRoad_25 : decode cX6_layRoad 25 = .ok (.iastore, 1) := by decide +kernel
theorem dX6_layRoad_26 : decode cX6_layRoad 26 = .ok (.aload_n 0, 1) := by decide +kernel
theorem dX6_layRoad_27 : decode cX6_layRoad 27 = .ok (.getfield 18, 3) := by decide +kernel
theorem dX6_layRoad_30 : decode cX6_layRoad 30 = .ok (.iload_n 3, 1) := by decide +kernel
theorem dX6_layRoad_31 : decode cX6_layRoad 31 = .ok (.dup2, 1) := by decide +kernel
theorem dX6_layRoad_32 : decode cX6_layRoad 32 = .ok (.iaload, 1) := by decide +kernel
theorem dX6_layRoad_33 : decode cX6_layRoad 33 = .ok (.iconst 1, 1) := by decide +kernel
theorem dX6_layRoad_34 : decode cX6_layRoad 34 = .ok (.iload_n 2, 1) := by decide +kernel
theorem dX6_layRoad_35 : decode cX6_layRoad 35 = .ok (.ishl, 1) := by decide +kernel
theorem dX6_layRoad_36 : decode cX6_layRoad 36 = .ok (.ior, 1) := by decide +kernel
theorem dX6_layRoad_37 : decode cX6_layRoad 37 = .ok (.iastore, 1) := by decide +kernel
theorem dX6_layRoad_38 : decode cX6_layRoad 38 = .ok (.aload_n 0, 1) := by decide +kernel
theorem dX6_layRoad_39 : decode cX6_layRoad 39 = .ok (.getfield 21, 3) := by decide +kernel
theorem dX6_layRoad_42 : decode cX6_layRoad 42 = .ok (.iload_n 2, 1) := by decide +kernel
theorem dX6_layRoad_43 : decode cX6_layRoad 43 = .ok (.dup2, 1) := by decide +kernel
theorem dX6_layRoad_44 : decode cX6_layRoad 44 = .ok (.iaload, 1) := by decide +kernel
theorem dX6_layRoad_45 : decode cX6_layRoad 45 = .ok (.iconst 1, 1) := by decide +kernel
theorem dX6_layRoad_46 : decode cX6_layRoad 46 = .ok (.iadd, 1) := by decide +kernel
theorem dX6_layRoad_47 : decode cX6_layRoad 47 = .ok (.iastore, 1) := by decide +kernel
theorem dX6_layRoad_48 : decode cX6_layRoad 48 = .ok (.aload_n 0, 1) := by decide +kernel
theorem dX6_layRoad_49 : decode cX6_layRoad 49 = .ok (.getfield 21, 3) := by decide +kernel
theorem dX6_layRoad_52 : decode cX6_layRoad 52 = .ok (.iload_n 3, 1) := by decide +kernel
theorem dX6_layRoad_53 : decode cX6_layRoad 53 = .ok (.dup2, 1) := by decide +kernel
theorem dX6_layRoad_54 : decode cX6_layRoad 54 = .ok (.iaload, 1) := by decide +kernel
theorem dX6_layRoad_55 : decode cX6_layRoad 55 = .ok (.iconst 1, 1) := by decide +kernel
theorem dX6_layRoad_56 : decode cX6_layRoad 56 = .ok (.iadd, 1) := by decide +kernel
theorem dX6_layRoad_57 : decode cX6_layRoad 57 = .ok (.iastore, 1) := by decide +kernel
theorem dX6_layRoad_58 : decode cX6_layRoad 58 = .ok (.return_, 1) := by decide +kernel
theorem dX6_measureSteps_0 : decode cX6_measureSteps 0 = .ok (.aload_n 0, 1) := by decide +kernel
theorem dX6_measureSteps_1 : decode cX6_measureSteps 1 = .ok (.getfield 26, 3) := by decide +kernel
theorem dX6_measureSteps_4 : decode cX6_measureSteps 4 = .ok (.iload_n 1, 1) := by decide +kernel
theorem dX6_measureSteps_5 : decode cX6_measureSteps 5 = .ok (.aaload, 1) := by decide +kernel
theorem dX6_measureSteps_6 : decode cX6_measureSteps 6 = .ok (.iconst (-1), 1) := by decide +kernel
theorem dX6_measureSteps_7 : decode cX6_measureSteps 7 = .ok (.invokestatic 60, 3) := by decide +kernel
theorem dX6_measureSteps_10 : decode cX6_measureSteps 10 = .ok (.iconst 1, 1) := by decide +kernel
theorem dX6_measureSteps_11 : decode cX6_measureSteps 11 = .ok (.iload_n 1, 1) := by decide +kernel
theorem dX6_measureSteps_12 : decode cX6_measureSteps 12 = .ok (.ishl, 1) := by decide +kernel
theorem dX6_measureSteps_13 : decode cX6_measureSteps 13 = .ok (.istore_n 2, 1) := by decide +kernel
theorem dX6_measureSteps_14 : decode cX6_measureSteps 14 = .ok (.aload_n 0, 1) := by decide +kernel
theorem dX6_measureSteps_15 : decode cX6_measureSteps 15 = .ok (.getfield 26, 3) := by decide +kernel
theorem dX6_measureSteps_18 : decode cX6_measureSteps 18 = .ok (.iload_n 1, 1) := by decide +kernel
theorem dX6_measureSteps_19 : decode cX6_measureSteps 19 = .ok (.aaload, 1) := by decide +kernel
theorem dX6_measureSteps_20 : decode cX6_measureSteps 20 = .ok (.iload_n 1, 1) := by decide +kernel
theorem dX6_measureSteps_21 : decode cX6_measureSteps 21 = .ok (.iconst 0, 1) := by decide +kernel
theorem dX6_measureSteps_22 : decode cX6_measureSteps 22 = .ok (.iastore, 1) := by decide +kernel
theorem dX6_measureSteps_23 : decode cX6_measureSteps 23 = .ok (.iconst 1, 1) := by decide +kernel
theorem dX6_measureSteps_24 : decode cX6_measureSteps 24 = .ok (.istore_n 3, 1) := by decide +kernel
theorem dX6_measureSteps_25 : decode cX6_measureSteps 25 = .ok (.iload_n 3, 1) := by decide +kernel
theorem dX6_measureSteps_26 : decode cX6_measureSteps 26 = .ok (.aload_n 0, 1) := by decide +kernel
theorem dX6_measureSteps_27 : decode cX6_measureSteps 27 = .ok (.getfield 38, 3) := by decide +kernel
theorem dX6_measureSteps_30 : decode cX6_measureSteps 30 = .ok (.if_icmp .ge 63, 3) := by decide +kernel
theorem dX6_measureSteps_33 : decode cX6_measureSteps 33 = .ok (.aload_n 0, 1) := by decide +kernel
theorem dX6_measureSteps_34 : decode cX6_measureSteps 34 = .ok (.iload_n 2, 1) := by decide +kernel
theorem dX6_measureSteps_35 : decode cX6_measureSteps 35 = .ok (.invokevirtual 66, 3) := by decide +kernel
theorem dX6_measureSteps_38 : decode cX6_measureSteps 38 = .ok (.iload_n 2, 1) := by decide +kernel
theorem dX6_measureSteps_39 : decode cX6_measureSteps 39 = .ok (.iconst (-1), 1) := by decide +kernel
theorem dX6_measureSteps_40 : decode cX6_measureSteps 40 = .ok (.ixor, 1) := by decide +kernel
theorem dX6_measureSteps_41 : decode cX6_measureSteps 41 = .ok (.iand, 1) := by decide +kernel
theorem dX6_measureSteps_42 : decode cX6_measureSteps 42 = .ok (.istore 4, 2) := by decide +kernel
theorem dX6_measureSteps_44 : decode cX6_measureSteps 44 = .ok (.iconst 0, 1) := by decide +kernel
theorem dX6_measureSteps_45 : decode cX6_measureSteps 45 = .ok (.istore 5, 2) := by decide +kernel
theorem dX6_measureSteps_47 : decode cX6_measureSteps 47 = .ok (.iload 5, 2) := by decide +kernel
theorem dX6_measureSteps_49 : decode cX6_measureSteps 49 = .ok (.aload_n 0, 1) := by decide +kernel
theorem dX6_measureSteps_50 : decode cX6_measureSteps 50 = .ok (.getfield 38, 3) := by decide +kernel
theorem dX6_measureSteps_53 : decode cX6_measureSteps 53 = .ok (.if_icmp .ge 29, 3) := by decide +kernel
theorem dX6_measureSteps_56 : decode cX6_measureSteps 56 = .ok (.iload 4, 2) := by decide +kernel
theorem dX6_measureSteps_58 : decode cX6_measureSteps 58 = .ok (.iload 5, 2) := by decide +kernel
theorem dX6_measureSteps_60 : decode cX6_measureSteps 60 = .ok (.invokestatic 69, 3) := by decide +kernel
theorem dX6_measureSteps_63 : decode cX6_measureSteps 63 = .ok (.ifCond .eq 13, 3) := by decide +kernel
theorem dX6_measureSteps_66 : decode cX6_measureSteps 66 = .ok (.aload_n 0, 1) := by decide +kernel
theorem dX6_measureSteps_67 : decode cX6_measureSteps 67 = .ok (.getfield 26, 3) := by decide +kernel
theorem dX6_measureSteps_70 : decode cX6_measureSteps 70 = .ok (.iload_n 1, 1) := by decide +kernel
theorem dX6_measureSteps_71 : decode cX6_measureSteps 71 = .ok (.aaload, 1) := by decide +kernel
theorem dX6_measureSteps_72 : decode cX6_measureSteps 72 = .ok (.iload 5, 2) := by decide +kernel
theorem dX6_measureSteps_74 : decode cX6_measureSteps 74 = .ok (.iload_n 3, 1) := by decide +kernel
theorem dX6_measureSteps_75 : decode cX6_measureSteps 75 = .ok (.iastore, 1) := by decide +kernel
theorem dX6_measureSteps_76 : decode cX6_measureSteps 76 = .ok (.iinc 5 1, 3) := by decide +kernel
theorem dX6_measureSteps_79 : decode cX6_measureSteps 79 = .ok (.goto (-32), 3) := by decide +kernel
theorem dX6_measureSteps_82 : decode cX6_measureSteps 82 = .ok (.iload_n 2, 1) := by decide +kernel
theorem dX6_measureSteps_83 : decode cX6_measureSteps 83 = .ok (.iload 4, 2) := by decide +kernel
theorem dX6_measureSteps_85 : decode cX6_measureSteps 85 = .ok (.ior, 1) := by decide +kernel
theorem dX6_measureSteps_86 : decode cX6_measureSteps 86 = .ok (.istore_n 2, 1) := by decide +kernel
theorem dX6_measureSteps_87 : decode cX6_measureSteps 87 = .ok (.iinc 3 1, 3) := by decide +kernel
theorem dX6_measureSteps_90 : decode cX6_measureSteps 90 = .ok (.goto (-65), 3) := by decide +kernel
theorem dX6_measureSteps_93 : decode cX6_measureSteps 93 = .ok (.return_, 1) := by decide +kernel
theorem dX6_spread_0 : decode cX6_spread 0 = .ok (.iconst 0, 1) := by decide +kernel
theorem dX6_spread_1 : decode cX6_spread 1 = .ok (.istore_n 2, 1) := by decide +kernel
theorem dX6_spread_2 : decode cX6_spread 2 = .ok (.iconst 0, 1) := by decide +kernel
theorem dX6_spread_3 : decode cX6_spread 3 = .ok (.istore_n 3, 1) := by decide +kernel
theorem dX6_spread_4 : decode cX6_spread 4 = .ok (.iload_n 3, 1) := by decide +kernel
theorem dX6_spread_5 : decode cX6_spread 5 = .ok (.aload_n 0, 1) := by decide +kernel
theorem dX6_spread_6 : decode cX6_spread 6 = .ok (.getfield 38, 3) := by decide +kernel
theorem dX6_spread_9 : decode cX6_spread 9 = .ok (.if_icmp .ge 26, 3) := by decide +kernel
theorem dX6_spread_12 : decode cX6_spread 12 = .ok (.iload_n 1, 1) := by decide +kernel
theorem dX6_spread_13 : decode cX6_spread 13 = .ok (.iload_n 3, 1) := by decide +kernel
theorem dX6_spread_14 : decode cX6_spread 14 = .ok (.invokestatic 69, 3) := by decide +kernel
theorem dX6_spread_17 : decode cX6_spread 17 = .ok (.ifCond .eq 12, 3) := by decide +kernel
theorem dX6_spread_20 : decode cX6_spread 20 = .ok (.iload_n 2, 1) := by decide +kernel
theorem dX6_spread_21 : decode cX6_spread 21 = .ok (.aload_n 0, 1) := by decide +kernel
theorem dX6_spread_22 : decode cX6_spread 22 = .ok (.getfield 18, 3) := by decide +kernel
theorem dX6_spread_25 : decode cX6_spread 25 = .ok (.iload_n 3, 1) := by decide +kernel
theorem dX6_spread_26 : decode cX6_spread 26 = .ok (.iaload, 1) := by decide +kernel
theorem dX6_spread_27 : decode cX6_spread 27 = .ok (.ior, 1) := by decide +kernel
theorem dX6_spread_28 : decode cX6_spread 28 = .ok (.istore_n 2, 1) := by decide +kernel
theorem dX6_spread_29 : decode cX6_spread 29 = .ok (.iinc 3 1, 3) := by decide +kernel
theorem dX6_spread_32 : decode cX6_spread 32 = .ok (.goto (-28), 3) := by decide +kernel
theorem dX6_spread_35 : decode cX6_spread 35 = .ok (.iload_n 2, 1) := by decide +kernel
theorem dX6_spread_36 : decode cX6_spread 36 = .ok (.ireturn, 1) := by decide +kernel
theorem dX6_measureCatches_0 : decode cX6_measureCatches 0 = .ok (.iconst 0, 1) := by decide +kernel
theorem dX6_measureCatches_1 : decode cX6_measureCatches 1 = .ok (.istore_n 1, 1) := by decide +kernel
theorem dX6_measureCatches_2 : decode cX6_measureCatches 2 = .ok (.iload_n 1, 1) := by decide +kernel
theorem dX6_measureCatches_3 : decode cX6_measureCatches 3 = .ok (.aload_n 0, 1) := by decide +kernel
theorem dX6_measureCatches_4 : decode cX6_measureCatches 4 = .ok (.getfield 38, 3) := by decide +kernel
theorem dX6_measureCatches_7 : decode cX6_measureCatches 7 = .ok (.if_icmp .ge 28, 3) := by decide +kernel
theorem dX6_measureCatches_10 : decode cX6_measureCatches 10 = .ok (.aload_n 0, 1) := by decide +kernel
theorem dX6_measureCatches_11 : decode cX6_measureCatches 11 = .ok (.getfield 29, 3) := by decide +kernel
theorem dX6_measureCatches_14 : decode cX6_measureCatches 14 = .ok (.iload_n 1, 1) := by decide +kernel
theorem dX6_measureCatches_15 : decode cX6_measureCatches 15 = .ok (.aaload, 1) := by decide +kernel
theorem dX6_measureCatches_16 : decode cX6_measureCatches 16 = .ok (.iconst (-1), 1) := by decide +kernel
theorem dX6_measureCatches_17 : decode cX6_measureCatches 17 = .ok (.invokestatic 60, 3) := by decide +kernel
theorem dX6_measureCatches_20 : decode cX6_measureCatches 20 = .ok (.aload_n 0, 1) := by decide +kernel
theorem dX6_measureCatches_21 : decode cX6_measureCatches 21 = .ok (.getfield 29, 3) := by decide +kernel
theorem dX6_measureCatches_24 : decode cX6_measureCatches 24 = .ok (.iload_n 1, 1) := by decide +kernel
theorem dX6_measureCatches_25 : decode cX6_measureCatches 25 = .ok (.aaload, 1) := by decide +kernel
theorem dX6_measureCatches_26 : decode cX6_measureCatches 26 = .ok (.iload_n 1, 1) := by decide +kernel
theorem dX6_measureCatches_27 : decode cX6_measureCatches 27 = .ok (.iconst 0, 1) := by decide +kernel
theorem dX6_measureCatches_28 : decode cX6_measureCatches 28 = .ok (.iastore, 1) := by decide +kernel
theorem dX6_measureCatches_29 : decode cX6_measureCatches 29 = .ok (.iinc 1 1, 3) := by decide +kernel
theorem dX6_measureCatches_32 : decode cX6_measureCatches 32 = .ok (.goto (-30), 3) := by decide +kernel
theorem dX6_measureCatches_35 : decode cX6_measureCatches 35 = .ok (.iconst 1, 1) := by decide +kernel
theorem dX6_measureCatches_36 : decode cX6_measureCatches 36 = .ok (.istore_n 1, 1) := by decide +kernel
theorem dX6_measureCatches_37 : decode cX6_measureCatches 37 = .ok (.iconst 1, 1) := by decide +kernel
theorem dX6_measureCatches_38 : decode cX6_measureCatches 38 = .ok (.istore_n 2, 1) := by decide +kernel
theorem dX6_measureCatches_39 : decode cX6_measureCatches 39 = .ok (.iload_n 2, 1) := by decide +kernel
theorem dX6_measureCatches_40 : decode cX6_measureCatches 40 = .ok (.bipush 40, 2) := by decide +kernel
theorem dX6_measureCatches_42 : decode cX6_measureCatches 42 = .ok (.if_icmp .gt 19, 3) := by decide +kernel
theorem dX6_measureCatches_45 : decode cX6_measureCatches 45 = .ok (.iload_n 1, 1) := by decide +kernel
theorem dX6_measureCatches_46 : decode cX6_measureCatches 46 = .ok (.ifCond .eq 15, 3) := by decide +kernel
theorem dX6_measureCatches_49 : decode cX6_measureCatches 49 = .ok (.aload_n 0, 1) := by decide +kernel
theorem dX6_measureCatches_50 : decode cX6_measureCatches 50 = .ok (.iload_n 2, 1) := by decide +kernel
theorem dX6_measureCatches_51 : decode cX6_measureCatches 51 = .ok (.invokevirtual 73, 3) := by decide +kernel
theorem dX6_measureCatches_54 : decode cX6_measureCatches 54 = .ok (.istore_n 1, 1) := by decide +kernel
theorem dX6_measureCatches_55 : decode cX6_measureCatches 55 = .ok (.iinc 2 1, 3) := by decide +kernel
theorem dX6_measureCatches_58 : decode cX6_measureCatches 58 = .ok (.goto (-19), 3) := by decide +kernel
theorem dX6_measureCatches_61 : decode cX6_measureCatches 61 = .ok (.return_, 1) := by decide +kernel
theorem dX6_findCatches_0 : decode cX6_findCatches 0 = .ok (.iconst 0, 1) := by decide +kernel
theorem dX6_findCatches_1 : decode cX6_findCatches 1 = .ok (.istore_n 2, 1) := by decide +kernel
theorem dX6_findCatches_2 : decode cX6_findCatches 2 = .ok (.iconst 0, 1) := by decide +kernel
theorem dX6_findCatches_3 : decode cX6_findCatches 3 = .ok (.istore_n 3, 1) := by decide +kernel
theorem dX6_findCatches_4 : decode cX6_findCatches 4 = .ok (.iload_n 3, 1) := by decide +kernel
theorem dX6_findCatches_5 : decode cX6_findCatches 5 = .ok (.aload_n 0, 1) := by decide +kernel
theorem dX6_findCatches_6 : decode cX6_findCatches 6 = .ok (.getfield 38, 3) := by decide +kernel
theorem dX6_findCatches_9 : decode cX6_findCatches 9 = .ok (.if_icmp .ge 63, 3) := by decide +kernel
theorem dX6_findCatches_12 : decode cX6_findCatches 12 = .ok (.iconst 0, 1) := by decide +kernel
theorem dX6_findCatches_13 : decode cX6_findCatches 13 = .ok (.istore 4, 2) := by decide +kernel
theorem dX6_findCatches_15 : decode cX6_findCatches 15 = .ok (.iload 4, 2) := by decide +kernel
theorem dX6_findCatches_17 : decode cX6_findCatches 17 = .ok (.aload_n 0, 1) := by decide +kernel
theorem dX6_findCatches_18 : decode cX6_findCatches 18 = .ok (.getfield 38, 3) := by decide +kernel
theorem dX6_findCatches_21 : decode cX6_findCatches 21 = .ok (.if_icmp .ge 45, 3) := by decide +kernel
theorem dX6_findCatches_24 : decode cX6_findCatches 24 = .ok (.aload_n 0, 1) := by decide +kernel
theorem dX6_findCatches_25 : decode cX6_findCatches 25 = .ok (.getfield 29, 3) := by decide +kernel
theorem dX6_findCatches_28 : decode cX6_findCatches 28 = .ok (.iload_n 3, 1) := by decide +kernel
theorem dX6_findCatches_29 : decode cX6_findCatches 29 = .ok (.aaload, 1) := by decide +kernel
theorem dX6_findCatches_30 : decode cX6_findCatches 30 = .ok (.iload 4, 2) := by decide +kernel
theorem dX6_findCatches_32 : decode cX6_findCatches 32 = .ok (.iaload, 1) := by decide +kernel
theorem dX6_findCatches_33 : decode cX6_findCatches 33 = .ok (.iconst (-1), 1) := by decide +kernel
theorem dX6_findCatches_34 : decode cX6_findCatches 34 = .ok (.if_icmp .ne 26, 3) := by decide +kernel
theorem dX6_findCatches_37 : decode cX6_findCatches 37 = .ok (.aload_n 0, 1) := by decide +kernel
theorem dX6_findCatches_38 : decode cX6_findCatches 38 = .ok (.iload_n 3, 1) := by decide +kernel
theorem dX6_findCatches_39 : decode cX6_findCatches 39 = .ok (.iload 4, 2) := by decide +kernel
theorem dX6_findCatches_41 : decode cX6_findCatches 41 = .ok (.iload_n 1, 1) := by decide +kernel
theorem dX6_findCatches_42 : decode cX6_findCatches 42 = .ok (.invokevirtual 77, 3) := by decide +kernel
theorem dX6_findCatches_45 : decode cX6_findCatches 45 = .ok (.ifCond .eq 15, 3) := by decide +kernel
theorem dX6_findCatches_48 : decode cX6_findCatches 48 = .ok (.aload_n 0, 1) := by decide +kernel
theorem dX6_findCatches_49 : decode cX6_findCatches 49 = .ok (.getfield 29, 3) := by decide +kernel
theorem dX6_findCatches_52 : decode cX6_findCatches 52 = .ok (.iload_n 3, 1) := by decide +kernel
theorem dX6_findCatches_53 : decode cX6_findCatches 53 = .ok (.aaload, 1) := by decide +kernel
theorem dX6_findCatches_54 : decode cX6_findCatches 54 = .ok (.iload 4, 2) := by decide +kernel
theorem dX6_findCatches_56 : decode cX6_findCatches 56 = .ok (.iload_n 1, 1) := by decide +kernel
theorem dX6_findCatches_57 : decode cX6_findCatches 57 = .ok (.iastore, 1) := by decide +kernel
theorem dX6_findCatches_58 : decode cX6_findCatches 58 = .ok (.iconst 1, 1) := by decide +kernel
theorem dX6_findCatches_59 : decode cX6_findCatches 59 = .ok (.istore_n 2, 1) := by decide +kernel
theorem dX6_findCatches_60 : decode cX6_findCatches 60 = .ok (.iinc 4 1, 3) := by decide +kernel
theorem dX6_findCatches_63 : decode cX6_findCatches 63 = .ok (.goto (-48), 3) := by decide +kernel
theorem dX6_findCatches_66 : decode cX6_findCatches 66 = .ok (.iinc 3 1, 3) := by decide +kernel
theorem dX6_findCatches_69 : decode cX6_findCatches 69 = .ok (.goto (-65), 3) := by decide +kernel
theorem dX6_findCatches_72 : decode cX6_findCatches 72 = .ok (.iload_n 2, 1) := by decide +kernel
theorem dX6_findCatches_73 : decode cX6_findCatches 73 = .ok (.ireturn, 1) := by decide +kernel
theorem dX6_isCaught_0 : decode cX6_isCaught 0 = .ok (.iconst 0, 1) := by decide +kernel
theorem dX6_isCaught_1 : decode cX6_isCaught 1 = .ok (.istore 4, 2) := by decide +kernel
theorem dX6_isCaught_3 : decode cX6_isCaught 3 = .ok (.iload 4, 2) := by decide +kernel
theorem dX6_isCaught_5 : decode cX6_isCaught 5 = .ok (.aload_n 0, 1) := by decide +kernel
theorem dX6_isCaught_6 : decode cX6_isCaught 6 = .ok (.getfield 38, 3) := by decide +kernel
theorem dX6_isCaught_9 : decode cX6_isCaught 9 = .ok (.if_icmp .ge 36, 3) := by decide +kernel
theorem dX6_isCaught_12 : decode cX6_isCaught 12 = .ok (.aload_n 0, 1) := by decide +kernel
theorem dX6_isCaught_13 : decode cX6_isCaught 13 = .ok (.getfield 18, 3) := by decide +kernel
theorem dX6_isCaught_16 : decode cX6_isCaught 16 = .ok (.iload_n 1, 1) := by decide +kernel
theorem dX6_isCaught_17 : decode cX6_isCaught 17 = .ok (.iaload, 1) := by decide +kernel
theorem dX6_isCaught_18 : decode cX6_isCaught 18 = .ok (.iload 4, 2) := by decide +kernel
theorem dX6_isCaught_20 : decode cX6_isCaught 20 = .ok (.invokestatic 69, 3) := by decide +kernel
theorem dX6_isCaught_23 : decode cX6_isCaught 23 = .ok (.ifCond .eq 16, 3) := by decide +kernel
theorem dX6_isCaught_26 : decode cX6_isCaught 26 = .ok (.aload_n 0, 1) := by decide +kernel
theorem dX6_isCaught_27 : decode cX6_isCaught 27 = .ok (.iload 4, 2) := by decide +kernel
theorem dX6_isCaught_29 : decode cX6_isCaught 29 = .ok (.iload_n 2, 1) := by decide +kernel
theorem dX6_isCaught_30 : decode cX6_isCaught 30 = .ok (.iload_n 3, 1) := by decide +kernel
theorem dX6_isCaught_31 : decode cX6_isCaught 31 = .ok (.invokevirtual 81, 3) := by decide +kernel
theorem dX6_isCaught_34 : decode cX6_isCaught 34 = .ok (.ifCond .ne 5, 3) := by decide +kernel
theorem dX6_isCaught_37 : decode cX6_isCaught 37 = .ok (.iconst 0, 1) := by decide +kernel
theorem dX6_isCaught_38 : decode cX6_isCaught 38 = .ok (.ireturn, 1) := by decide +kernel
theorem dX6_isCaught_39 : decode cX6_isCaught 39 = .ok (.iinc 4 1, 3) := by decide +kernel
theorem dX6_isCaught_42 : decode cX6_isCaught 42 = .ok (.goto (-39), 3) := by decide +kernel
theorem dX6_isCaught_45 : decode cX6_isCaught 45 = .ok (.iconst 1, 1) := by decide +kernel
theorem dX6_isCaught_46 : decode cX6_isCaught 46 = .ok (.ireturn, 1) := by decide +kernel
theorem dX6_canAnswer_0 : decode cX6_canAnswer 0 = .ok (.iconst 0, 1) := by decide +kernel
theorem dX6_canAnswer_1 : decode cX6_canAnswer 1 = .ok (.istore 4, 2) := by decide +kernel
theorem dX6_canAnswer_3 : decode cX6_canAnswer 3 = .ok (.iload 4, 2) := by decide +kernel
theorem dX6_canAnswer_5 : decode cX6_canAnswer 5 = .ok (.aload_n 0, 1) := by decide +kernel
theorem dX6_canAnswer_6 : decode cX6_canAnswer 6 = .ok (.getfield 38, 3) := by decide +kernel
theorem dX6_canAnswer_9 : decode cX6_canAnswer 9 = .ok (.if_icmp .ge 48, 3) := by decide +kernel
theorem dX6_canAnswer_12 : decode cX6_canAnswer 12 = .ok (.aload_n 0, 1) := by decide +kernel
theorem dX6_canAnswer_13 : decode cX6_canAnswer 13 = .ok (.getfield 29, 3) := by decide +kernel
theorem dX6_canAnswer_16 : decode cX6_canAnswer 16 = .ok (.iload_n 1, 1) := by decide +kernel
theorem dX6_canAnswer_17 : decode cX6_canAnswer 17 = .ok (.aaload, 1) := by decide +kernel
theorem dX6_canAnswer_18 : decode cX6_canAnswer 18 = .ok (.iload 4, 2) := by decide +kernel
theorem dX6_canAnswer_20 : decode cX6_canAnswer 20 = .ok (.iaload, 1) := by decide +kernel
theorem dX6_canAnswer_21 : decode cX6_canAnswer 21 = .ok (.istore 5, 2) := by decide +kernel
theorem dX6_canAnswer_23 : decode cX6_canAnswer 23 = .ok (.aload_n 0, 1) := by decide +kernel
theorem dX6_canAnswer_24 : decode cX6_canAnswer 24 = .ok (.getfield 18, 3) := by decide +kernel
theorem dX6_canAnswer_27 : decode cX6_canAnswer 27 = .ok (.iload_n 2, 1) := by decide +kernel
theorem dX6_canAnswer_28 : decode cX6_canAnswer 28 = .ok (.iaload, 1) := by decide +kernel
theorem dX6_canAnswer_29 : decode cX6_canAnswer 29 = .ok (.iload 4, 2) := by decide +kernel
theorem dX6_canAnswer_31 : decode cX6_canAnswer 31 = .ok (.invokestatic 69, 3) := by decide +kernel
theorem dX6_canAnswer_34 : decode cX6_canAnswer 34 = .ok (.ifCond .eq 17, 3) := by decide +kernel
theorem dX6_canAnswer_37 : decode cX6_canAnswer 37 = .ok (.iload 5, 2) := by decide +kernel
theorem dX6_canAnswer_39 : decode cX6_canAnswer 39 = .ok (.iconst (-1), 1) := by decide +kernel
theorem dX6_canAnswer_40 : decode cX6_canAnswer 40 = .ok (.if_icmp .eq 11, 3) := by decide +kernel
theorem dX6_canAnswer_43 : decode cX6_canAnswer 43 = .ok (.iload 5, 2) := by decide +kernel
theorem dX6_canAnswer_45 : decode cX6_canAnswer 45 = .ok (.iload_n 3, 1) := by decide +kernel
theorem dX6_canAnswer_46 : decode cX6_canAnswer 46 = .ok (.if_icmp .ge 5, 3) := by decide +kernel
theorem dX6_canAnswer_49 : decode cX6_canAnswer 49 = .ok (.iconst 1, 1) := by decide +kernel
theorem dX6_canAnswer_50 : decode cX6_canAnswer 50 = .ok (.ireturn, 1) := by decide +kernel
theorem dX6_canAnswer_51 : decode cX6_canAnswer 51 = .ok (.iinc 4 1, 3) := by decide +kernel
theorem dX6_canAnswer_54 : decode cX6_canAnswer 54 = .ok (.goto (-51), 3) := by decide +kernel
theorem dX6_canAnswer_57 : decode cX6_canAnswer 57 = .ok (.iconst 0, 1) := by decide +kernel
theorem dX6_canAnswer_58 : decode cX6_canAnswer 58 = .ok (.ireturn, 1) := by decide +kernel
theorem dJ11_isValidCodePoint_9a6ad_0 : decode cJ11_isValidCodePoint_9a6ad 0 = .ok (.iload_n 0, 1) := by decide +kernel
theorem dJ11_isValidCodePoint_9a6ad_1 : decode cJ11_isValidCodePoint_9a6ad 1 = .ok (.bipush 16, 2) := by decide +kernel
theorem dJ11_isValidCodePoint_9a6ad_3 : decode cJ11_isValidCodePoint_9a6ad 3 = .ok (.iushr, 1) := by decide +kernel
theorem dJ11_isValidCodePoint_9a6ad_4 : decode cJ11_isValidCodePoint_9a6ad 4 = .ok (.istore_n 1, 1) := by decide +kernel
theorem dJ11_isValidCodePoint_9a6ad_5 : decode cJ11_isValidCodePoint_9a6ad 5 = .ok (.iload_n 1, 1) := by decide +kernel
theorem dJ11_isValidCodePoint_9a6ad_6 : decode cJ11_isValidCodePoint_9a6ad 6 = .ok (.bipush 17, 2) := by decide +kernel
theorem dJ11_isValidCodePoint_9a6ad_8 : decode cJ11_isValidCodePoint_9a6ad 8 = .ok (.if_icmp .ge 7, 3) := by decide +kernel
theorem dJ11_isValidCodePoint_9a6ad_11 : decode cJ11_isValidCodePoint_9a6ad 11 = .ok (.iconst 1, 1) := by decide +kernel
theorem dJ11_isValidCodePoint_9a6ad_12 : decode cJ11_isValidCodePoint_9a6ad 12 = .ok (.goto 4, 3) := by decide +kernel
theorem dJ11_isValidCodePoint_9a6ad_15 : decode cJ11_isValidCodePoint_9a6ad 15 = .ok (.iconst 0, 1) := by decide +kernel
theorem dJ11_isValidCodePoint_9a6ad_16 : decode cJ11_isValidCodePoint_9a6ad 16 = .ok (.ireturn, 1) := by decide +kernel
theorem dJ11_highSurrogate_5068e_0 : decode cJ11_highSurrogate_5068e 0 = .ok (.iload_n 0, 1) := by decide +kernel
theorem dJ11_highSurrogate_5068e_1 : decode cJ11_highSurrogate_5068e 1 = .ok (.bipush 10, 2) := by decide +kernel
theorem dJ11_highSurrogate_5068e_3 : decode cJ11_highSurrogate_5068e 3 = .ok (.iushr, 1) := by decide +kernel
theorem dJ11_highSurrogate_5068e_4 : decode cJ11_highSurrogate_5068e 4 = .ok (.ldc 110, 2) := by decide +kernel
theorem dJ11_highSurrogate_5068e_6 : decode cJ11_highSurrogate_5068e 6 = .ok (.iadd, 1) := by decide +kernel
theorem dJ11_highSurrogate_5068e_7 : decode cJ11_highSurrogate_5068e 7 = .ok (.i2c, 1) := by decide +kernel
theorem dJ11_highSurrogate_5068e_8 : decode cJ11_highSurrogate_5068e 8 = .ok (.ireturn, 1) := by decide +kernel
theorem dJ11_lowSurrogate_5068e_0 : decode cJ11_lowSurrogate_5068e 0 = .ok (.iload_n 0, 1) := by decide +kernel
theorem dJ11_lowSurrogate_5068e_1 : decode cJ11_lowSurrogate_5068e 1 = .ok (.sipush 1023, 3) := by decide +kernel
theorem dJ11_lowSurrogate_5068e_4 : decode cJ11_lowSurrogate_5068e 4 = .ok (.iand, 1) := by decide +kernel
theorem dJ11_lowSurrogate_5068e_5 : decode cJ11_lowSurrogate_5068e 5 = .ok (.ldc 76, 2) := by decide +kernel
theorem dJ11_lowSurrogate_5068e_7 : decode cJ11_lowSurrogate_5068e 7 = .ok (.iadd, 1) := by decide +kernel
theorem dJ11_lowSurrogate_5068e_8 : decode cJ11_lowSurrogate_5068e 8 = .ok (.i2c, 1) := by decide +kernel
theorem dJ11_lowSurrogate_5068e_9 : decode cJ11_lowSurrogate_5068e 9 = .ok (.ireturn, 1) := by decide +kernel
theorem dJ6_bitCount_0f7a4_0 : decode cJ6_bitCount_0f7a4 0 = .ok (.iload_n 0, 1) := by decide +kernel
theorem dJ6_bitCount_0f7a4_1 : decode cJ6_bitCount_0f7a4 1 = .ok (.iload_n 0, 1) := by decide +kernel
theorem dJ6_bitCount_0f7a4_2 : decode cJ6_bitCount_0f7a4 2 = .ok (.iconst 1, 1) := by decide +kernel
theorem dJ6_bitCount_0f7a4_3 : decode cJ6_bitCount_0f7a4 3 = .ok (.iushr, 1) := by decide +kernel
theorem dJ6_bitCount_0f7a4_4 : decode cJ6_bitCount_0f7a4 4 = .ok (.ldc_w 265, 3) := by decide +kernel
theorem dJ6_bitCount_0f7a4_7 : decode cJ6_bitCount_0f7a4 7 = .ok (.iand, 1) := by decide +kernel
theorem dJ6_bitCount_0f7a4_8 : decode cJ6_bitCount_0f7a4 8 = .ok (.isub, 1) := by decide +kernel
theorem dJ6_bitCount_0f7a4_9 : decode cJ6_bitCount_0f7a4 9 = .ok (.istore_n 0, 1) := by decide +kernel
theorem dJ6_bitCount_0f7a4_10 : decode cJ6_bitCount_0f7a4 10 = .ok (.iload_n 0, 1) := by decide +kernel
theorem dJ6_bitCount_0f7a4_11 : decode cJ6_bitCount_0f7a4 11 = .ok (.ldc_w 266, 3) := by decide +kernel
theorem dJ6_bitCount_0f7a4_14 : decode cJ6_bitCount_0f7a4 14 = .ok (.iand, 1) := by decide +kernel
theorem dJ6_bitCount_0f7a4_15 : decode cJ6_bitCount_0f7a4 15 = .ok (.iload_n 0, 1) := by decide +kernel
theorem dJ6_bitCount_0f7a4_16 : decode cJ6_bitCount_0f7a4 16 = .ok (.iconst 2, 1) := by decide +kernel
theorem dJ6_bitCount_0f7a4_17 : decode cJ6_bitCount_0f7a4 17 = .ok (.iushr, 1) := by decide +kernel
theorem dJ6_bitCount_0f7a4_18 : decode cJ6_bitCount_0f7a4 18 = .ok (.ldc_w 266, 3) := by decide +kernel
theorem dJ6_bitCount_0f7a4_21 : decode cJ6_bitCount_0f7a4 21 = .ok (.iand, 1) := by decide +kernel
theorem dJ6_bitCount_0f7a4_22 : decode cJ6_bitCount_0f7a4 22 = .ok (.iadd, 1) := by decide +kernel
theorem dJ6_bitCount_0f7a4_23 : decode cJ6_bitCount_0f7a4 23 = .ok (.istore_n 0, 1) := by decide +kernel
theorem dJ6_bitCount_0f7a4_24 : decode cJ6_bitCount_0f7a4 24 = .ok (.iload_n 0, 1) := by decide +kernel
theorem dJ6_bitCount_0f7a4_25 : decode cJ6_bitCount_0f7a4 25 = .ok (.iload_n 0, 1) := by decide +kernel
theorem dJ6_bitCount_0f7a4_26 : decode cJ6_bitCount_0f7a4 26 = .ok (.iconst 4, 1) := by decide +kernel
theorem dJ6_bitCount_0f7a4_27 : decode cJ6_bitCount_0f7a4 27 = .ok (.iushr, 1) := by decide +kernel
theorem dJ6_bitCount_0f7a4_28 : decode cJ6_bitCount_0f7a4 28 = .ok (.iadd, 1) := by decide +kernel
theorem dJ6_bitCount_0f7a4_29 : decode cJ6_bitCount_0f7a4 29 = .ok (.ldc_w 267, 3) := by decide +kernel
theorem dJ6_bitCount_0f7a4_32 : decode cJ6_bitCount_0f7a4 32 = .ok (.iand, 1) := by decide +kernel
theorem dJ6_bitCount_0f7a4_33 : decode cJ6_bitCount_0f7a4 33 = .ok (.istore_n 0, 1) := by decide +kernel
theorem dJ6_bitCount_0f7a4_34 : decode cJ6_bitCount_0f7a4 34 = .ok (.iload_n 0, 1) := by decide +kernel
theorem dJ6_bitCount_0f7a4_35 : decode cJ6_bitCount_0f7a4 35 = .ok (.iload_n 0, 1) := by decide +kernel
theorem dJ6_bitCount_0f7a4_36 : decode cJ6_bitCount_0f7a4 36 = .ok (.bipush 8, 2) := by decide +kernel
theorem dJ6_bitCount_0f7a4_38 : decode cJ6_bitCount_0f7a4 38 = .ok (.iushr, 1) := by decide +kernel
theorem dJ6_bitCount_0f7a4_39 : decode cJ6_bitCount_0f7a4 39 = .ok (.iadd, 1) := by decide +kernel
theorem dJ6_bitCount_0f7a4_40 : decode cJ6_bitCount_0f7a4 40 = .ok (.istore_n 0, 1) := by decide +kernel
theorem dJ6_bitCount_0f7a4_41 : decode cJ6_bitCount_0f7a4 41 = .ok (.iload_n 0, 1) := by decide +kernel
theorem dJ6_bitCount_0f7a4_42 : decode cJ6_bitCount_0f7a4 42 = .ok (.iload_n 0, 1) := by decide +kernel
theorem dJ6_bitCount_0f7a4_43 : decode cJ6_bitCount_0f7a4 43 = .ok (.bipush 16, 2) := by decide +kernel
theorem dJ6_bitCount_0f7a4_45 : decode cJ6_bitCount_0f7a4 45 = .ok (.iushr, 1) := by decide +kernel
theorem dJ6_bitCount_0f7a4_46 : decode cJ6_bitCount_0f7a4 46 = .ok (.iadd, 1) := by decide +kernel
theorem dJ6_bitCount_0f7a4_47 : decode cJ6_bitCount_0f7a4 47 = .ok (.istore_n 0, 1) := by decide +kernel
theorem dJ6_bitCount_0f7a4_48 : decode cJ6_bitCount_0f7a4 48 = .ok (.iload_n 0, 1) := by decide +kernel
theorem dJ6_bitCount_0f7a4_49 : decode cJ6_bitCount_0f7a4 49 = .ok (.bipush 63, 2) := by decide +kernel
theorem dJ6_bitCount_0f7a4_51 : decode cJ6_bitCount_0f7a4 51 = .ok (.iand, 1) := by decide +kernel
theorem dJ6_bitCount_0f7a4_52 : decode cJ6_bitCount_0f7a4 52 = .ok (.ireturn, 1) := by decide +kernel
theorem dJ9_max_7cf53_0 : decode cJ9_max_7cf53 0 = .ok (.iload_n 0, 1) := by decide +kernel
theorem dJ9_max_7cf53_1 : decode cJ9_max_7cf53 1 = .ok (.iload_n 1, 1) := by decide +kernel
theorem dJ9_max_7cf53_2 : decode cJ9_max_7cf53 2 = .ok (.if_icmp .lt 7, 3) := by decide +kernel
theorem dJ9_max_7cf53_5 : decode cJ9_max_7cf53 5 = .ok (.iload_n 0, 1) := by decide +kernel
theorem dJ9_max_7cf53_6 : decode cJ9_max_7cf53 6 = .ok (.goto 4, 3) := by decide +kernel
theorem dJ9_max_7cf53_9 : decode cJ9_max_7cf53 9 = .ok (.iload_n 1, 1) := by decide +kernel
theorem dJ9_max_7cf53_10 : decode cJ9_max_7cf53 10 = .ok (.ireturn, 1) := by decide +kernel
theorem dJ9_max_f86c9_0 : decode cJ9_max_f86c9 0 = .ok (.lload_n 0, 1) := by decide +kernel
theorem dJ9_max_f86c9_1 : decode cJ9_max_f86c9 1 = .ok (.lload_n 2, 1) := by decide +kernel
theorem dJ9_max_f86c9_2 : decode cJ9_max_f86c9 2 = .ok (.lcmp, 1) := by decide +kernel
theorem dJ9_max_f86c9_3 : decode cJ9_max_f86c9 3 = .ok (.ifCond .lt 7, 3) := by decide +kernel
theorem dJ9_max_f86c9_6 : decode cJ9_max_f86c9 6 = .ok (.lload_n 0, 1) := by decide +kernel
theorem dJ9_max_f86c9_7 : decode cJ9_max_f86c9 7 = .ok (.goto 4, 3) := by decide +kernel
theorem dJ9_max_f86c9_10 : decode cJ9_max_f86c9 10 = .ok (.lload_n 2, 1) := by decide +kernel
theorem dJ9_max_f86c9_11 : decode cJ9_max_f86c9 11 = .ok (.lreturn, 1) := by decide +kernel
theorem dJ9_min_7cf53_0 : decode cJ9_min_7cf53 0 = .ok (.iload_n 0, 1) := by decide +kernel
theorem dJ9_min_7cf53_1 : decode cJ9_min_7cf53 1 = .ok (.iload_n 1, 1) := by decide +kernel
theorem dJ9_min_7cf53_2 : decode cJ9_min_7cf53 2 = .ok (.if_icmp .gt 7, 3) := by decide +kernel
theorem dJ9_min_7cf53_5 : decode cJ9_min_7cf53 5 = .ok (.iload_n 0, 1) := by decide +kernel
theorem dJ9_min_7cf53_6 : decode cJ9_min_7cf53 6 = .ok (.goto 4, 3) := by decide +kernel
theorem dJ9_min_7cf53_9 : decode cJ9_min_7cf53 9 = .ok (.iload_n 1, 1) := by decide +kernel
theorem dJ9_min_7cf53_10 : decode cJ9_min_7cf53 10 = .ok (.ireturn, 1) := by decide +kernel
theorem dJ0_length_8abf5_0 : decode cJ0_length_8abf5 0 = .ok (.aload_n 0, 1) := by decide +kernel
theorem dJ0_length_8abf5_1 : decode cJ0_length_8abf5 1 = .ok (.getfield 9, 3) := by decide +kernel
theorem dJ0_length_8abf5_4 : decode cJ0_length_8abf5 4 = .ok (.arraylength, 1) := by decide +kernel
theorem dJ0_length_8abf5_5 : decode cJ0_length_8abf5 5 = .ok (.aload_n 0, 1) := by decide +kernel
theorem dJ0_length_8abf5_6 : decode cJ0_length_8abf5 6 = .ok (.invokevirtual 335, 3) := by decide +kernel
theorem dJ0_length_8abf5_9 : decode cJ0_length_8abf5 9 = .ok (.ishr, 1) := by decide +kernel
theorem dJ0_length_8abf5_10 : decode cJ0_length_8abf5 10 = .ok (.ireturn, 1) := by decide +kernel
theorem dJ0_indexOf_0f7a4_0 : decode cJ0_indexOf_0f7a4 0 = .ok (.aload_n 0, 1) := by decide +kernel
theorem dJ0_indexOf_0f7a4_1 : decode cJ0_indexOf_0f7a4 1 = .ok (.iload_n 1, 1) := by decide +kernel
theorem dJ0_indexOf_0f7a4_2 : decode cJ0_indexOf_0f7a4 2 = .ok (.iconst 0, 1) := by decide +kernel
theorem dJ0_indexOf_0f7a4_3 : decode cJ0_indexOf_0f7a4 3 = .ok (.invokevirtual 633, 3) := by decide +kernel
theorem dJ0_indexOf_0f7a4_6 : decode cJ0_indexOf_0f7a4 6 = .ok (.ireturn, 1) := by decide +kernel
theorem dJ0_indexOf_7cf53_0 : decode cJ0_indexOf_7cf53 0 = .ok (.aload_n 0, 1) := by decide +kernel
theorem dJ0_indexOf_7cf53_1 : decode cJ0_indexOf_7cf53 1 = .ok (.invokevirtual 492, 3) := by decide +kernel
theorem dJ0_indexOf_7cf53_4 : decode cJ0_indexOf_7cf53 4 = .ok (.ifCond .eq 19, 3) := by decide +kernel
theorem dJ0_indexOf_7cf53_7 : decode cJ0_indexOf_7cf53 7 = .ok (.aload_n 0, 1) := by decide +kernel
theorem dJ0_indexOf_7cf53_8 : decode cJ0_indexOf_7cf53 8 = .ok (.getfield 9, 3) := by decide +kernel
theorem dJ0_indexOf_7cf53_11 : decode cJ0_indexOf_7cf53 11 = .ok (.iload_n 1, 1) := by decide +kernel
theorem dJ0_indexOf_7cf53_12 : decode cJ0_indexOf_7cf53 12 = .ok (.iload_n 2, 1) := by decide +kernel
theorem dJ0_indexOf_7cf53_13 : decode cJ0_indexOf_7cf53 13 = .ok (.aload_n 0, 1) := by decide +kernel
theorem dJ0_indexOf_7cf53_14 : decode cJ0_indexOf_7cf53 14 = .ok (.invokevirtual 505, 3) := by decide +kernel
theorem dJ0_indexOf_7cf53_17 : decode cJ0_indexOf_7cf53 17 = .ok (.invokestatic 637, 3) := by decide +kernel
theorem dJ0_indexOf_7cf53_20 : decode cJ0_indexOf_7cf53 20 = .ok (.goto 16, 3) := by decide +kernel
theorem dJ0_indexOf_7cf53_23 : decode cJ0_indexOf_7cf53 23 = .ok (.aload_n 0, 1) := by decide +kernel
theorem dJ0_indexOf_7cf53_24 : decode cJ0_indexOf_7cf53 24 = .ok (.getfield 9, 3) := by decide +kernel
theorem dJ0_indexOf_7cf53_27 : decode cJ0_indexOf_7cf53 27 = .ok (.iload_n 1, 1) := by decide +kernel
theorem dJ0_indexOf_7cf53_28 : decode cJ0_indexOf_7cf53 28 = .ok (.iload_n 2, 1) := by decide +kernel
theorem dJ0_indexOf_7cf53_29 : decode cJ0_indexOf_7cf53 29 = .ok (.aload_n 0, 1) := by decide +kernel
theorem dJ0_indexOf_7cf53_30 : decode cJ0_indexOf_7cf53 30 = .ok (.invokevirtual 505, 3) := by decide +kernel
theorem dJ0_indexOf_7cf53_33 : decode cJ0_indexOf_7cf53 33 = .ok (.invokestatic 640, 3) := by decide +kernel
theorem dJ0_indexOf_7cf53_36 : decode cJ0_indexOf_7cf53 36 = .ok (.ireturn, 1) := by decide +kernel
theorem dJ0_coder_7d493_0 : decode cJ0_coder_7d493 0 = .ok (.getstatic 38, 3) := by decide +kernel
theorem dJ0_coder_7d493_3 : decode cJ0_coder_7d493 3 = .ok (.ifCond .eq 10, 3) := by decide +kernel
theorem dJ0_coder_7d493_6 : decode cJ0_coder_7d493 6 = .ok (.aload_n 0, 1) := by decide +kernel
theorem dJ0_coder_7d493_7 : decode cJ0_coder_7d493 7 = .ok (.getfield 15, 3) := by decide +kernel
theorem dJ0_coder_7d493_10 : decode cJ0_coder_7d493 10 = .ok (.goto 4, 3) := by decide +kernel
theorem dJ0_coder_7d493_13 : decode cJ0_coder_7d493 13 = .ok (.iconst 1, 1) := by decide +kernel
theorem dJ0_coder_7d493_14 : decode cJ0_coder_7d493 14 = .ok (.ireturn, 1) := by decide +kernel
theorem dJ0_isLatin1_aae02_0 : decode cJ0_isLatin1_aae02 0 = .ok (.getstatic 38, 3) := by decide +kernel
theorem dJ0_isLatin1_aae02_3 : decode cJ0_isLatin1_aae02 3 = .ok (.ifCond .eq 14, 3) := by decide +kernel
theorem dJ0_isLatin1_aae02_6 : decode cJ0_isLatin1_aae02 6 = .ok (.aload_n 0, 1) := by decide +kernel
theorem dJ0_isLatin1_aae02_7 : decode cJ0_isLatin1_aae02 7 = .ok (.getfield 15, 3) := by decide +kernel
theorem dJ0_isLatin1_aae02_10 : decode cJ0_isLatin1_aae02 10 = .ok (.ifCond .ne 7, 3) := by decide +kernel
theorem dJ0_isLatin1_aae02_13 : decode cJ0_isLatin1_aae02 13 = .ok (.iconst 1, 1) := by decide +kernel
theorem dJ0_isLatin1_aae02_14 : decode cJ0_isLatin1_aae02 14 = .ok (.goto 4, 3) := by decide +kernel
theorem dJ0_isLatin1_aae02_17 : decode cJ0_isLatin1_aae02 17 = .ok (.iconst 0, 1) := by decide +kernel
theorem dJ0_isLatin1_aae02_18 : decode cJ0_isLatin1_aae02 18 = .ok (.ireturn, 1) := by decide +kernel
theorem dJ0_checkBoundsBeginEnd_23922_0 : decode cJ0_checkBoundsBeginEnd_23922 0 = .ok (.iload_n 0, 1) := by decide +kernel
theorem dJ0_checkBoundsBeginEnd_23922_1 : decode cJ0_checkBoundsBeginEnd_23922 1 = .ok (.iload_n 1, 1) := by decide +kernel
theorem dJ0_checkBoundsBeginEnd_23922_2 : decode cJ0_checkBoundsBeginEnd_23922 2 = .ok (.iload_n 2, 1) := by decide +kernel
theorem dJ0_checkBoundsBeginEnd_23922_3 : decode cJ0_checkBoundsBeginEnd_23922 3 = .ok (.getstatic 1053, 3) := by decide +kernel
theorem dJ0_checkBoundsBeginEnd_23922_6 : decode cJ0_checkBoundsBeginEnd_23922 6 = .ok (.invokestatic 1062, 3) := by decide +kernel
theorem dJ0_checkBoundsBeginEnd_23922_9 : decode cJ0_checkBoundsBeginEnd_23922 9 = .ok (.pop, 1) := by decide +kernel
theorem dJ0_checkBoundsBeginEnd_23922_10 : decode cJ0_checkBoundsBeginEnd_23922 10 = .ok (.return_, 1) := by decide +kernel
theorem dJ1_canEncode_9a6ad_0 : decode cJ1_canEncode_9a6ad 0 = .ok (.iload_n 0, 1) := by decide +kernel
theorem dJ1_canEncode_9a6ad_1 : decode cJ1_canEncode_9a6ad 1 = .ok (.ifCond .lt 14, 3) := by decide +kernel
theorem dJ1_canEncode_9a6ad_4 : decode cJ1_canEncode_9a6ad 4 = .ok (.iload_n 0, 1) := by decide +kernel
theorem dJ1_canEncode_9a6ad_5 : decode cJ1_canEncode_9a6ad 5 = .ok (.sipush 255, 3) := by decide +kernel
theorem dJ1_canEncode_9a6ad_8 : decode cJ1_canEncode_9a6ad 8 = .ok (.if_icmp .gt 7, 3) := by decide +kernel
theorem dJ1_canEncode_9a6ad_11 : decode cJ1_canEncode_9a6ad 11 = .ok (.iconst 1, 1) := by decide +kernel
theorem dJ1_canEncode_9a6ad_12 : decode cJ1_canEncode_9a6ad 12 = .ok (.goto 4, 3) := by decide +kernel
theorem dJ1_canEncode_9a6ad_15 : decode cJ1_canEncode_9a6ad 15 = .ok (.iconst 0, 1) := by decide +kernel
theorem dJ1_canEncode_9a6ad_16 : decode cJ1_canEncode_9a6ad 16 = .ok (.ireturn, 1) := by decide +kernel
theorem dJ1_indexOf_4cfef_0 : decode cJ1_indexOf_4cfef 0 = .ok (.iload_n 1, 1) := by decide +kernel
theorem dJ1_indexOf_4cfef_1 : decode cJ1_indexOf_4cfef 1 = .ok (.invokestatic 88, 3) := by decide +kernel
theorem dJ1_indexOf_4cfef_4 : decode cJ1_indexOf_4cfef 4 = .ok (.ifCond .ne 5, 3) := by decide +kernel
theorem dJ1_indexOf_4cfef_7 : decode cJ1_indexOf_4cfef 7 = .ok (.iconst (-1), 1) := by decide +kernel
theorem dJ1_indexOf_4cfef_8 : decode cJ1_indexOf_4cfef 8 = .ok (.ireturn, 1) := by decide +kernel
theorem dJ1_indexOf_4cfef_9 : decode cJ1_indexOf_4cfef 9 = .ok (.iload_n 2, 1) := by decide +kernel
theorem dJ1_indexOf_4cfef_10 : decode cJ1_indexOf_4cfef 10 = .ok (.iconst 0, 1) := by decide +kernel
theorem dJ1_indexOf_4cfef_11 : decode cJ1_indexOf_4cfef 11 = .ok (.invokestatic 92, 3) := by decide +kernel
theorem dJ1_indexOf_4cfef_14 : decode cJ1_indexOf_4cfef 14 = .ok (.istore_n 2, 1) := by decide +kernel
theorem dJ1_indexOf_4cfef_15 : decode cJ1_indexOf_4cfef 15 = .ok (.iload_n 3, 1) := by decide +kernel
theorem dJ1_indexOf_4cfef_16 : decode cJ1_indexOf_4cfef 16 = .ok (.aload_n 0, 1) := by decide +kernel
theorem dJ1_indexOf_4cfef_17 : decode cJ1_indexOf_4cfef 17 = .ok (.arraylength, 1) := by decide +kernel
theorem dJ1_indexOf_4cfef_18 : decode cJ1_indexOf_4cfef 18 = .ok (.invokestatic 38, 3) := by decide +kernel
theorem dJ1_indexOf_4cfef_21 : decode cJ1_indexOf_4cfef 21 = .ok (.istore_n 3, 1) := by decide +kernel
theorem dJ1_indexOf_4cfef_22 : decode cJ1_indexOf_4cfef 22 = .ok (.iload_n 2, 1) := by decide +kernel
theorem dJ1_indexOf_4cfef_23 : decode cJ1_indexOf_4cfef 23 = .ok (.iload_n 3, 1) := by decide +kernel
theorem dJ1_indexOf_4cfef_24 : decode cJ1_indexOf_4cfef 24 = .ok (.if_icmp .lt 5, 3) := by decide +kernel
theorem dJ1_indexOf_4cfef_27 : decode cJ1_indexOf_4cfef 27 = .ok (.iconst (-1), 1) := by decide +kernel
theorem dJ1_indexOf_4cfef_28 : decode cJ1_indexOf_4cfef 28 = .ok (.ireturn, 1) := by decide +kernel
theorem dJ1_indexOf_4cfef_29 : decode cJ1_indexOf_4cfef 29 = .ok (.aload_n 0, 1) := by decide +kernel
theorem dJ1_indexOf_4cfef_30 : decode cJ1_indexOf_4cfef 30 = .ok (.iload_n 1, 1) := by decide +kernel
theorem dJ1_indexOf_4cfef_31 : decode cJ1_indexOf_4cfef 31 = .ok (.iload_n 2, 1) := by decide +kernel
theorem dJ1_indexOf_4cfef_32 : decode cJ1_indexOf_4cfef 32 = .ok (.iload_n 3, 1) := by decide +kernel
theorem dJ1_indexOf_4cfef_33 : decode cJ1_indexOf_4cfef 33 = .ok (.invokestatic 95, 3) := by decide +kernel
theorem dJ1_indexOf_4cfef_36 : decode cJ1_indexOf_4cfef 36 = .ok (.ireturn, 1) := by decide +kernel
theorem dJ1_indexOfChar_4cfef_0 : decode cJ1_indexOfChar_4cfef 0 = .ok (.iload_n 1, 1) := by decide +kernel
theorem dJ1_indexOfChar_4cfef_1 : decode cJ1_indexOfChar_4cfef 1 = .ok (.i2b, 1) := by decide +kernel
theorem dJ1_indexOfChar_4cfef_2 : decode cJ1_indexOfChar_4cfef 2 = .ok (.istore 4, 2) := by decide +kernel
theorem dJ1_indexOfChar_4cfef_4 : decode cJ1_indexOfChar_4cfef 4 = .ok (.iload_n 2, 1) := by decide +kernel
theorem dJ1_indexOfChar_4cfef_5 : decode cJ1_indexOfChar_4cfef 5 = .ok (.istore 5, 2) := by decide +kernel
theorem dJ1_indexOfChar_4cfef_7 : decode cJ1_indexOfChar_4cfef 7 = .ok (.iload 5, 2) := by decide +kernel
theorem dJ1_indexOfChar_4cfef_9 : decode cJ1_indexOfChar_4cfef 9 = .ok (.iload_n 3, 1) := by decide +kernel
theorem dJ1_indexOfChar_4cfef_10 : decode cJ1_indexOfChar_4cfef 10 = .ok (.if_icmp .ge 21, 3) := by decide +kernel
theorem dJ1_indexOfChar_4cfef_13 : decode cJ1_indexOfChar_4cfef 13 = .ok (.aload_n 0, 1) := by decide +kernel
theorem dJ1_indexOfChar_4cfef_14 : decode cJ1_indexOfChar_4cfef 14 = .ok (.iload 5, 2) := by decide +kernel
theorem dJ1_indexOfChar_4cfef_16 : decode cJ1_indexOfChar_4cfef 16 = .ok (.baload, 1) := by decide +kernel
theorem dJ1_indexOfChar_4cfef_17 : decode cJ1_indexOfChar_4cfef 17 = .ok (.iload 4, 2) := by decide +kernel
theorem dJ1_indexOfChar_4cfef_19 : decode cJ1_indexOfChar_4cfef 19 = .ok (.if_icmp .ne 6, 3) := by decide +kernel
theorem dJ1_indexOfChar_4cfef_22 : decode cJ1_indexOfChar_4cfef 22 = .ok (.iload 5, 2) := by decide +kernel
theorem dJ1_indexOfChar_4cfef_24 : decode cJ1_indexOfChar_4cfef 24 = .ok (.ireturn, 1) := by decide +kernel
theorem dJ1_indexOfChar_4cfef_25 : decode cJ1_indexOfChar_4cfef 25 = .ok (.iinc 5 1, 3) := by decide +kernel
theorem dJ1_indexOfChar_4cfef_28 : decode cJ1_indexOfChar_4cfef 28 = .ok (.goto (-21), 3) := by decide +kernel
theorem dJ1_indexOfChar_4cfef_31 : decode cJ1_indexOfChar_4cfef 31 = .ok (.iconst (-1), 1) := by decide +kernel
theorem dJ1_indexOfChar_4cfef_32 : decode cJ1_indexOfChar_4cfef 32 = .ok (.ireturn, 1) := by decide +kernel
theorem dJ2_getChar_3b067_0 : decode cJ2_getChar_3b067 0 = .ok (.getstatic 44, 3) := by decide +kernel
theorem dJ2_getChar_3b067_3 : decode cJ2_getChar_3b067 3 = .ok (.ifCond .ne 25, 3) := by decide +kernel
theorem dJ2_getChar_3b067_6 : decode cJ2_getChar_3b067 6 = .ok (.iload_n 1, 1) := by decide +kernel
theorem dJ2_getChar_3b067_7 : decode cJ2_getChar_3b067 7 = .ok (.ifCond .lt 11, 3) := by decide +kernel
theorem dJ2_getChar_3b067_10 : decode cJ2_getChar_3b067 10 = .ok (.iload_n 1, 1) := by decide +kernel
theorem dJ2_getChar_3b067_11 : decode cJ2_getChar_3b067 11 = .ok (.aload_n 0, 1) := by decide +kernel
theorem dJ2_getChar_3b067_12 : decode cJ2_getChar_3b067 12 = .ok (.invokestatic 48, 3) := by decide +kernel
theorem dJ2_getChar_3b067_15 : decode cJ2_getChar_3b067 15 = .ok (.if_icmp .lt 13, 3) := by decide +kernel
theorem dJ2_getChar_3b067_18 : decode cJ2_getChar_3b067 18 = .ok (.new 52, 3) := by decide +kernel
theorem dJ2_getChar_3b067_21 : decode cJ2_getChar_3b067 21 = .ok (.dup, 1) := by decide +kernel
theorem dJ2_getChar_3b067_22 : decode cJ2_getChar_3b067 22 = .ok (.ldc 54, 2) := by decide +kernel
theorem dJ2_getChar_3b067_24 : decode cJ2_getChar_3b067 24 = .ok (.invokespecial 56, 3) := by decide +kernel
theorem dJ2_getChar_3b067_27 : decode cJ2_getChar_3b067 27 = .ok (.athrow, 1) := by decide +kernel
theorem dJ2_getChar_3b067_28 : decode cJ2_getChar_3b067 28 = .ok (.iload_n 1, 1) := by decide +kernel
theorem dJ2_getChar_3b067_29 : decode cJ2_getChar_3b067 29 = .ok (.iconst 1, 1) := by decide +kernel
theorem dJ2_getChar_3b067_30 : decode cJ2_getChar_3b067 30 = .ok (.ishl, 1) := by decide +kernel
theorem dJ2_getChar_3b067_31 : decode cJ2_getChar_3b067 31 = .ok (.istore_n 1, 1) := by decide +kernel
theorem dJ2_getChar_3b067_32 : decode cJ2_getChar_3b067 32 = .ok (.aload_n 0, 1) := by decide +kernel
theorem dJ2_getChar_3b067_33 : decode cJ2_getChar_3b067 33 = .ok (.iload_n 1, 1) := by decide +kernel
theorem dJ2_getChar_3b067_34 : decode cJ2_getChar_3b067 34 = .ok (.iinc 1 1, 3) := by decide +kernel
theorem dJ2_getChar_3b067_37 : decode cJ2_getChar_3b067 37 = .ok (.baload, 1) := by decide +kernel
theorem dJ2_getChar_3b067_38 : decode cJ2_getChar_3b067 38 = .ok (.sipush 255, 3) := by decide +kernel
theorem dJ2_getChar_3b067_41 : decode cJ2_getChar_3b067 41 = .ok (.iand, 1) := by decide +kernel
theorem dJ2_getChar_3b067_42 : decode cJ2_getChar_3b067 42 = .ok (.getstatic 59, 3) := by decide +kernel
theorem dJ2_getChar_3b067_45 : decode cJ2_getChar_3b067 45 = .ok (.ishl, 1) := by decide +kernel
theorem dJ2_getChar_3b067_46 : decode cJ2_getChar_3b067 46 = .ok (.aload_n 0, 1) := by decide +kernel
theorem dJ2_getChar_3b067_47 : decode cJ2_getChar_3b067 47 = .ok (.iload_n 1, 1) := by decide +kernel
theorem dJ2_getChar_3b067_48 : decode cJ2_getChar_3b067 48 = .ok (.baload, 1) := by decide +kernel
theorem dJ2_getChar_3b067_49 : decode cJ2_getChar_3b067 49 = .ok (.sipush 255, 3) := by decide +kernel
theorem dJ2_getChar_3b067_52 : decode cJ2_getChar_3b067 52 = .ok (.iand, 1) := by decide +kernel
theorem dJ2_getChar_3b067_53 : decode cJ2_getChar_3b067 53 = .ok (.getstatic 63, 3) := by decide +kernel
theorem dJ2_getChar_3b067_56 : decode cJ2_getChar_3b067 56 = .ok (.ishl, 1) := by decide +kernel
theorem dJ2_getChar_3b067_57 : decode cJ2_getChar_3b067 57 = .ok (.ior, 1) := by decide +kernel
theorem dJ2_getChar_3b067_58 : decode cJ2_getChar_3b067 58 = .ok (.i2c, 1) := by decide +kernel
theorem dJ2_getChar_3b067_59 : decode cJ2_getChar_3b067 59 = .ok (.ireturn, 1) := by decide +kernel
theorem dJ2_length_9d52b_0 : decode cJ2_length_9d52b 0 = .ok (.aload_n 0, 1) := by decide +kernel
theorem dJ2_length_9d52b_1 : decode cJ2_length_9d52b 1 = .ok (.arraylength, 1) := by decide +kernel
theorem dJ2_length_9d52b_2 : decode cJ2_length_9d52b 2 = .ok (.iconst 1, 1) := by decide +kernel
theorem dJ2_length_9d52b_3 : decode cJ2_length_9d52b 3 = .ok (.ishr, 1) := by decide +kernel
theorem dJ2_length_9d52b_4 : decode cJ2_length_9d52b 4 = .ok (.ireturn, 1) := by decide +kernel
theorem dJ2_indexOf_4cfef_0 : decode cJ2_indexOf_4cfef 0 = .ok (.iload_n 2, 1) := by decide +kernel
theorem dJ2_indexOf_4cfef_1 : decode cJ2_indexOf_4cfef 1 = .ok (.iconst 0, 1) := by decide +kernel
theorem dJ2_indexOf_4cfef_2 : decode cJ2_indexOf_4cfef 2 = .ok (.invokestatic 224, 3) := by decide +kernel
theorem dJ2_indexOf_4cfef_5 : decode cJ2_indexOf_4cfef 5 = .ok (.istore_n 2, 1) := by decide +kernel
theorem dJ2_indexOf_4cfef_6 : decode cJ2_indexOf_4cfef 6 = .ok (.iload_n 3, 1) := by decide +kernel
theorem dJ2_indexOf_4cfef_7 : decode cJ2_indexOf_4cfef 7 = .ok (.aload_n 0, 1) := by decide +kernel
theorem dJ2_indexOf_4cfef_8 : decode cJ2_indexOf_4cfef 8 = .ok (.arraylength, 1) := by decide +kernel
theorem dJ2_indexOf_4cfef_9 : decode cJ2_indexOf_4cfef 9 = .ok (.iconst 1, 1) := by decide +kernel
theorem dJ2_indexOf_4cfef_10 : decode cJ2_indexOf_4cfef 10 = .ok (.ishr, 1) := by decide +kernel
theorem dJ2_indexOf_4cfef_11 : decode cJ2_indexOf_4cfef 11 = .ok (.invokestatic 183, 3) := by decide +kernel
theorem dJ2_indexOf_4cfef_14 : decode cJ2_indexOf_4cfef 14 = .ok (.istore_n 3, 1) := by decide +kernel
theorem dJ2_indexOf_4cfef_15 : decode cJ2_indexOf_4cfef 15 = .ok (.iload_n 2, 1) := by decide +kernel
theorem dJ2_indexOf_4cfef_16 : decode cJ2_indexOf_4cfef 16 = .ok (.iload_n 3, 1) := by decide +kernel
theorem dJ2_indexOf_4cfef_17 : decode cJ2_indexOf_4cfef 17 = .ok (.if_icmp .lt 5, 3) := by decide +kernel
theorem dJ2_indexOf_4cfef_20 : decode cJ2_indexOf_4cfef 20 = .ok (.iconst (-1), 1) := by decide +kernel
theorem dJ2_indexOf_4cfef_21 : decode cJ2_indexOf_4cfef 21 = .ok (.ireturn, 1) := by decide +kernel
theorem dJ2_indexOf_4cfef_22 : decode cJ2_indexOf_4cfef 22 = .ok (.iload_n 1, 1) := by decide +kernel
theorem dJ2_indexOf_4cfef_23 : decode cJ2_indexOf_4cfef 23 = .ok (.ldc 227, 2) := by decide +kernel
theorem dJ2_indexOf_4cfef_25 : decode cJ2_indexOf_4cfef 25 = .ok (.if_icmp .ge 11, 3) := by decide +kernel
theorem dJ2_indexOf_4cfef_28 : decode cJ2_indexOf_4cfef 28 = .ok (.aload_n 0, 1) := by decide +kernel
theorem dJ2_indexOf_4cfef_29 : decode cJ2_indexOf_4cfef 29 = .ok (.iload_n 1, 1) := by decide +kernel
theorem dJ2_indexOf_4cfef_30 : decode cJ2_indexOf_4cfef 30 = .ok (.iload_n 2, 1) := by decide +kernel
theorem dJ2_indexOf_4cfef_31 : decode cJ2_indexOf_4cfef 31 = .ok (.iload_n 3, 1) := by decide +kernel
theorem dJ2_indexOf_4cfef_32 : decode cJ2_indexOf_4cfef 32 = .ok (.invokestatic 228, 3) := by decide +kernel
theorem dJ2_indexOf_4cfef_35 : decode cJ2_indexOf_4cfef 35 = .ok (.ireturn, 1) := by decide +kernel
theorem dJ2_indexOf_4cfef_36 : decode cJ2_indexOf_4cfef 36 = .ok (.aload_n 0, 1) := by decide +kernel
theorem dJ2_indexOf_4cfef_37 : decode cJ2_indexOf_4cfef 37 = .ok (.iload_n 1, 1) := by decide +kernel
theorem dJ2_indexOf_4cfef_38 : decode cJ2_indexOf_4cfef 38 = .ok (.iload_n 2, 1) := by decide +kernel
theorem dJ2_indexOf_4cfef_39 : decode cJ2_indexOf_4cfef 39 = .ok (.iload_n 3, 1) := by decide +kernel
theorem dJ2_indexOf_4cfef_40 : decode cJ2_indexOf_4cfef 40 = .ok (.invokestatic 232, 3) := by decide +kernel
theorem dJ2_indexOf_4cfef_43 : decode cJ2_indexOf_4cfef 43 = .ok (.ireturn, 1) := by decide +kernel
theorem dJ2_indexOfChar_4cfef_0 : decode cJ2_indexOfChar_4cfef 0 = .ok (.iload_n 2, 1) := by decide +kernel
theorem dJ2_indexOfChar_4cfef_1 : decode cJ2_indexOfChar_4cfef 1 = .ok (.iload_n 3, 1) := by decide +kernel
theorem dJ2_indexOfChar_4cfef_2 : decode cJ2_indexOfChar_4cfef 2 = .ok (.aload_n 0, 1) := by decide +kernel
theorem dJ2_indexOfChar_4cfef_3 : decode cJ2_indexOfChar_4cfef 3 = .ok (.invokestatic 96, 3) := by decide +kernel
theorem dJ2_indexOfChar_4cfef_6 : decode cJ2_indexOfChar_4cfef 6 = .ok (.aload_n 0, 1) := by decide +kernel
theorem dJ2_indexOfChar_4cfef_7 : decode cJ2_indexOfChar_4cfef 7 = .ok (.iload_n 1, 1) := by decide +kernel
theorem dJ2_indexOfChar_4cfef_8 : decode cJ2_indexOfChar_4cfef 8 = .ok (.iload_n 2, 1) := by decide +kernel
theorem dJ2_indexOfChar_4cfef_9 : decode cJ2_indexOfChar_4cfef 9 = .ok (.iload_n 3, 1) := by decide +kernel
theorem dJ2_indexOfChar_4cfef_10 : decode cJ2_indexOfChar_4cfef 10 = .ok (.invokestatic 244, 3) := by decide +kernel
theorem dJ2_indexOfChar_4cfef_13 : decode cJ2_indexOfChar_4cfef 13 = .ok (.ireturn, 1) := by decide +kernel
theorem dJ2_indexOfCharUnsafe_4cfef_0 : decode cJ2_indexOfCharUnsafe_4cfef 0 = .ok (.iload_n 2, 1) := by decide +kernel
theorem dJ2_indexOfCharUnsafe_4cfef_1 : decode cJ2_indexOfCharUnsafe_4cfef 1 = .ok (.istore 4, 2) := by decide +kernel
theorem dJ2_indexOfCharUnsafe_4cfef_3 : decode cJ2_indexOfCharUnsafe_4cfef 3 = .ok (.iload 4, 2) := by decide +kernel
theorem dJ2_indexOfCharUnsafe_4cfef_5 : decode cJ2_indexOfCharUnsafe_4cfef 5 = .ok (.iload_n 3, 1) := by decide +kernel
theorem dJ2_indexOfCharUnsafe_4cfef_6 : decode cJ2_indexOfCharUnsafe_4cfef 6 = .ok (.if_icmp .ge 22, 3) := by decide +kernel
theorem dJ2_indexOfCharUnsafe_4cfef_9 : decode cJ2_indexOfCharUnsafe_4cfef 9 = .ok (.aload_n 0, 1) := by decide +kernel
theorem dJ2_indexOfCharUnsafe_4cfef_10 : decode cJ2_indexOfCharUnsafe_4cfef 10 = .ok (.iload 4, 2) := by decide +kernel
theorem dJ2_indexOfCharUnsafe_4cfef_12 : decode cJ2_indexOfCharUnsafe_4cfef 12 = .ok (.invokestatic 71, 3) := by decide +kernel
theorem dJ2_indexOfCharUnsafe_4cfef_15 : decode cJ2_indexOfCharUnsafe_4cfef 15 = .ok (.iload_n 1, 1) := by decide +kernel
theorem dJ2_indexOfCharUnsafe_4cfef_16 : decode cJ2_indexOfCharUnsafe_4cfef 16 = .ok (.if_icmp .ne 6, 3) := by decide +kernel
theorem dJ2_indexOfCharUnsafe_4cfef_19 : decode cJ2_indexOfCharUnsafe_4cfef 19 = .ok (.iload 4, 2) := by decide +kernel
theorem dJ2_indexOfCharUnsafe_4cfef_21 : decode cJ2_indexOfCharUnsafe_4cfef 21 = .ok (.ireturn, 1) := by decide +kernel
theorem dJ2_indexOfCharUnsafe_4cfef_22 : decode cJ2_indexOfCharUnsafe_4cfef 22 = .ok (.iinc 4 1, 3) := by decide +kernel
theorem dJ2_indexOfCharUnsafe_4cfef_25 : decode cJ2_indexOfCharUnsafe_4cfef 25 = .ok (.goto (-22), 3) := by decide +kernel
theorem dJ2_indexOfCharUnsafe_4cfef_28 : decode cJ2_indexOfCharUnsafe_4cfef 28 = .ok (.iconst (-1), 1) := by decide +kernel
theorem dJ2_indexOfCharUnsafe_4cfef_29 : decode cJ2_indexOfCharUnsafe_4cfef 29 = .ok (.ireturn, 1) := by decide +kernel
theorem dJ2_indexOfSupplementary_4cfef_0 : decode cJ2_indexOfSupplementary_4cfef 0 = .ok (.iload_n 1, 1) := by decide +kernel
theorem dJ2_indexOfSupplementary_4cfef_1 : decode cJ2_indexOfSupplementary_4cfef 1 = .ok (.invokestatic 164, 3) := by decide +kernel
theorem dJ2_indexOfSupplementary_4cfef_4 : decode cJ2_indexOfSupplementary_4cfef 4 = .ok (.ifCond .eq 65, 3) := by decide +kernel
theorem dJ2_indexOfSupplementary_4cfef_7 : decode cJ2_indexOfSupplementary_4cfef 7 = .ok (.iload_n 1, 1) := by decide +kernel
theorem dJ2_indexOfSupplementary_4cfef_8 : decode cJ2_indexOfSupplementary_4cfef 8 = .ok (.invokestatic 157, 3) := by decide +kernel
theorem dJ2_indexOfSupplementary_4cfef_11 : decode cJ2_indexOfSupplementary_4cfef 11 = .ok (.istore 4, 2) := by decide +kernel
theorem dJ2_indexOfSupplementary_4cfef_13 : decode cJ2_indexOfSupplementary_4cfef 13 = .ok (.iload_n 1, 1) := by decide +kernel
theorem dJ2_indexOfSupplementary_4cfef_14 : decode cJ2_indexOfSupplementary_4cfef 14 = .ok (.invokestatic 161, 3) := by decide +kernel
theorem dJ2_indexOfSupplementary_4cfef_17 : decode cJ2_indexOfSupplementary_4cfef 17 = .ok (.istore 5, 2) := by decide +kernel
theorem dJ2_indexOfSupplementary_4cfef_19 : decode cJ2_indexOfSupplementary_4cfef 19 = .ok (.iload_n 2, 1) := by decide +kernel
theorem dJ2_indexOfSupplementary_4cfef_20 : decode cJ2_indexOfSupplementary_4cfef 20 = .ok (.iload_n 3, 1) := by decide +kernel
theorem dJ2_indexOfSupplementary_4cfef_21 : decode cJ2_indexOfSupplementary_4cfef 21 = .ok (.aload_n 0, 1) := by decide +kernel
theorem dJ2_indexOfSupplementary_4cfef_22 : decode cJ2_indexOfSupplementary_4cfef 22 = .ok (.invokestatic 96, 3) := by decide +kernel
theorem dJ2_indexOfSupplementary_4cfef_25 : decode cJ2_indexOfSupplementary_4cfef 25 = .ok (.iload_n 2, 1) := by decide +kernel
theorem dJ2_indexOfSupplementary_4cfef_26 : decode cJ2_indexOfSupplementary_4cfef 26 = .ok (.istore 6, 2) := by decide +kernel
theorem dJ2_indexOfSupplementary_4cfef_28 : decode cJ2_indexOfSupplementary_4cfef 28 = .ok (.iload 6, 2) := by decide +kernel
theorem dJ2_indexOfSupplementary_4cfef_30 : decode cJ2_indexOfSupplementary_4cfef 30 = .ok (.iload_n 3, 1) := by decide +kernel
theorem dJ2_indexOfSupplementary_4cfef_31 : decode cJ2_indexOfSupplementary_4cfef 31 = .ok (.iconst 1, 1) := by decide +kernel
theorem dJ2_indexOfSupplementary_4cfef_32 : decode cJ2_indexOfSupplementary_4cfef 32 = .ok (.isub, 1) := by decide +kernel
theorem dJ2_indexOfSupplementary_4cfef_33 : decode cJ2_indexOfSupplementary_4cfef 33 = .ok (.if_icmp .ge 36, 3) := by decide +kernel
theorem dJ2_indexOfSupplementary_4cfef_36 : decode cJ2_indexOfSupplementary_4cfef 36 = .ok (.aload_n 0, 1) := by decide +kernel
theorem dJ2_indexOfSupplementary_4cfef_37 : decode cJ2_indexOfSupplementary_4cfef 37 = .ok (.iload 6, 2) := by decide +kernel
theorem dJ2_indexOfSupplementary_4cfef_39 : decode cJ2_indexOfSupplementary_4cfef 39 = .ok (.invokestatic 71, 3) := by decide +kernel
theorem dJ2_indexOfSupplementary_4cfef_42 : decode cJ2_indexOfSupplementary_4cfef 42 = .ok (.iload 4, 2) := by decide +kernel
theorem dJ2_indexOfSupplementary_4cfef_44 : decode cJ2_indexOfSupplementary_4cfef 44 = .ok (.if_icmp .ne 19, 3) := by decide +kernel
theorem dJ2_indexOfSupplementary_4cfef_47 : decode cJ2_indexOfSupplementary_4cfef 47 = .ok (.aload_n 0, 1) := by decide +kernel
theorem dJ2_indexOfSupplementary_4cfef_48 : decode cJ2_indexOfSupplementary_4cfef 48 = .ok (.iload 6, 2) := by decide +kernel
theorem dJ2_indexOfSupplementary_4cfef_50 : decode cJ2_indexOfSupplementary_4cfef 50 = .ok (.iconst 1, 1) := by decide +kernel
theorem dJ2_indexOfSupplementary_4cfef_51 : decode cJ2_indexOfSupplementary_4cfef 51 = .ok (.iadd, 1) := by decide +kernel
theorem dJ2_indexOfSupplementary_4cfef_52 : decode cJ2_indexOfSupplementary_4cfef 52 = .ok (.invokestatic 71, 3) := by decide +kernel
theorem dJ2_indexOfSupplementary_4cfef_55 : decode cJ2_indexOfSupplementary_4cfef 55 = .ok (.iload 5, 2) := by decide +kernel
theorem dJ2_indexOfSupplementary_4cfef_57 : decode cJ2_indexOfSupplementary_4cfef 57 = .ok (.if_icmp .ne 6, 3) := by decide +kernel
theorem dJ2_indexOfSupplementary_4cfef_60 : decode cJ2_indexOfSupplementary_4cfef 60 = .ok (.iload 6, 2) := by decide +kernel
theorem dJ2_indexOfSupplementary_4cfef_62 : decode cJ2_indexOfSupplementary_4cfef 62 = .ok (.ireturn, 1) := by decide +kernel
theorem dJ2_indexOfSupplementary_4cfef_63 : decode cJ2_indexOfSupplementary_4cfef 63 = .ok (.iinc 6 1, 3) := by decide +kernel
theorem dJ2_indexOfSupplementary_4cfef_66 : decode cJ2_indexOfSupplementary_4cfef 66 = .ok (.goto (-38), 3) := by decide +kernel
theorem dJ2_indexOfSupplementary_4cfef_69 : decode cJ2_indexOfSupplementary_4cfef 69 = .ok (.iconst (-1), 1) := by decide +kernel
theorem dJ2_indexOfSupplementary_4cfef_70 : decode cJ2_indexOfSupplementary_4cfef 70 = .ok (.ireturn, 1) := by decide +kernel
theorem dJ2_checkBoundsBeginEnd_d044e_0 : decode cJ2_checkBoundsBeginEnd_d044e 0 = .ok (.iload_n 0, 1) := by decide +kernel
theorem dJ2_checkBoundsBeginEnd_d044e_1 : decode cJ2_checkBoundsBeginEnd_d044e 1 = .ok (.iload_n 1, 1) := by decide +kernel
theorem dJ2_checkBoundsBeginEnd_d044e_2 : decode cJ2_checkBoundsBeginEnd_d044e 2 = .ok (.aload_n 2, 1) := by decide +kernel
theorem dJ2_checkBoundsBeginEnd_d044e_3 : decode cJ2_checkBoundsBeginEnd_d044e 3 = .ok (.invokestatic 48, 3) := by decide +kernel
theorem dJ2_checkBoundsBeginEnd_d044e_6 : decode cJ2_checkBoundsBeginEnd_d044e 6 = .ok (.invokestatic 241, 3) := by decide +kernel
theorem dJ2_checkBoundsBeginEnd_d044e_9 : decode cJ2_checkBoundsBeginEnd_d044e 9 = .ok (.return_, 1) := by decide +kernel
theorem dJ7_fill_d0a16_0 : decode cJ7_fill_d0a16 0 = .ok (.iconst 0, 1) := by decide +kernel
theorem dJ7_fill_d0a16_1 : decode cJ7_fill_d0a16 1 = .ok (.istore_n 3, 1) := by decide +kernel
theorem dJ7_fill_d0a16_2 : decode cJ7_fill_d0a16 2 = .ok (.aload_n 0, 1) := by decide +kernel
theorem dJ7_fill_d0a16_3 : decode cJ7_fill_d0a16 3 = .ok (.arraylength, 1) := by decide +kernel
theorem dJ7_fill_d0a16_4 : decode cJ7_fill_d0a16 4 = .ok (.istore 4, 2) := by decide +kernel
theorem dJ7_fill_d0a16_6 : decode cJ7_fill_d0a16 6 = .ok (.iload_n 3, 1) := by decide +kernel
theorem dJ7_fill_d0a16_7 : decode cJ7_fill_d0a16 7 = .ok (.iload 4, 2) := by decide +kernel
theorem dJ7_fill_d0a16_9 : decode cJ7_fill_d0a16 9 = .ok (.if_icmp .ge 13, 3) := by decide +kernel
theorem dJ7_fill_d0a16_12 : decode cJ7_fill_d0a16 12 = .ok (.aload_n 0, 1) := by decide +kernel
theorem dJ7_fill_d0a16_13 : decode cJ7_fill_d0a16 13 = .ok (.iload_n 3, 1) := by decide +kernel
theorem dJ7_fill_d0a16_14 : decode cJ7_fill_d0a16 14 = .ok (.lload_n 1, 1) := by decide +kernel
theorem dJ7_fill_d0a16_15 : decode cJ7_fill_d0a16 15 = .ok (.lastore, 1) := by decide +kernel
theorem dJ7_fill_d0a16_16 : decode cJ7_fill_d0a16 16 = .ok (.iinc 3 1, 3) := by decide +kernel
theorem dJ7_fill_d0a16_19 : decode cJ7_fill_d0a16 19 = .ok (.goto (-13), 3) := by decide +kernel
theorem dJ7_fill_d0a16_22 : decode cJ7_fill_d0a16 22 = .ok (.return_, 1) := by decide +kernel
theorem dJ7_fill_53178_0 : decode cJ7_fill_53178 0 = .ok (.iconst 0, 1) := by decide +kernel
theorem dJ7_fill_53178_1 : decode cJ7_fill_53178 1 = .ok (.istore_n 2, 1) := by decide +kernel
theorem dJ7_fill_53178_2 : decode cJ7_fill_53178 2 = .ok (.aload_n 0, 1) := by decide +kernel
theorem dJ7_fill_53178_3 : decode cJ7_fill_53178 3 = .ok (.arraylength, 1) := by decide +kernel
theorem dJ7_fill_53178_4 : decode cJ7_fill_53178 4 = .ok (.istore_n 3, 1) := by decide +kernel
theorem dJ7_fill_53178_5 : decode cJ7_fill_53178 5 = .ok (.iload_n 2, 1) := by decide +kernel
theorem dJ7_fill_53178_6 : decode cJ7_fill_53178 6 = .ok (.iload_n 3, 1) := by decide +kernel
theorem dJ7_fill_53178_7 : decode cJ7_fill_53178 7 = .ok (.if_icmp .ge 13, 3) := by decide +kernel
theorem dJ7_fill_53178_10 : decode cJ7_fill_53178 10 = .ok (.aload_n 0, 1) := by decide +kernel
theorem dJ7_fill_53178_11 : decode cJ7_fill_53178 11 = .ok (.iload_n 2, 1) := by decide +kernel
theorem dJ7_fill_53178_12 : decode cJ7_fill_53178 12 = .ok (.iload_n 1, 1) := by decide +kernel
theorem dJ7_fill_53178_13 : decode cJ7_fill_53178 13 = .ok (.iastore, 1) := by decide +kernel
theorem dJ7_fill_53178_14 : decode cJ7_fill_53178 14 = .ok (.iinc 2 1, 3) := by decide +kernel
theorem dJ7_fill_53178_17 : decode cJ7_fill_53178 17 = .ok (.goto (-12), 3) := by decide +kernel
theorem dJ7_fill_53178_20 : decode cJ7_fill_53178 20 = .ok (.return_, 1) := by decide +kernel
theorem dJ3_checkFromToIndex_8c36e_0 : decode cJ3_checkFromToIndex_8c36e 0 = .ok (.iload_n 0, 1) := by decide +kernel
theorem dJ3_checkFromToIndex_8c36e_1 : decode cJ3_checkFromToIndex_8c36e 1 = .ok (.ifCond .lt 13, 3) := by decide +kernel
theorem dJ3_checkFromToIndex_8c36e_4 : decode cJ3_checkFromToIndex_8c36e 4 = .ok (.iload_n 0, 1) := by decide +kernel
theorem dJ3_checkFromToIndex_8c36e_5 : decode cJ3_checkFromToIndex_8c36e 5 = .ok (.iload_n 1, 1) := by decide +kernel
theorem dJ3_checkFromToIndex_8c36e_6 : decode cJ3_checkFromToIndex_8c36e 6 = .ok (.if_icmp .gt 8, 3) := by decide +kernel
theorem dJ3_checkFromToIndex_8c36e_9 : decode cJ3_checkFromToIndex_8c36e 9 = .ok (.iload_n 1, 1) := by decide +kernel
theorem dJ3_checkFromToIndex_8c36e_10 : decode cJ3_checkFromToIndex_8c36e 10 = .ok (.iload_n 2, 1) := by decide +kernel
theorem dJ3_checkFromToIndex_8c36e_11 : decode cJ3_checkFromToIndex_8c36e 11 = .ok (.if_icmp .le 11, 3) := by decide +kernel
theorem dJ3_checkFromToIndex_8c36e_14 : decode cJ3_checkFromToIndex_8c36e 14 = .ok (.aload_n 3, 1) := by decide +kernel
theorem dJ3_checkFromToIndex_8c36e_15 : decode cJ3_checkFromToIndex_8c36e 15 = .ok (.iload_n 0, 1) := by decide +kernel
theorem dJ3_checkFromToIndex_8c36e_16 : decode cJ3_checkFromToIndex_8c36e 16 = .ok (.iload_n 1, 1) := by decide +kernel
theorem dJ3_checkFromToIndex_8c36e_17 : decode cJ3_checkFromToIndex_8c36e 17 = .ok (.iload_n 2, 1) := by decide +kernel
theorem dJ3_checkFromToIndex_8c36e_18 : decode cJ3_checkFromToIndex_8c36e 18 = .ok (.invokestatic 99, 3) := by decide +kernel
theorem dJ3_checkFromToIndex_8c36e_21 : decode cJ3_checkFromToIndex_8c36e 21 = .ok (.athrow, 1) := by decide +kernel
theorem dJ3_checkFromToIndex_8c36e_22 : decode cJ3_checkFromToIndex_8c36e 22 = .ok (.iload_n 0, 1) := by decide +kernel
theorem dJ3_checkFromToIndex_8c36e_23 : decode cJ3_checkFromToIndex_8c36e 23 = .ok (.ireturn, 1) := by decide +kernel
end
section
/-! the ints and the longs of a world's cells, by the cell's number and the slot -/
abbrev aI : Type := Nat → Nat → Int32
abbrev aJ : Type := Nat → Nat → Int64
def uI (I : aI) (k : Nat) (r : Nat → Int32) : aI := fun a => if a = k then r else I a
def uJ (J : aJ) (k : Nat) (r : Nat → Int64) : aJ := fun a => if a = k then r else J a
def pI (I : aI) (k j : Nat) (x : Int32) : aI := uI I k (upd (I k) j x)
def pJ (J : aJ) (k j : Nat) (x : Int64) : aJ := uJ J k (vp_updL (J k) j x)
/-- the fields of an object of class c that is cell k -/
def flds (c : Nat) (ad : Nat → Nat) (k : Nat) (i : Nat → Int32) (j : Nat → Int64) : List Value := match c with
  | 0 => [.int (i 0), .int (i 1), .int (i 2), .ref (ad (k + 1))]
  | 1 => [.int (i 0), .ref (ad (k + 1)), .ref (ad (k + 2)), .ref (ad (k + 3)), .ref (ad (k + 4))]
  | 2 => [.int (i 0), .ref (ad (k + 1)), .ref (ad (k + 2))]
  | 3 => [.ref (ad (k + 1)), .int (i 1), .int (i 2), .int (i 3), .int (i 4)]
  | 4 => [.ref (ad (k + 1)), .int (i 1), .int (i 2), .ref (ad (k + 2)), .ref (ad (k + 3))]
  | 5 => [.long (j 0), .ref (ad (k + 1)), .ref (ad (k + 2))]
  | 6 => [.int (i 0), .int (i 1), .ref (ad (k + 1)), .ref (ad (k + 2)), .ref (ad (k + 3)), .ref (ad (k + 4)), .ref (ad (k + 5)), .ref (ad (k + 12))]
  | 7 => [.ref (ad (k + 1)), .ref (ad (k + 3)), .ref (ad (k + 22)), .ref (ad (k + 27)), .ref (ad (k + 32)), .ref (ad (k + 34)), .ref (ad (k + 36)), .ref (ad (k + 38)), .ref (ad (k + 41)), .ref (ad (k + 44)), .ref (ad (k + 60)), .int (i 11), .int (i 12), .int (i 13)]
  | _ => [.ref (ad (k + 1)), .int (i 1), .int (i 2), .int (i 3), .int (i 4), .int (i 5), .int (i 6), .int (i 7), .int (i 8), .ref (ad (k + 2)), .ref (ad (k + 3)), .ref (ad (k + 4)), .ref (ad (k + 5)), .ref (ad (k + 6)), .ref (ad (k + 7)), .ref (ad (k + 8)), .ref (ad (k + 9)), .ref (ad (k + 10)), .ref (ad (k + 11)), .ref (ad (k + 12)), .ref (ad (k + 13)), .ref (ad (k + 14)), .ref (ad (k + 15)), .ref (ad (k + 16)), .int (i 24), .ref (ad (k + 17)), .ref (ad (k + 18)), .int (i 27), .ref (ad (k + 19)), .int (i 29), .int (i 30), .int (i 31), .int (i 32), .int (i 33), .ref (ad (k + 20)), .ref (ad (k + 21)), .ref (ad (k + 22)), .ref (ad (k + 23)), .ref (ad (k + 24)), .ref (ad (k + 25)), .long (j 40)]
/-- a world's shape: how many cells; the kind of each (0 to 8: an object of that class; 9 int[], 10 long[], 11 boolean[], 12 Evening[], 13 int[][]); an array's length -/
abbrev Sh : Type := Nat × (Nat → Nat) × (Nat → Nat)
def ent (Z : Sh) (cy : Nat → ClassId) (ad : Nat → Nat) (k : Nat) (i : Nat → Int32) (j : Nat → Int64) : va_E :=
  if Z.2.1 k < 9 then .inr (Z.2.1 k, flds (Z.2.1 k) ad k i j)
  else if Z.2.1 k = 9 then .inl (cy 0, Z.2.2 k, .inl i)
  else if Z.2.1 k = 10 then .inl (cy 1, Z.2.2 k, .inr (.inl j))
  else if Z.2.1 k = 11 then .inl (cy 2, Z.2.2 k, .inl i)
  else if Z.2.1 k = 12 then .inl (cy 3, Z.2.2 k, .inr (.inr (.inr (.inr (fun x => some (ad (k + 1 + 2 * x)))))))
  else .inl (cy 4, Z.2.2 k, .inr (.inr (.inr (.inr (fun x => some (ad (k + 1 + x)))))))
abbrev VT : Type := va_G × (Nat → ClassId) × (Nat → Nat)
def wld (Z : Sh) (V : VT) (I : aI) (J : aJ) : va_W := (List.range Z.1).map (fun k => (V.2.2 k, ent Z V.2.1 V.2.2 k (I k) (J k)))
def vAd (Z : Sh) (V : VT) : Nat → Prop := fun q => ∃ k, k < Z.1 ∧ q = V.2.2 k
def vTy (V : VT) : List (ClassId × FieldType) := [(V.2.1 0, .int), (V.2.1 1, .long), (V.2.1 2, .boolean), (V.2.1 3, .object "ChimeVan$Evening"), (V.2.1 4, .array .int)]
/-- the tables' words that stay good over a call -/
def GG : List Cond := lw_tbl.filter goodWord
def rmD (d : Nat) : Room := { frames := d, cells := 0, slots := 0, locals := 40 * d }
theorem wld_get {Z : Sh} {V : VT} {I : aI} {J : aJ} {k : Nat} (h : k < Z.1) : (wld Z V I J)[k]? = some (V.2.2 k, ent Z V.2.1 V.2.2 k (I k) (J k)) := by
  simp [wld, List.getElem?_map, List.getElem?_range h]
theorem wld_setI {Z : Sh} {V : VT} {I : aI} {J : aJ} {k : Nat} (r : Nat → Int32) (h : k < Z.1) : (wld Z V I J).set k (V.2.2 k, ent Z V.2.1 V.2.2 k r (J k)) = wld Z V (uI I k r) J := by
  apply List.ext_getElem?
  intro a
  by_cases ha : a = k
  · subst ha
    rw [List.getElem?_set_self (by simp [wld, h]), wld_get h]
    simp [uI]
  · rw [List.getElem?_set_ne (Ne.symm ha)]
    by_cases hz : a < Z.1
    · rw [wld_get hz, wld_get hz]
      simp [uI, ha]
    · rw [List.getElem?_eq_none (by simp [wld]; omega), List.getElem?_eq_none (by simp [wld]; omega)]
theorem wld_setJ {Z : Sh} {V : VT} {I : aI} {J : aJ} {k : Nat} (r : Nat → Int64) (h : k < Z.1) : (wld Z V I J).set k (V.2.2 k, ent Z V.2.1 V.2.2 k (I k) r) = wld Z V I (uJ J k r) := by
  apply List.ext_getElem?
  intro a
  by_cases ha : a = k
  · subst ha
    rw [List.getElem?_set_self (by simp [wld, h]), wld_get h]
    simp [uJ]
  · rw [List.getElem?_set_ne (Ne.symm ha)]
    by_cases hz : a < Z.1
    · rw [wld_get hz, wld_get hz]
      simp [uJ, ha]
    · rw [List.getElem?_eq_none (by simp [wld]; omega), List.getElem?_eq_none (by simp [wld]; omega)]
/-- cell k is of kind c, and of length len -/
def okc (Z : Sh) (k c len : Nat) : Prop := k < Z.1 ∧ Z.2.1 k = c ∧ Z.2.2 k = len
theorem ent_o {Z : Sh} {cy : Nat → ClassId} {ad : Nat → Nat} {k c len : Nat} {i : Nat → Int32} {j : Nat → Int64} (h : okc Z k c len) (hc : c < 9) : ent Z cy ad k i j = .inr (c, flds c ad k i j) := by
  unfold ent; rw [h.2.1, if_pos hc]
theorem ent_i {Z : Sh} {cy : Nat → ClassId} {ad : Nat → Nat} {k len : Nat} {i : Nat → Int32} {j : Nat → Int64} (h : okc Z k 9 len) : ent Z cy ad k i j = .inl (cy 0, len, .inl i) := by
  unfold ent; rw [h.2.1, h.2.2]; rfl
theorem ent_j {Z : Sh} {cy : Nat → ClassId} {ad : Nat → Nat} {k len : Nat} {i : Nat → Int32} {j : Nat → Int64} (h : okc Z k 10 len) : ent Z cy ad k i j = .inl (cy 1, len, .inr (.inl j)) := by
  unfold ent; rw [h.2.1, h.2.2]; rfl
theorem ent_z {Z : Sh} {cy : Nat → ClassId} {ad : Nat → Nat} {k len : Nat} {i : Nat → Int32} {j : Nat → Int64} (h : okc Z k 11 len) : ent Z cy ad k i j = .inl (cy 2, len, .inl i) := by
  unfold ent; rw [h.2.1, h.2.2]; rfl
theorem ent_e {Z : Sh} {cy : Nat → ClassId} {ad : Nat → Nat} {k len : Nat} {i : Nat → Int32} {j : Nat → Int64} (h : okc Z k 12 len) : ent Z cy ad k i j = .inl (cy 3, len, .inr (.inr (.inr (.inr (fun x => some (ad (k + 1 + 2 * x))))))) := by
  unfold ent; rw [h.2.1, h.2.2]; rfl
theorem ent_g {Z : Sh} {cy : Nat → ClassId} {ad : Nat → Nat} {k len : Nat} {i : Nat → Int32} {j : Nat → Int64} (h : okc Z k 13 len) : ent Z cy ad k i j = .inl (cy 4, len, .inr (.inr (.inr (.inr (fun x => some (ad (k + 1 + x))))))) := by
  unfold ent; rw [h.2.1, h.2.2]; rfl
def Inj (Z : Sh) (V : VT) : Prop := ∀ i j, i < Z.1 → j < Z.1 → V.2.2 i = V.2.2 j → i = j
theorem wld_D {Z : Sh} {V : VT} (h : Inj Z V) (I : aI) (J : aJ) : va_D (vAd Z V) (wld Z V I J) := by
  have hl : ∀ (k : Nat) (q : Nat × va_E), (wld Z V I J)[k]? = some q → k < Z.1 ∧ q.1 = V.2.2 k := by
    intro k q hk
    by_cases hz : k < Z.1
    · rw [wld_get hz] at hk
      cases hk
      exact ⟨hz, rfl⟩
    · rw [List.getElem?_eq_none (by simp [wld]; omega)] at hk
      cases hk
  refine ⟨fun i j p q hi hj hpq => ?_, fun k q hk => ?_⟩
  · obtain ⟨a1, a2⟩ := hl i p hi
    obtain ⟨b1, b2⟩ := hl j q hj
    exact h i j a1 b1 (by rw [← a2, ← b2]; exact hpq)
  · obtain ⟨a1, a2⟩ := hl k q hk
    exact ⟨k, a1, a2⟩
def ndF (j : Nat) : Int32 := match j with
  | 0 => 1
  | 1 => 2
  | 2 => 1
  | 3 => 2
  | _ => 3
def ltF (j : Nat) : Int32 := match j with
  | 0 => 112
  | 1 => 116
  | 2 => 99
  | 3 => 104
  | _ => 100
def yIsWithin : MethodName := ⟨"ChimeVan", "isWithin", "(III)Z"⟩
def yHasBit : MethodName := ⟨"ChimeVan", "hasBit", "(II)Z"⟩
/-- what the start gives beside the tables' words: nest mates' links, the static row NEEDS (100), the text "ptchd" (101, its bytes 102) -/
def Fx (Z : Sh) (V : VT) (U : State) : Prop :=
  (va_Nw (.methodLinkNest "ChimeVan$Page" 59 yIsWithin "ChimeVan") U ∧ va_Nw (.methodLinkNest "ChimeVan$Town" 69 yHasBit "ChimeVan") U ∧ va_Nw (.methodLinkNest "ChimeVan$Evening" 37 yHasBit "ChimeVan") U ∧ va_Nw (.methodLinkNest "ChimeVan$RoundSearch" 54 yHasBit "ChimeVan") U) ∧
  (va_Z "ChimeVan$Folk" "NEEDS" "[I" (.ref (V.2.2 100)) (vAd Z V) U U.heap ∧ va_T .int (V.2.2 100) 5 (fun j => .int (ndF j)) (vAd Z V) U U.heap) ∧
  va_Z "java/lang/String" "COMPACT_STRINGS" "Z" (.int 1) (vAd Z V) U U.heap ∧ vk_R "ChimeVan$Page" 40 "ptchd" (V.2.2 101) U ∧
  va_O "java/lang/String" (V.2.2 101) (vAd Z V) U U.heap ∧ va_OF "java/lang/String" "coder" "B" (.int 0) (V.2.2 101) (vAd Z V) U U.heap ∧ va_OF "java/lang/String" "value" "[B" (.ref (V.2.2 102)) (V.2.2 101) (vAd Z V) U U.heap ∧ va_T .byte (V.2.2 102) 5 (fun j => .int (ltF j)) (vAd Z V) U U.heap
theorem Fx.go {Z : Sh} {V : VT} {s U : State} {H : Heap} (h : Fx Z V s) (hW : s.WarmedH U.vm) (hH : U.heap = H) (hq : ∀ a : Nat, a < s.heap.size → ¬ vAd Z V a → H[a]? = s.heap[a]?) : Fx Z V U := by
  subst hH
  obtain ⟨⟨a1, a2, a3, a4⟩, ⟨b1, b2⟩, c1, c2, c3, c4, c5, c6⟩ := h
  have hv := hW.alike
  exact ⟨⟨a1.warmM hW, a2.warmM hW, a3.warmM hW, a4.warmM hW⟩, ⟨(b1.moved hv).kept hq, (b2.moved hv).kept hq⟩, (c1.moved hv).kept hq, c2.warm hW, (c3.moved hv).kept hq, (c4.moved hv).kept hq, (c5.moved hv).kept hq, (c6.moved hv).kept hq⟩
theorem Fx.same {Z : Sh} {V : VT} {s U : State} (h : Fx Z V s) (hv : s.vm = U.vm) (hH : U.heap = s.heap) : Fx Z V U := by
  obtain ⟨⟨a1, a2, a3, a4⟩, ⟨b1, b2⟩, c1, c2, c3, c4, c5, c6⟩ := h
  have hl : s.vm.Alike U.vm := by rw [hv]; exact Vm.Alike.refl _
  have hq : ∀ a : Nat, a < s.heap.size → ¬ vAd Z V a → U.heap[a]? = s.heap[a]? := fun a _ _ => by rw [hH]
  exact ⟨⟨a1.same rfl hv, a2.same rfl hv, a3.same rfl hv, a4.same rfl hv⟩, ⟨(b1.moved hl).kept hq, (b2.moved hl).kept hq⟩, (c1.moved hl).kept hq, c2.same hv.symm, (c3.moved hl).kept hq, (c4.moved hl).kept hq, (c5.moved hl).kept hq, (c6.moved hl).kept hq⟩
/-- a method's start: the world -/
def cQ (Z : Sh) (V : VT) (I : aI) (J : aJ) (U : State) : Prop := va_P V.1 vwCl (wld Z V I J) U.heap ∧ va_K V.1 vwCl (vTy V) U ∧ Fx Z V U ∧ Inj Z V
theorem cQ.blind {Z : Sh} {V : VT} {I : aI} {J : aJ} {av : List Value} : FrameBlind (va_Pc av (cQ Z V I J)) := by
  intro a U g mk h
  obtain ⟨h1, h2, h3, h4, h5⟩ := h
  exact ⟨h1, h2, va_K.moved (u := U) (U := U.calling g mk a) (Vm.Alike.refl U.vm) h3, h4.same rfl rfl, h5⟩
abbrev RT (α : Type) : Type := α × aI × aJ
def QI (Z : Sh) (V : VT) (q : RT Int32) : Array Value → State → Outcome → State → Prop := va_Qi (fun r (_ : Unit) => r = q.1) (fun _ t => va_P V.1 vwCl (wld Z V q.2.1 q.2.2) t.heap) (vAd Z V)
def QL (Z : Sh) (V : VT) (q : RT Int64) : Array Value → State → Outcome → State → Prop := va_Ql (fun r (_ : Unit) => r = q.1) (fun _ t => va_P V.1 vwCl (wld Z V q.2.1 q.2.2) t.heap) (vAd Z V)
def QV (Z : Sh) (V : VT) (q : RT Unit) : Array Value → State → Outcome → State → Prop := va_Qv (fun (_ : Unit) => True) (fun _ t => va_P V.1 vwCl (wld Z V q.2.1 q.2.2) t.heap) (vAd Z V)
abbrev MT : Type := Program × Launch × Env × Room × State × MethodId × Array Value × List Frame × Method × Code × (State → Prop)
/-- the machine in a method of ours: its code cc of nL locals, class own, answer ret, d frames below -/
def Cx (M : MT) (Z : Sh) (V : VT) (cc : ByteArray) (nL : Nat) (own : String) (ret : Option FieldType) (d : Nat) : Prop := match M with
  | (p, _, _, R, s, m, args, _, meth, c, _) => p.tables.exec = Jvm.exec ∧ c.code = cc ∧ c.maxLocals = nL ∧ s.vm.findClass own = some m.cls ∧ (∀ w ∈ GG, w.before args s = true) ∧ meth.sig.returnType = ret ∧ meth.locks = false ∧ R = rmD d ∧ va_K V.1 vwCl (vTy V) s ∧ Fx Z V s ∧ Inj Z V
def PI (M : MT) (Z : Sh) (V : VT) (q : RT Int32) : Prop := match M with
  | (_, _, _, _, s, _, args, below, _, _, Q) => Q = MQ below (QI Z V q) args s 0 0 (vAd Z V)
def PL (M : MT) (Z : Sh) (V : VT) (q : RT Int64) : Prop := match M with
  | (_, _, _, _, s, _, args, below, _, _, Q) => Q = MQ below (QL Z V q) args s 0 0 (vAd Z V)
def PV (M : MT) (Z : Sh) (V : VT) (q : RT Unit) : Prop := match M with
  | (_, _, _, _, s, _, args, below, _, _, Q) => Q = MQ below (QV Z V q) args s 0 0 (vAd Z V)
/-- from here, with these locals and this stack and the world I, J, the machine comes to its end -/
def Wg (M : MT) (Z : Sh) (V : VT) (nL : Nat) (I : aI) (J : aJ) (pc : Nat) (lv : List (Nat × Value)) (st : List Value) : Prop := match M with
  | (p, l, e, R, s, m, args, below, meth, c, Q) => ∀ (H : Heap) (locs : List Loc) (ls : Array Slot), va_P V.1 vwCl (wld Z V I J) H → va_S (vAd Z V) s.heap H locs → lv_has ls nL lv → W p l e R s m args below meth c H locs 0 0 Q (F0 m pc ls st)
section GR
variable {M : MT} {Z : Sh} {V : VT} {cc : ByteArray} {nL : Nat} {own : String} {ret : Option FieldType} {d : Nat} {I : aI} {J : aJ} {pc : Nat} {lv lv' : List (Nat × Value)} {st : List Value}
theorem g_sub (ks : List Nat) (h : lv_pick lv ks = lv') (k : Wg M Z V nL I J pc lv' st) : Wg M Z V nL I J pc lv st := fun H locs ls hP hS hl => k H locs ls hP hS (lv_sub hl ks h)
theorem g_iconst (X : Cx M Z V cc nL own ret d) {n : Int} {v : Int32} (hd : decode cc pc = .ok (.iconst n, 1)) (hv : Int32.ofInt n = v) (k : Wg M Z V nL I J (pc + 1) lv (.int v :: st)) : Wg M Z V nL I J pc lv st := fun H locs ls hP hS hl => lv_iconst X.1 X.2.1 hd hv (k H locs ls hP hS hl)
theorem g_bipush (X : Cx M Z V cc nL own ret d) {n : Int} {v : Int32} (hd : decode cc pc = .ok (.bipush n, 2)) (hv : (Int8.ofInt n).toInt32 = v) (k : Wg M Z V nL I J (pc + 2) lv (.int v :: st)) : Wg M Z V nL I J pc lv st := fun H locs ls hP hS hl => lv_bipush X.1 X.2.1 hd hv (k H locs ls hP hS hl)
theorem g_sipush (X : Cx M Z V cc nL own ret d) {n : Int} {v : Int32} (hd : decode cc pc = .ok (.sipush n, 3)) (hv : (Int16.ofInt n).toInt32 = v) (k : Wg M Z V nL I J (pc + 3) lv (.int v :: st)) : Wg M Z V nL I J pc lv st := fun H locs ls hP hS hl => lv_sipush X.1 X.2.1 hd hv (k H locs ls hP hS hl)
theorem g_lconst (X : Cx M Z V cc nL own ret d) {n : Fin 2} {v : Int64} (hd : decode cc pc = .ok (.lconst n, 1)) (hv : Int64.ofNat (n : Nat) = v) (k : Wg M Z V nL I J (pc + 1) lv (.long v :: st)) : Wg M Z V nL I J pc lv st := fun H locs ls hP hS hl => lv_lconst X.1 X.2.1 hd hv (k H locs ls hP hS hl)
theorem g_ldc (X : Cx M Z V cc nL own ret d) {x : Nat} {v : Int32} (hd : decode cc pc = .ok (.ldc x, 2)) (hw : Cond.constant own x v ∈ GG) (k : Wg M Z V nL I J (pc + 2) lv (.int v :: st)) : Wg M Z V nL I J pc lv st := fun H locs ls hP hS hl => lv_ldc X.1 X.2.1 X.2.2.2.1 (X.2.2.2.2.1 _ hw) hd (k H locs ls hP hS hl)
theorem g_ldcw (X : Cx M Z V cc nL own ret d) {x : Nat} {v : Int32} (hd : decode cc pc = .ok (.ldc_w x, 3)) (hw : Cond.constant own x v ∈ GG) (k : Wg M Z V nL I J (pc + 3) lv (.int v :: st)) : Wg M Z V nL I J pc lv st := fun H locs ls hP hS hl => lv_ldcw X.1 X.2.1 X.2.2.2.1 (X.2.2.2.2.1 _ hw) hd (k H locs ls hP hS hl)
theorem g_ldc2 (X : Cx M Z V cc nL own ret d) {x : Nat} {v : Int64} (hd : decode cc pc = .ok (.ldc2_w x, 3)) (hw : Cond.constantLong own x v ∈ GG) (k : Wg M Z V nL I J (pc + 3) lv (.long v :: st)) : Wg M Z V nL I J pc lv st := fun H locs ls hP hS hl => lv_ldc2 X.1 X.2.1 X.2.2.2.1 (X.2.2.2.2.1 _ hw) hd (k H locs ls hP hS hl)
theorem g_iload_n (X : Cx M Z V cc nL own ret d) {n : Fin 4} {x : Int32} (hd : decode cc pc = .ok (.iload_n n, 1)) (q : Nat) (hq : lv[q]? = some ((n : Nat), .int x)) (k : Wg M Z V nL I J (pc + 1) lv (.int x :: st)) : Wg M Z V nL I J pc lv st := fun H locs ls hP hS hl => lv_iload_n X.1 X.2.1 hd rfl (lv_at hl q hq) (k H locs ls hP hS hl)
theorem g_iload (X : Cx M Z V cc nL own ret d) {n : Nat} {x : Int32} (hd : decode cc pc = .ok (.iload n, 2)) (q : Nat) (hq : lv[q]? = some (n, .int x)) (k : Wg M Z V nL I J (pc + 2) lv (.int x :: st)) : Wg M Z V nL I J pc lv st := fun H locs ls hP hS hl => lv_iload X.1 X.2.1 hd (lv_at hl q hq) (k H locs ls hP hS hl)
theorem g_lload_n (X : Cx M Z V cc nL own ret d) {n : Fin 4} {x : Int64} (hd : decode cc pc = .ok (.lload_n n, 1)) (q : Nat) (hq : lv[q]? = some ((n : Nat), .long x)) (k : Wg M Z V nL I J (pc + 1) lv (.long x :: st)) : Wg M Z V nL I J pc lv st := fun H locs ls hP hS hl => lv_lload_n X.1 X.2.1 hd rfl (lv_at hl q hq) (k H locs ls hP hS hl)
theorem g_lload (X : Cx M Z V cc nL own ret d) {n : Nat} {x : Int64} (hd : decode cc pc = .ok (.lload n, 2)) (q : Nat) (hq : lv[q]? = some (n, .long x)) (k : Wg M Z V nL I J (pc + 2) lv (.long x :: st)) : Wg M Z V nL I J pc lv st := fun H locs ls hP hS hl => lv_lload X.1 X.2.1 hd (lv_at hl q hq) (k H locs ls hP hS hl)
theorem g_aload_n (X : Cx M Z V cc nL own ret d) {n : Fin 4} {x : Nat} (hd : decode cc pc = .ok (.aload_n n, 1)) (q : Nat) (hq : lv[q]? = some ((n : Nat), .ref x)) (k : Wg M Z V nL I J (pc + 1) lv (.ref x :: st)) : Wg M Z V nL I J pc lv st := fun H locs ls hP hS hl => lv_aload_n X.1 X.2.1 hd rfl (lv_at hl q hq) (k H locs ls hP hS hl)
theorem g_aload (X : Cx M Z V cc nL own ret d) {n : Nat} {x : Nat} (hd : decode cc pc = .ok (.aload n, 2)) (q : Nat) (hq : lv[q]? = some (n, .ref x)) (k : Wg M Z V nL I J (pc + 2) lv (.ref x :: st)) : Wg M Z V nL I J pc lv st := fun H locs ls hP hS hl => lv_aload X.1 X.2.1 hd (lv_at hl q hq) (k H locs ls hP hS hl)
/-- the locals behind a store of one word, of two -/
def lvS1 (i : Nat) (v : Value) (lv : List (Nat × Value)) : List (Nat × Value) := (i, v) :: lv.filter (fun q => !(q.1 == i) && !(q.1 + 1 == i && q.2.category == 2))
def lvS2 (i : Nat) (v : Value) (lv : List (Nat × Value)) : List (Nat × Value) := (i, v) :: lv.filter (fun q => !(q.1 == i) && (!(q.1 == i + 1) && !(q.1 + 1 == i && q.2.category == 2)))
theorem g_istore_n (X : Cx M Z V cc nL own ret d) {n : Fin 4} {x : Int32} (hd : decode cc pc = .ok (.istore_n n, 1)) (hn : (n : Nat) < nL) (lv' : List (Nat × Value)) (hl' : lvS1 (n : Nat) (.int x) lv = lv') (k : Wg M Z V nL I J (pc + 1) lv' st) : Wg M Z V nL I J pc lv (.int x :: st) := fun H locs ls hP hS hl => lv_istore_n X.1 X.2.1 hd rfl hl hn hl' (fun ls hl => k H locs ls hP hS hl)
theorem g_istore (X : Cx M Z V cc nL own ret d) {n : Nat} {x : Int32} (hd : decode cc pc = .ok (.istore n, 2)) (hn : n < nL) (lv' : List (Nat × Value)) (hl' : lvS1 n (.int x) lv = lv') (k : Wg M Z V nL I J (pc + 2) lv' st) : Wg M Z V nL I J pc lv (.int x :: st) := fun H locs ls hP hS hl => lv_istore X.1 X.2.1 hd hl hn hl' (fun ls hl => k H locs ls hP hS hl)
theorem g_lstore_n (X : Cx M Z V cc nL own ret d) {n : Fin 4} {x : Int64} (hd : decode cc pc = .ok (.lstore_n n, 1)) (hn : (n : Nat) + 1 < nL) (lv' : List (Nat × Value)) (hl' : lvS2 (n : Nat) (.long x) lv = lv') (k : Wg M Z V nL I J (pc + 1) lv' st) : Wg M Z V nL I J pc lv (.long x :: st) := fun H locs ls hP hS hl => lv_lstore_n X.1 X.2.1 hd rfl hl hn hl' (fun ls hl => k H locs ls hP hS hl)
theorem g_lstore (X : Cx M Z V cc nL own ret d) {n : Nat} {x : Int64} (hd : decode cc pc = .ok (.lstore n, 2)) (hn : n + 1 < nL) (lv' : List (Nat × Value)) (hl' : lvS2 n (.long x) lv = lv') (k : Wg M Z V nL I J (pc + 2) lv' st) : Wg M Z V nL I J pc lv (.long x :: st) := fun H locs ls hP hS hl => lv_lstore X.1 X.2.1 hd hl hn hl' (fun ls hl => k H locs ls hP hS hl)
theorem g_astore_n (X : Cx M Z V cc nL own ret d) {n : Fin 4} {x : Nat} (hd : decode cc pc = .ok (.astore_n n, 1)) (hn : (n : Nat) < nL) (lv' : List (Nat × Value)) (hl' : lvS1 (n : Nat) (.ref x) lv = lv') (k : Wg M Z V nL I J (pc + 1) lv' st) : Wg M Z V nL I J pc lv (.ref x :: st) := fun H locs ls hP hS hl => lv_astore_n X.1 X.2.1 hd rfl hl hn hl' (fun ls hl => k H locs ls hP hS hl)
theorem g_astore (X : Cx M Z V cc nL own ret d) {n : Nat} {x : Nat} (hd : decode cc pc = .ok (.astore n, 2)) (hn : n < nL) (lv' : List (Nat × Value)) (hl' : lvS1 n (.ref x) lv = lv') (k : Wg M Z V nL I J (pc + 2) lv' st) : Wg M Z V nL I J pc lv (.ref x :: st) := fun H locs ls hP hS hl => lv_astore X.1 X.2.1 hd hl hn hl' (fun ls hl => k H locs ls hP hS hl)
theorem g_iinc (X : Cx M Z V cc nL own ret d) {i : Nat} {n : Int} {x : Int32} (hd : decode cc pc = .ok (.iinc i n, 3)) (q : Nat) (hq : lv[q]? = some (i, .int x)) (v : Int32) (hv : Int32.ofInt n = v) (hn : i < nL) (lv' : List (Nat × Value)) (hl' : lvS1 i (.int (x + v)) lv = lv') (k : Wg M Z V nL I J (pc + 3) lv' st) : Wg M Z V nL I J pc lv st := fun H locs ls hP hS hl => lv_iinc X.1 X.2.1 hd hl hq (by rw [hv]) hn hl' (fun ls hl => k H locs ls hP hS hl)
theorem g_iadd (X : Cx M Z V cc nL own ret d) {x y : Int32} (hd : decode cc pc = .ok (.iadd, 1)) (k : Wg M Z V nL I J (pc + 1) lv (.int (x + y) :: st)) : Wg M Z V nL I J pc lv (.int y :: .int x :: st) := fun H locs ls hP hS hl => lv_iadd X.1 X.2.1 hd (k H locs ls hP hS hl)
theorem g_isub (X : Cx M Z V cc nL own ret d) {x y : Int32} (hd : decode cc pc = .ok (.isub, 1)) (k : Wg M Z V nL I J (pc + 1) lv (.int (x - y) :: st)) : Wg M Z V nL I J pc lv (.int y :: .int x :: st) := fun H locs ls hP hS hl => lv_isub X.1 X.2.1 hd (k H locs ls hP hS hl)
theorem g_imul (X : Cx M Z V cc nL own ret d) {x y : Int32} (hd : decode cc pc = .ok (.imul, 1)) (k : Wg M Z V nL I J (pc + 1) lv (.int (x * y) :: st)) : Wg M Z V nL I J pc lv (.int y :: .int x :: st) := fun H locs ls hP hS hl => lv_imul X.1 X.2.1 hd (k H locs ls hP hS hl)
theorem g_iand (X : Cx M Z V cc nL own ret d) {x y : Int32} (hd : decode cc pc = .ok (.iand, 1)) (k : Wg M Z V nL I J (pc + 1) lv (.int (x &&& y) :: st)) : Wg M Z V nL I J pc lv (.int y :: .int x :: st) := fun H locs ls hP hS hl => lv_iand X.1 X.2.1 hd (k H locs ls hP hS hl)
theorem g_ior (X : Cx M Z V cc nL own ret d) {x y : Int32} (hd : decode cc pc = .ok (.ior, 1)) (k : Wg M Z V nL I J (pc + 1) lv (.int (x ||| y) :: st)) : Wg M Z V nL I J pc lv (.int y :: .int x :: st) := fun H locs ls hP hS hl => lv_ior X.1 X.2.1 hd (k H locs ls hP hS hl)
theorem g_ixor (X : Cx M Z V cc nL own ret d) {x y : Int32} (hd : decode cc pc = .ok (.ixor, 1)) (k : Wg M Z V nL I J (pc + 1) lv (.int (x ^^^ y) :: st)) : Wg M Z V nL I J pc lv (.int y :: .int x :: st) := fun H locs ls hP hS hl => lv_ixor X.1 X.2.1 hd (k H locs ls hP hS hl)
theorem g_idiv (X : Cx M Z V cc nL own ret d) {x y : Int32} (hd : decode cc pc = .ok (.idiv, 1)) (hne : ¬ y = 0) (k : Wg M Z V nL I J (pc + 1) lv (.int (x / y) :: st)) : Wg M Z V nL I J pc lv (.int y :: .int x :: st) := fun H locs ls hP hS hl => lv_idiv X.1 X.2.1 hd hne (k H locs ls hP hS hl)
theorem g_irem (X : Cx M Z V cc nL own ret d) {x y : Int32} (hd : decode cc pc = .ok (.irem, 1)) (hne : ¬ y = 0) (k : Wg M Z V nL I J (pc + 1) lv (.int (x - x / y * y) :: st)) : Wg M Z V nL I J pc lv (.int y :: .int x :: st) := fun H locs ls hP hS hl => lv_irem X.1 X.2.1 hd hne (k H locs ls hP hS hl)
theorem g_ishl (X : Cx M Z V cc nL own ret d) {x y : Int32} (hd : decode cc pc = .ok (.ishl, 1)) (k : Wg M Z V nL I J (pc + 1) lv (.int (x <<< (y &&& 31)) :: st)) : Wg M Z V nL I J pc lv (.int y :: .int x :: st) := fun H locs ls hP hS hl => lv_ishl X.1 X.2.1 hd (k H locs ls hP hS hl)
theorem g_ishr (X : Cx M Z V cc nL own ret d) {x y : Int32} (hd : decode cc pc = .ok (.ishr, 1)) (k : Wg M Z V nL I J (pc + 1) lv (.int (x >>> (y &&& 31)) :: st)) : Wg M Z V nL I J pc lv (.int y :: .int x :: st) := fun H locs ls hP hS hl => lv_ishr X.1 X.2.1 hd (k H locs ls hP hS hl)
theorem g_iushr (X : Cx M Z V cc nL own ret d) {x y : Int32} (hd : decode cc pc = .ok (.iushr, 1)) (k : Wg M Z V nL I J (pc + 1) lv (.int (x.toUInt32 >>> (y.toUInt32 &&& Int32.toUInt32 31)).toInt32 :: st)) : Wg M Z V nL I J pc lv (.int y :: .int x :: st) := fun H locs ls hP hS hl => lv_iushr X.1 X.2.1 hd rfl (k H locs ls hP hS hl)
theorem g_ladd (X : Cx M Z V cc nL own ret d) {x y : Int64} (hd : decode cc pc = .ok (.ladd, 1)) (k : Wg M Z V nL I J (pc + 1) lv (.long (x + y) :: st)) : Wg M Z V nL I J pc lv (.long y :: .long x :: st) := fun H locs ls hP hS hl => lv_ladd X.1 X.2.1 hd (k H locs ls hP hS hl)
theorem g_lsub (X : Cx M Z V cc nL own ret d) {x y : Int64} (hd : decode cc pc = .ok (.lsub, 1)) (k : Wg M Z V nL I J (pc + 1) lv (.long (x - y) :: st)) : Wg M Z V nL I J pc lv (.long y :: .long x :: st) := fun H locs ls hP hS hl => lv_lsub X.1 X.2.1 hd (k H locs ls hP hS hl)
theorem g_lmul (X : Cx M Z V cc nL own ret d) {x y : Int64} (hd : decode cc pc = .ok (.lmul, 1)) (k : Wg M Z V nL I J (pc + 1) lv (.long (x * y) :: st)) : Wg M Z V nL I J pc lv (.long y :: .long x :: st) := fun H locs ls hP hS hl => lv_lmul X.1 X.2.1 hd (k H locs ls hP hS hl)
theorem g_land (X : Cx M Z V cc nL own ret d) {x y : Int64} (hd : decode cc pc = .ok (.land, 1)) (k : Wg M Z V nL I J (pc + 1) lv (.long (x &&& y) :: st)) : Wg M Z V nL I J pc lv (.long y :: .long x :: st) := fun H locs ls hP hS hl => lv_land X.1 X.2.1 hd (k H locs ls hP hS hl)
theorem g_ldiv (X : Cx M Z V cc nL own ret d) {x y : Int64} (hd : decode cc pc = .ok (.ldiv, 1)) (hne : ¬ y = 0) (k : Wg M Z V nL I J (pc + 1) lv (.long (x / y) :: st)) : Wg M Z V nL I J pc lv (.long y :: .long x :: st) := fun H locs ls hP hS hl => lv_ldiv X.1 X.2.1 hd hne (k H locs ls hP hS hl)
theorem g_lrem (X : Cx M Z V cc nL own ret d) {x y : Int64} (hd : decode cc pc = .ok (.lrem, 1)) (hne : ¬ y = 0) (k : Wg M Z V nL I J (pc + 1) lv (.long (x - x / y * y) :: st)) : Wg M Z V nL I J pc lv (.long y :: .long x :: st) := fun H locs ls hP hS hl => lv_lrem X.1 X.2.1 hd hne (k H locs ls hP hS hl)
theorem g_i2l (X : Cx M Z V cc nL own ret d) {x : Int32} (hd : decode cc pc = .ok (.i2l, 1)) (k : Wg M Z V nL I J (pc + 1) lv (.long x.toInt64 :: st)) : Wg M Z V nL I J pc lv (.int x :: st) := fun H locs ls hP hS hl => lv_i2l X.1 X.2.1 hd rfl (k H locs ls hP hS hl)
theorem g_l2i (X : Cx M Z V cc nL own ret d) {x : Int64} (hd : decode cc pc = .ok (.l2i, 1)) (k : Wg M Z V nL I J (pc + 1) lv (.int x.toInt32 :: st)) : Wg M Z V nL I J pc lv (.long x :: st) := fun H locs ls hP hS hl => lv_l2i X.1 X.2.1 hd rfl (k H locs ls hP hS hl)
theorem g_i2c (X : Cx M Z V cc nL own ret d) {x : Int32} (hd : decode cc pc = .ok (.i2c, 1)) (k : Wg M Z V nL I J (pc + 1) lv (.int (x.toUInt32 % 65536).toInt32 :: st)) : Wg M Z V nL I J pc lv (.int x :: st) := fun H locs ls hP hS hl => lv_i2c X.1 X.2.1 hd rfl (k H locs ls hP hS hl)
theorem g_lcmp (X : Cx M Z V cc nL own ret d) {x y : Int64} (hd : decode cc pc = .ok (.lcmp, 1)) (k : Wg M Z V nL I J (pc + 1) lv (.int (lg_cmp x y) :: st)) : Wg M Z V nL I J pc lv (.long y :: .long x :: st) := fun H locs ls hP hS hl => W.lcmp X.1 X.2.1 hd (k H locs ls hP hS hl)
theorem g_dup (X : Cx M Z V cc nL own ret d) {v : Value} (hd : decode cc pc = .ok (.dup, 1)) (hc : v.category = 1) (k : Wg M Z V nL I J (pc + 1) lv (v :: v :: st)) : Wg M Z V nL I J pc lv (v :: st) := fun H locs ls hP hS hl => lv_dup X.1 X.2.1 hd hc (k H locs ls hP hS hl)
theorem g_pop (X : Cx M Z V cc nL own ret d) {v : Value} (hd : decode cc pc = .ok (.pop, 1)) (hc : v.category = 1) (k : Wg M Z V nL I J (pc + 1) lv st) : Wg M Z V nL I J pc lv (v :: st) := fun H locs ls hP hS hl => lv_pop X.1 X.2.1 hd hc (k H locs ls hP hS hl)
theorem g_dup_x1 (X : Cx M Z V cc nL own ret d) {v w : Value} (hd : decode cc pc = .ok (.dup_x1, 1)) (hc : v.category = 1) (hw : w.category = 1) (k : Wg M Z V nL I J (pc + 1) lv (v :: w :: v :: st)) : Wg M Z V nL I J pc lv (v :: w :: st) := fun H locs ls hP hS hl => lv_dup_x1 X.1 X.2.1 hd hc hw (k H locs ls hP hS hl)
theorem g_dup2 (X : Cx M Z V cc nL own ret d) {v w : Value} (hd : decode cc pc = .ok (.dup2, 1)) (hc : v.category = 1) (hw : w.category = 1) (k : Wg M Z V nL I J (pc + 1) lv (v :: w :: v :: w :: st)) : Wg M Z V nL I J pc lv (v :: w :: st) := fun H locs ls hP hS hl => lv_dup2_11 X.1 X.2.1 hd hc hw (k H locs ls hP hS hl)
theorem g_goto (X : Cx M Z V cc nL own ret d) {off : Int} {tgt : Nat} (hd : decode cc pc = .ok (.goto off, 3)) (ht : (pc : Int) + off = (tgt : Int)) (k : Wg M Z V nL I J tgt lv st) : Wg M Z V nL I J pc lv st := fun H locs ls hP hS hl => lv_goto X.1 X.2.1 hd ht (k H locs ls hP hS hl)
theorem g_if_eq (X : Cx M Z V cc nL own ret d) {x : Int32} {off : Int} {tgt : Nat} (hd : decode cc pc = .ok (.ifCond .eq off, 3)) (ht : (pc : Int) + off = (tgt : Int)) (kt : x = 0 → Wg M Z V nL I J tgt lv st) (kf : ¬ x = 0 → Wg M Z V nL I J (pc + 3) lv st) : Wg M Z V nL I J pc lv (.int x :: st) := fun H locs ls hP hS hl => lv_if_eq X.1 X.2.1 hd ht (fun h => kt h H locs ls hP hS hl) (fun h => kf h H locs ls hP hS hl)
theorem g_icmp_eq (X : Cx M Z V cc nL own ret d) {x y : Int32} {off : Int} {tgt : Nat} (hd : decode cc pc = .ok (.if_icmp .eq off, 3)) (ht : (pc : Int) + off = (tgt : Int)) (kt : x = y → Wg M Z V nL I J tgt lv st) (kf : ¬ x = y → Wg M Z V nL I J (pc + 3) lv st) : Wg M Z V nL I J pc lv (.int y :: .int x :: st) := fun H locs ls hP hS hl => lv_icmp_eq X.1 X.2.1 hd ht (fun h => kt h H locs ls hP hS hl) (fun h => kf h H locs ls hP hS hl)
theorem g_if_ne (X : Cx M Z V cc nL own ret d) {x : Int32} {off : Int} {tgt : Nat} (hd : decode cc pc = .ok (.ifCond .ne off, 3)) (ht : (pc : Int) + off = (tgt : Int)) (kt : ¬ x = 0 → Wg M Z V nL I J tgt lv st) (kf : x = 0 → Wg M Z V nL I J (pc + 3) lv st) : Wg M Z V nL I J pc lv (.int x :: st) := fun H locs ls hP hS hl => lv_if_ne X.1 X.2.1 hd ht (fun h => kt h H locs ls hP hS hl) (fun h => kf h H locs ls hP hS hl)
theorem g_icmp_ne (X : Cx M Z V cc nL own ret d) {x y : Int32} {off : Int} {tgt : Nat} (hd : decode cc pc = .ok (.if_icmp .ne off, 3)) (ht : (pc : Int) + off = (tgt : Int)) (kt : ¬ x = y → Wg M Z V nL I J tgt lv st) (kf : x = y → Wg M Z V nL I J (pc + 3) lv st) : Wg M Z V nL I J pc lv (.int y :: .int x :: st) := fun H locs ls hP hS hl => lv_icmp_ne X.1 X.2.1 hd ht (fun h => kt h H locs ls hP hS hl) (fun h => kf h H locs ls hP hS hl)
theorem g_if_lt (X : Cx M Z V cc nL own ret d) {x : Int32} {off : Int} {tgt : Nat} (hd : decode cc pc = .ok (.ifCond .lt off, 3)) (ht : (pc : Int) + off = (tgt : Int)) (kt : x < 0 → Wg M Z V nL I J tgt lv st) (kf : ¬ x < 0 → Wg M Z V nL I J (pc + 3) lv st) : Wg M Z V nL I J pc lv (.int x :: st) := fun H locs ls hP hS hl => lv_if_lt X.1 X.2.1 hd ht (fun h => kt h H locs ls hP hS hl) (fun h => kf h H locs ls hP hS hl)
theorem g_icmp_lt (X : Cx M Z V cc nL own ret d) {x y : Int32} {off : Int} {tgt : Nat} (hd : decode cc pc = .ok (.if_icmp .lt off, 3)) (ht : (pc : Int) + off = (tgt : Int)) (kt : x < y → Wg M Z V nL I J tgt lv st) (kf : ¬ x < y → Wg M Z V nL I J (pc + 3) lv st) : Wg M Z V nL I J pc lv (.int y :: .int x :: st) := fun H locs ls hP hS hl => lv_icmp_lt X.1 X.2.1 hd ht (fun h => kt h H locs ls hP hS hl) (fun h => kf h H locs ls hP hS hl)
theorem g_if_ge (X : Cx M Z V cc nL own ret d) {x : Int32} {off : Int} {tgt : Nat} (hd : decode cc pc = .ok (.ifCond .ge off, 3)) (ht : (pc : Int) + off = (tgt : Int)) (kt : 0 ≤ x → Wg M Z V nL I J tgt lv st) (kf : ¬ 0 ≤ x → Wg M Z V nL I J (pc + 3) lv st) : Wg M Z V nL I J pc lv (.int x :: st) := fun H locs ls hP hS hl => lv_if_ge X.1 X.2.1 hd ht (fun h => kt h H locs ls hP hS hl) (fun h => kf h H locs ls hP hS hl)
theorem g_icmp_ge (X : Cx M Z V cc nL own ret d) {x y : Int32} {off : Int} {tgt : Nat} (hd : decode cc pc = .ok (.if_icmp .ge off, 3)) (ht : (pc : Int) + off = (tgt : Int)) (kt : y ≤ x → Wg M Z V nL I J tgt lv st) (kf : ¬ y ≤ x → Wg M Z V nL I J (pc + 3) lv st) : Wg M Z V nL I J pc lv (.int y :: .int x :: st) := fun H locs ls hP hS hl => lv_icmp_ge X.1 X.2.1 hd ht (fun h => kt h H locs ls hP hS hl) (fun h => kf h H locs ls hP hS hl)
theorem g_if_gt (X : Cx M Z V cc nL own ret d) {x : Int32} {off : Int} {tgt : Nat} (hd : decode cc pc = .ok (.ifCond .gt off, 3)) (ht : (pc : Int) + off = (tgt : Int)) (kt : 0 < x → Wg M Z V nL I J tgt lv st) (kf : ¬ 0 < x → Wg M Z V nL I J (pc + 3) lv st) : Wg M Z V nL I J pc lv (.int x :: st) := fun H locs ls hP hS hl => lv_if_gt X.1 X.2.1 hd ht (fun h => kt h H locs ls hP hS hl) (fun h => kf h H locs ls hP hS hl)
theorem g_icmp_gt (X : Cx M Z V cc nL own ret d) {x y : Int32} {off : Int} {tgt : Nat} (hd : decode cc pc = .ok (.if_icmp .gt off, 3)) (ht : (pc : Int) + off = (tgt : Int)) (kt : y < x → Wg M Z V nL I J tgt lv st) (kf : ¬ y < x → Wg M Z V nL I J (pc + 3) lv st) : Wg M Z V nL I J pc lv (.int y :: .int x :: st) := fun H locs ls hP hS hl => lv_icmp_gt X.1 X.2.1 hd ht (fun h => kt h H locs ls hP hS hl) (fun h => kf h H locs ls hP hS hl)
theorem g_if_le (X : Cx M Z V cc nL own ret d) {x : Int32} {off : Int} {tgt : Nat} (hd : decode cc pc = .ok (.ifCond .le off, 3)) (ht : (pc : Int) + off = (tgt : Int)) (kt : x ≤ 0 → Wg M Z V nL I J tgt lv st) (kf : ¬ x ≤ 0 → Wg M Z V nL I J (pc + 3) lv st) : Wg M Z V nL I J pc lv (.int x :: st) := fun H locs ls hP hS hl => lv_if_le X.1 X.2.1 hd ht (fun h => kt h H locs ls hP hS hl) (fun h => kf h H locs ls hP hS hl)
theorem g_icmp_le (X : Cx M Z V cc nL own ret d) {x y : Int32} {off : Int} {tgt : Nat} (hd : decode cc pc = .ok (.if_icmp .le off, 3)) (ht : (pc : Int) + off = (tgt : Int)) (kt : x ≤ y → Wg M Z V nL I J tgt lv st) (kf : ¬ x ≤ y → Wg M Z V nL I J (pc + 3) lv st) : Wg M Z V nL I J pc lv (.int y :: .int x :: st) := fun H locs ls hP hS hl => lv_icmp_le X.1 X.2.1 hd ht (fun h => kt h H locs ls hP hS hl) (fun h => kf h H locs ls hP hS hl)
end GR
end
section
/-- a class as the tables have it -/
def clsOK (ci : Nat) (C : String) (T : u_T) (N : Nat) (ty : Nat → FieldType) : Prop := ci < 9 ∧ vwCl[ci]? = some (C, T, N) ∧ (∀ w ∈ u_ws C T N, w ∈ GG) ∧ (∀ k, k < N → parseFieldDescriptor (T k).2.2.1 = some (ty k)) ∧ ∀ a, a < N → ∀ b, b < N → a ≠ b → (T a).2.1 ≠ (T b).2.1
def inb (i : Int32) (n : Nat) : Bool := decide (¬ i < 0) && decide (i.toNatClampNeg < n)
theorem inb_in {i : Int32} {n : Nat} (h : inb i n = true) : vp_in i n := by
  simp only [inb, Bool.and_eq_true, decide_eq_true_eq] at h
  intro hh
  rcases hh with hh | hh
  · exact h.1 hh
  · omega
theorem inb_nI {n N : Nat} (h : n < N) (hN : N < 2 ^ 31) : inb (nI n) N = true := by
  simp only [inb, Bool.and_eq_true, decide_eq_true_eq]
  exact ⟨nI_pos (by omega), by rw [nI_clamp (by omega)]; exact h⟩
theorem pI_row {Z : Sh} {V : VT} {I : aI} {J : aJ} {k : Nat} (r : Nat → Int32) (h : k < Z.1) {e : va_E} (he : e = ent Z V.2.1 V.2.2 k r (J k)) : (wld Z V I J).set k (V.2.2 k, e) = wld Z V (uI I k r) J := by
  subst he; exact wld_setI r h
theorem pJ_row {Z : Sh} {V : VT} {I : aI} {J : aJ} {k : Nat} (r : Nat → Int64) (h : k < Z.1) {e : va_E} (he : e = ent Z V.2.1 V.2.2 k (I k) r) : (wld Z V I J).set k (V.2.2 k, e) = wld Z V I (uJ J k r) := by
  subst he; exact wld_setJ r h
section GH
variable {M : MT} {Z : Sh} {V : VT} {cc : ByteArray} {nL : Nat} {own : String} {ret : Option FieldType} {d : Nat} {I : aI} {J : aJ} {pc : Nat} {lv lv' : List (Nat × Value)} {st : List Value}
theorem g_get (X : Cx M Z V cc nL own ret d) {x : Nat} (hd : decode cc pc = .ok (.getfield x, 3)) {k ci : Nat} (ho : okc Z k ci 0) {C : String} {T : u_T} {N : Nat} {ty : Nat → FieldType} (hc : clsOK ci C T N ty) (sl : Nat) (hsl : sl < N) (hw : Cond.fieldLink own x (T sl).1 (T sl).2.1 (T sl).2.2.1 ∈ GG) {v : Value} (hv : (flds ci V.2.2 k (I k) (J k))[sl]? = some v) (kk : Wg M Z V nL I J (pc + 3) lv (v :: st)) : Wg M Z V nL I J pc lv (.ref (V.2.2 k) :: st) := by
  obtain ⟨p, l, e, R, s, m, args, below, meth, c, Q⟩ := M
  obtain ⟨hx, hb, hml, hown, hts, hr, hlk, hR, hK, hF, hJ⟩ := X
  intro H locs ls hP hS hl
  exact va_get hx hb hts hc.2.2.1 hown hK hP k (by rw [wld_get ho.1, ent_o ho hc.1]) hc.2.1 sl hsl (hts _ hw) (fun _ h => h) hv hd (kk H locs ls hP hS hl)
theorem g_putI (X : Cx M Z V cc nL own ret d) {x : Nat} (hd : decode cc pc = .ok (.putfield x, 3)) {k ci : Nat} (ho : okc Z k ci 0) {C : String} {T : u_T} {N : Nat} {ty : Nat → FieldType} (hc : clsOK ci C T N ty) (sl : Nat) (hsl : sl < N) (hw : Cond.fieldLink own x (T sl).1 (T sl).2.1 (T sl).2.2.1 ∈ GG) {v : Int32} (hfi : (T sl).2.2.2 = false) (ft : FieldType) (hpd : parseFieldDescriptor (T sl).2.2.1 = some ft) (hn : narrow ft (.int v) = .int v) (hfit : fits ft (.int v) = true) (hlen : sl < (flds ci V.2.2 k (I k) (J k)).length)
    (hset : ∀ (i : Nat → Int32) (j : Nat → Int64), (flds ci V.2.2 k i j).set sl (.int v) = flds ci V.2.2 k (upd i sl v) j) (kk : Wg M Z V nL (pI I k sl v) J (pc + 3) lv st) : Wg M Z V nL I J pc lv (.int v :: .ref (V.2.2 k) :: st) := by
  obtain ⟨p, l, e, R, s, m, args, below, meth, c, Q⟩ := M
  obtain ⟨hx, hb, hml, hown, hts, hr, hlk, hR, hK, hF, hJ⟩ := X
  intro H locs ls hP hS hl
  refine va_put (ty := ft) hx hb hts hc.2.2.1 ty hc.2.2.2.1 hc.2.2.2.2 hown hK hP (wld_D hJ I J) hS k (by rw [wld_get ho.1, ent_o ho hc.1]) hc.2.1 sl hsl (hts _ hw) (fun _ h => h) hfi hpd hn hfit hlen hd (fun H1 locs1 hP1 _ hS1 => kk H1 locs1 ls ?_ hS1 hl)
  rw [pI_row (upd (I k) sl v) ho.1 (by rw [ent_o ho hc.1, hset])] at hP1
  exact hP1
theorem g_putJ (X : Cx M Z V cc nL own ret d) {x : Nat} (hd : decode cc pc = .ok (.putfield x, 3)) {k ci : Nat} (ho : okc Z k ci 0) {C : String} {T : u_T} {N : Nat} {ty : Nat → FieldType} (hc : clsOK ci C T N ty) (sl : Nat) (hsl : sl < N) (hw : Cond.fieldLink own x (T sl).1 (T sl).2.1 (T sl).2.2.1 ∈ GG) {v : Int64} (hfi : (T sl).2.2.2 = false) (ft : FieldType) (hpd : parseFieldDescriptor (T sl).2.2.1 = some ft) (hn : narrow ft (.long v) = .long v) (hfit : fits ft (.long v) = true) (hlen : sl < (flds ci V.2.2 k (I k) (J k)).length)
    (hset : ∀ (i : Nat → Int32) (j : Nat → Int64), (flds ci V.2.2 k i j).set sl (.long v) = flds ci V.2.2 k i (vp_updL j sl v)) (kk : Wg M Z V nL I (pJ J k sl v) (pc + 3) lv st) : Wg M Z V nL I J pc lv (.long v :: .ref (V.2.2 k) :: st) := by
  obtain ⟨p, l, e, R, s, m, args, below, meth, c, Q⟩ := M
  obtain ⟨hx, hb, hml, hown, hts, hr, hlk, hR, hK, hF, hJ⟩ := X
  intro H locs ls hP hS hl
  refine va_put (ty := ft) hx hb hts hc.2.2.1 ty hc.2.2.2.1 hc.2.2.2.2 hown hK hP (wld_D hJ I J) hS k (by rw [wld_get ho.1, ent_o ho hc.1]) hc.2.1 sl hsl (hts _ hw) (fun _ h => h) hfi hpd hn hfit hlen hd (fun H1 locs1 hP1 _ hS1 => kk H1 locs1 ls ?_ hS1 hl)
  rw [pJ_row (vp_updL (J k) sl v) ho.1 (by rw [ent_o ho hc.1, hset])] at hP1
  exact hP1
theorem g_iaload (X : Cx M Z V cc nL own ret d) (hd : decode cc pc = .ok (.iaload, 1)) {k n : Nat} (ho : okc Z k 9 n) {i : Int32} (hi : inb i n = true) (kk : Wg M Z V nL I J (pc + 1) lv (.int (I k i.toNatClampNeg) :: st)) : Wg M Z V nL I J pc lv (.int i :: .ref (V.2.2 k) :: st) := by
  obtain ⟨p, l, e, R, s, m, args, below, meth, c, Q⟩ := M
  obtain ⟨hx, hb, hml, hown, hts, hr, hlk, hR, hK, hF, hJ⟩ := X
  intro H locs ls hP hS hl
  exact va_iald hx hb hK hP k 0 (by rw [wld_get ho.1, ent_i ho]) rfl (inb_in hi) hd (kk H locs ls hP hS hl)
theorem g_laload (X : Cx M Z V cc nL own ret d) (hd : decode cc pc = .ok (.laload, 1)) {k n : Nat} (ho : okc Z k 10 n) {i : Int32} (hi : inb i n = true) (kk : Wg M Z V nL I J (pc + 1) lv (.long (J k i.toNatClampNeg) :: st)) : Wg M Z V nL I J pc lv (.int i :: .ref (V.2.2 k) :: st) := by
  obtain ⟨p, l, e, R, s, m, args, below, meth, c, Q⟩ := M
  obtain ⟨hx, hb, hml, hown, hts, hr, hlk, hR, hK, hF, hJ⟩ := X
  intro H locs ls hP hS hl
  exact va_lald hx hb hK hP k 1 (by rw [wld_get ho.1, ent_j ho]) rfl (inb_in hi) hd (kk H locs ls hP hS hl)
theorem g_baload (X : Cx M Z V cc nL own ret d) (hd : decode cc pc = .ok (.baload, 1)) {k n : Nat} (ho : okc Z k 11 n) {i : Int32} (hi : inb i n = true) (kk : Wg M Z V nL I J (pc + 1) lv (.int (I k i.toNatClampNeg) :: st)) : Wg M Z V nL I J pc lv (.int i :: .ref (V.2.2 k) :: st) := by
  obtain ⟨p, l, e, R, s, m, args, below, meth, c, Q⟩ := M
  obtain ⟨hx, hb, hml, hown, hts, hr, hlk, hR, hK, hF, hJ⟩ := X
  intro H locs ls hP hS hl
  exact va_zald hx hb hK hP k 2 (by rw [wld_get ho.1, ent_z ho]) rfl (inb_in hi) hd (kk H locs ls hP hS hl)
theorem g_aaloadE (X : Cx M Z V cc nL own ret d) (hd : decode cc pc = .ok (.aaload, 1)) {k n : Nat} (ho : okc Z k 12 n) {i : Int32} (hi : inb i n = true) (kk : Wg M Z V nL I J (pc + 1) lv (.ref (V.2.2 (k + 1 + 2 * i.toNatClampNeg)) :: st)) : Wg M Z V nL I J pc lv (.int i :: .ref (V.2.2 k) :: st) := by
  obtain ⟨p, l, e, R, s, m, args, below, meth, c, Q⟩ := M
  obtain ⟨hx, hb, hml, hown, hts, hr, hlk, hR, hK, hF, hJ⟩ := X
  intro H locs ls hP hS hl
  exact va_aldq (f := fun x => some (V.2.2 (k + 1 + 2 * x))) hx hb hK hP k 3 (by rw [wld_get ho.1, ent_e ho]) rfl (inb_in hi) hd (kk H locs ls hP hS hl)
theorem g_aaloadG (X : Cx M Z V cc nL own ret d) (hd : decode cc pc = .ok (.aaload, 1)) {k n : Nat} (ho : okc Z k 13 n) {i : Int32} (hi : inb i n = true) (kk : Wg M Z V nL I J (pc + 1) lv (.ref (V.2.2 (k + 1 + i.toNatClampNeg)) :: st)) : Wg M Z V nL I J pc lv (.int i :: .ref (V.2.2 k) :: st) := by
  obtain ⟨p, l, e, R, s, m, args, below, meth, c, Q⟩ := M
  obtain ⟨hx, hb, hml, hown, hts, hr, hlk, hR, hK, hF, hJ⟩ := X
  intro H locs ls hP hS hl
  have ha : (wld Z V I J)[k]? = some (V.2.2 k, .inl (V.2.1 4, n, .inr (.inr (.inr (.inr (fun x => some (V.2.2 (k + 1 + x)))))))) := by rw [wld_get ho.1, ent_g ho]
  have hin := inb_in hi
  have hlt : i.toNatClampNeg < n := Nat.not_le.mp fun q => hin (Or.inr q)
  exact W.aald (v := va_rf (some (V.2.2 (k + 1 + i.toNatClampNeg)))) (ty := .array .int) hx hb (hP k _ ha) ((hK.2 4 (V.2.1 4, .array .int) rfl).1 n (fun j => va_rf (some (V.2.2 (k + 1 + j))))) rfl (fun q => by cases q) (by show ¬ (i < 0 ∨ (arrV _ _ _).slots.size ≤ _); rw [arrV_size]; exact hin) (by show (arrV _ _ _).slots[_]? = _; rw [arrV_read _ _ hlt]) rfl rfl hd (kk H locs ls hP hS hl)
theorem g_iastore (X : Cx M Z V cc nL own ret d) (hd : decode cc pc = .ok (.iastore, 1)) {k n : Nat} (ho : okc Z k 9 n) {i v : Int32} (hi : inb i n = true) (kk : Wg M Z V nL (pI I k i.toNatClampNeg v) J (pc + 1) lv st) : Wg M Z V nL I J pc lv (.int v :: .int i :: .ref (V.2.2 k) :: st) := by
  obtain ⟨p, l, e, R, s, m, args, below, meth, c, Q⟩ := M
  obtain ⟨hx, hb, hml, hown, hts, hr, hlk, hR, hK, hF, hJ⟩ := X
  intro H locs ls hP hS hl
  refine va_iast hx hb hK hP (wld_D hJ I J) hS k 0 (by rw [wld_get ho.1, ent_i ho]) rfl (inb_in hi) hd (fun H1 locs1 hP1 _ hS1 => kk H1 locs1 ls ?_ hS1 hl)
  rw [pI_row (upd (I k) i.toNatClampNeg v) ho.1 (by rw [ent_i ho])] at hP1
  exact hP1
theorem g_lastore (X : Cx M Z V cc nL own ret d) (hd : decode cc pc = .ok (.lastore, 1)) {k n : Nat} (ho : okc Z k 10 n) {i : Int32} {v : Int64} (hi : inb i n = true) (kk : Wg M Z V nL I (pJ J k i.toNatClampNeg v) (pc + 1) lv st) : Wg M Z V nL I J pc lv (.long v :: .int i :: .ref (V.2.2 k) :: st) := by
  obtain ⟨p, l, e, R, s, m, args, below, meth, c, Q⟩ := M
  obtain ⟨hx, hb, hml, hown, hts, hr, hlk, hR, hK, hF, hJ⟩ := X
  intro H locs ls hP hS hl
  refine va_last hx hb hK hP (wld_D hJ I J) hS k 1 (by rw [wld_get ho.1, ent_j ho]) rfl (inb_in hi) hd (fun H1 locs1 hP1 _ hS1 => kk H1 locs1 ls ?_ hS1 hl)
  rw [pJ_row (vp_updL (J k) i.toNatClampNeg v) ho.1 (by rw [ent_j ho])] at hP1
  exact hP1
theorem g_bastore (X : Cx M Z V cc nL own ret d) (hd : decode cc pc = .ok (.bastore, 1)) {k n : Nat} (ho : okc Z k 11 n) {i v : Int32} (hi : inb i n = true) (kk : Wg M Z V nL (pI I k i.toNatClampNeg (vp_nar .boolean v)) J (pc + 1) lv st) : Wg M Z V nL I J pc lv (.int v :: .int i :: .ref (V.2.2 k) :: st) := by
  obtain ⟨p, l, e, R, s, m, args, below, meth, c, Q⟩ := M
  obtain ⟨hx, hb, hml, hown, hts, hr, hlk, hR, hK, hF, hJ⟩ := X
  intro H locs ls hP hS hl
  refine va_zast hx hb hK hP (wld_D hJ I J) hS k 2 (by rw [wld_get ho.1, ent_z ho]) rfl (inb_in hi) hd (fun H1 locs1 hP1 _ hS1 => kk H1 locs1 ls ?_ hS1 hl)
  rw [pI_row (upd (I k) i.toNatClampNeg (vp_nar .boolean v)) ho.1 (by rw [ent_z ho])] at hP1
  exact hP1
theorem g_alenI (X : Cx M Z V cc nL own ret d) (hd : decode cc pc = .ok (.arraylength, 1)) {k n : Nat} (ho : okc Z k 9 n) (kk : Wg M Z V nL I J (pc + 1) lv (.int (nI n) :: st)) : Wg M Z V nL I J pc lv (.ref (V.2.2 k) :: st) := by
  obtain ⟨p, l, e, R, s, m, args, below, meth, c, Q⟩ := M
  obtain ⟨hx, hb, hml, hown, hts, hr, hlk, hR, hK, hF, hJ⟩ := X
  intro H locs ls hP hS hl
  exact va_alen (x := (n, .inl (I k))) hx hb hK hP k 0 (by rw [wld_get ho.1, ent_i ho]) (ty := .int) rfl rfl hd (kk H locs ls hP hS hl)
theorem g_alenJ (X : Cx M Z V cc nL own ret d) (hd : decode cc pc = .ok (.arraylength, 1)) {k n : Nat} (ho : okc Z k 10 n) (kk : Wg M Z V nL I J (pc + 1) lv (.int (nI n) :: st)) : Wg M Z V nL I J pc lv (.ref (V.2.2 k) :: st) := by
  obtain ⟨p, l, e, R, s, m, args, below, meth, c, Q⟩ := M
  obtain ⟨hx, hb, hml, hown, hts, hr, hlk, hR, hK, hF, hJ⟩ := X
  intro H locs ls hP hS hl
  exact va_alen (x := (n, .inr (.inl (J k)))) hx hb hK hP k 1 (by rw [wld_get ho.1, ent_j ho]) (ty := .long) rfl rfl hd (kk H locs ls hP hS hl)
theorem g_ireturn (X : Cx M Z V cc nL own (some .int) d) (hd : decode cc pc = .ok (.ireturn, 1)) {r : Int32} (hQ : PI M Z V (r, I, J)) : Wg M Z V nL I J pc lv [.int r] := by
  obtain ⟨p, l, e, R, s, m, args, below, meth, c, Q⟩ := M
  obtain ⟨hx, hb, hml, hown, hts, hr, hlk, hR, hK, hF, hJ⟩ := X
  intro H locs ls hP hS hl
  have hQ : Q = _ := hQ
  subst hQ
  exact W.iret hx hb hr (fun t ht hW => ⟨⟨r, (), rfl, rfl, by show va_P V.1 vwCl (wld Z V I J) t.heap; rw [ht]; exact hP⟩, hS.F ht⟩) hS.2.2 hd hlk
theorem g_zreturn (X : Cx M Z V cc nL own (some .boolean) d) (hd : decode cc pc = .ok (.ireturn, 1)) {r : Int32} (hz : r = 0 ∨ r = 1) (hQ : PI M Z V (r, I, J)) : Wg M Z V nL I J pc lv [.int r] := by
  obtain ⟨p, l, e, R, s, m, args, below, meth, c, Q⟩ := M
  obtain ⟨hx, hb, hml, hown, hts, hr, hlk, hR, hK, hF, hJ⟩ := X
  intro H locs ls hP hS hl
  have hQ : Q = _ := hQ
  subst hQ
  exact W.zret hx hb hr (by rcases hz with rfl | rfl <;> rfl) (fun t ht hW => ⟨⟨r, (), rfl, rfl, by show va_P V.1 vwCl (wld Z V I J) t.heap; rw [ht]; exact hP⟩, hS.F ht⟩) hS.2.2 hd hlk
theorem g_lreturn (X : Cx M Z V cc nL own (some .long) d) (hd : decode cc pc = .ok (.lreturn, 1)) {r : Int64} (hQ : PL M Z V (r, I, J)) : Wg M Z V nL I J pc lv [.long r] := by
  obtain ⟨p, l, e, R, s, m, args, below, meth, c, Q⟩ := M
  obtain ⟨hx, hb, hml, hown, hts, hr, hlk, hR, hK, hF, hJ⟩ := X
  intro H locs ls hP hS hl
  have hQ : Q = _ := hQ
  subst hQ
  exact W.lret hx hb hr (fun t ht hW => ⟨⟨r, (), rfl, rfl, by show va_P V.1 vwCl (wld Z V I J) t.heap; rw [ht]; exact hP⟩, hS.F ht⟩) hS.2.2 hd hlk
theorem g_vreturn (X : Cx M Z V cc nL own none d) (hd : decode cc pc = .ok (.return_, 1)) (hQ : PV M Z V ((), I, J)) : Wg M Z V nL I J pc lv [] := by
  obtain ⟨p, l, e, R, s, m, args, below, meth, c, Q⟩ := M
  obtain ⟨hx, hb, hml, hown, hts, hr, hlk, hR, hK, hF, hJ⟩ := X
  intro H locs ls hP hS hl
  have hQ : Q = _ := hQ
  subst hQ
  exact W.vret hx hb hr (fun t ht hW => ⟨⟨(), rfl, trivial, by show va_P V.1 vwCl (wld Z V I J) t.heap; rw [ht]; exact hP⟩, hS.F ht⟩) hS.2.2 hd hlk
end GH
end
section
theorem GG_ok {w : Cond} (h : w ∈ GG) : goodWord w = true := (List.mem_filter.mp h).2
theorem GG_in {w : Cond} (h : w ∈ lw_tbl) (hg : goodWord w = true) : w ∈ GG := List.mem_filter.mpr ⟨h, hg⟩
theorem GG_self {w : Cond} (h : w ∈ GG) : GoodIn GG (w :: GG) := by
  intro u hu
  rcases List.mem_cons.mp hu with rfl | hu
  · exact ⟨h, good_of_word (GG_ok h)⟩
  · exact ⟨hu, good_of_word (GG_ok hu)⟩
/-- the words of a call of an instance method; of a static one; the depth -/
def cwk (own : String) (x : Nat) (C : String) (y : MethodName) (b : ByteArray) (nl : Nat) (rt : Option FieldType) (n : Nat) : Prop :=
  Cond.methodLink own x y ∈ GG ∧ Cond.instanceMethod y ∈ GG ∧ Cond.selects C y y ∈ GG ∧ Cond.initialized C ∈ GG ∧ Cond.code y b nl rt ∈ GG ∧ (y.cls = C ∧ y.cls ≠ "java/lang/invoke/MethodHandle" ∧ y.cls ≠ "java/lang/invoke/VarHandle" ∧ (parseMethodDescriptor y.desc).map (fun d => d.parameters.length) = some n) ∧ nl ≤ 21
def swk (own : String) (x : Nat) (y : MethodName) (b : ByteArray) (nl : Nat) (rt : Option FieldType) (n : Nat) : Prop :=
  Cond.methodLink own x y ∈ GG ∧ Cond.static y ∈ GG ∧ Cond.initialized y.cls ∈ GG ∧ Cond.code y b nl rt ∈ GG ∧ (y.cls ≠ "java/lang/invoke/MethodHandle" ∧ y.cls ≠ "java/lang/invoke/VarHandle" ∧ (parseMethodDescriptor y.desc).map (fun d => d.parameters.length) = some n) ∧ nl ≤ 21
def nwk (y : MethodName) (b : ByteArray) (nl : Nat) (rt : Option FieldType) (n : Nat) : Prop :=
  Cond.static y ∈ GG ∧ Cond.initialized y.cls ∈ GG ∧ Cond.code y b nl rt ∈ GG ∧ (y.cls ≠ "java/lang/invoke/MethodHandle" ∧ y.cls ≠ "java/lang/invoke/VarHandle" ∧ (parseMethodDescriptor y.desc).map (fun d => d.parameters.length) = some n) ∧ nl ≤ 21
theorem rm_ok {d' d nl : Nat} (h : d' + 1 ≤ d) (hn : nl ≤ 21) : (rmD d').frames + 1 ≤ (rmD d).frames ∧ 8 + (nl + 11) + (rmD d').locals ≤ (rmD d).locals := by
  simp only [rmD]; omega
section GC
variable {M : MT} {Z : Sh} {V : VT} {cc : ByteArray} {nL : Nat} {own : String} {ret : Option FieldType} {d : Nat} {I : aI} {J : aJ} {pc : Nat} {lv lv' : List (Nat × Value)} {st st0 : List Value}
theorem g_callV (X : Cx M Z V cc nL own ret d) {x : Nat} (hd : decode cc pc = .ok (.invokevirtual x, 3)) {C : String} {y : MethodName} {b : ByteArray} {nl n : Nat} {rt : Option FieldType} (hw : cwk own x C y b nl rt n) {k : Nat} {As : List Value} (hrec : ∀ s H locs, va_K V.1 vwCl (vTy V) s → Fx Z V s → va_P V.1 vwCl (wld Z V I J) H → va_S (vAd Z V) s.heap H locs → ∃ cellB : Cell, H[V.2.2 k]? = some cellB ∧ cellB.vm.isStatics = false ∧ s.vm.findClass C = some cellB.cls) (hn : As.length = n) (hst : st0 = As.reverse ++ .ref (V.2.2 k) :: st) (hcat : (st.map fun v => v.category).sum ≤ 8) {d' : Nat} (hdd : d' + 1 ≤ d)
    {Qc : Array Value → State → Outcome → State → Prop} (hM : Met M.2.1 y (.code y b nl rt :: GG) (rmD d') (va_Pc (.ref (V.2.2 k) :: As) (cQ Z V I J)) Qc 0 0 (vAd Z V))
    (kk : match M with | (p, l, e, R, s, m, args, below, meth, c, Q) => ∀ (H : Heap) (locs : List Loc) (ls : Array Slot), va_P V.1 vwCl (wld Z V I J) H → va_S (vAd Z V) s.heap H locs → lv_has ls nL lv → va_Run p l e R s m args below meth c H locs 0 0 0 0 (F0 m pc ls st0) st (Qc (Value.ref (V.2.2 k) :: As).toArray) (vAd Z V) → W p l e R s m args below meth c H locs 0 0 Q (F0 m pc ls st0)) : Wg M Z V nL I J pc lv st0 := by
  obtain ⟨p, l, e, R, s, m, args, below, meth, c, Q⟩ := M
  obtain ⟨hx, hb, hml, hown, hts, hr, hlk, hR, hK, hF, hJ⟩ := X
  subst hR
  intro H locs ls hP hS hl
  refine kk H locs ls hP hS hl ?_
  obtain ⟨w1, w2, w3, w4, w5, w6, w7⟩ := hw
  have hT : GoodIn GG (wsV own x C y (.code y b nl rt :: GG)) := by
    intro u hu
    have hu : u ∈ ([.methodLink own x y, .instanceMethod y, .selects C y y, .initialized C] : List Cond) ++ (Cond.code y b nl rt :: GG) := hu
    rcases List.mem_append.mp hu with h | h
    · simp only [List.mem_cons, List.not_mem_nil, or_false] at h
      rcases h with rfl | rfl | rfl | rfl
      · exact ⟨w1, good_of_word (GG_ok w1)⟩
      · exact ⟨w2, good_of_word (GG_ok w2)⟩
      · exact ⟨w3, good_of_word (GG_ok w3)⟩
      · exact ⟨w4, good_of_word (GG_ok w4)⟩
    · exact GG_self w5 u h
  exact va_runV (As := As) (rest := st) ⟨hx, hb, hml, hown, hts⟩ hM (cwV n hts hT rfl rfl rfl w6 (rm_ok hdd w7)) ⟨cQ.blind, hrec s H locs hK hF hP hS, fun U hU hW => ⟨rfl, by rw [hU]; exact hP, va_K.moved hW.alike hK, hF.go hW hU hS.2.1, hJ⟩⟩ rfl hn hl.1 hst (lv_room hcat) hd ⟨Nat.zero_le _, Nat.zero_le _⟩
theorem g_callS (X : Cx M Z V cc nL own ret d) {x : Nat} (hd : decode cc pc = .ok (.invokestatic x, 3)) {y : MethodName} {b : ByteArray} {nl n : Nat} {rt : Option FieldType} (hw : swk own x y b nl rt n) {As : List Value} (hn : As.length = n) (hst : st0 = As.reverse ++ st) (hcat : (st.map fun v => v.category).sum ≤ 8) {d' : Nat} (hdd : d' + 1 ≤ d)
    {Qc : Array Value → State → Outcome → State → Prop} (hM : Met M.2.1 y (.code y b nl rt :: GG) (rmD d') (va_Pc As (cQ Z V I J)) Qc 0 0 (vAd Z V))
    (kk : match M with | (p, l, e, R, s, m, args, below, meth, c, Q) => ∀ (H : Heap) (locs : List Loc) (ls : Array Slot), va_P V.1 vwCl (wld Z V I J) H → va_S (vAd Z V) s.heap H locs → lv_has ls nL lv → va_Run p l e R s m args below meth c H locs 0 0 0 0 (F0 m pc ls st0) st (Qc As.toArray) (vAd Z V) → W p l e R s m args below meth c H locs 0 0 Q (F0 m pc ls st0)) : Wg M Z V nL I J pc lv st0 := by
  obtain ⟨p, l, e, R, s, m, args, below, meth, c, Q⟩ := M
  obtain ⟨hx, hb, hml, hown, hts, hr, hlk, hR, hK, hF, hJ⟩ := X
  subst hR
  intro H locs ls hP hS hl
  refine kk H locs ls hP hS hl ?_
  obtain ⟨w1, w2, w3, w5, w6, w7⟩ := hw
  have hT : GoodIn GG (va_wsS own x y (.code y b nl rt :: GG)) := by
    intro u hu
    have hu : u ∈ ([.methodLink own x y, .static y, .initialized y.cls] : List Cond) ++ (Cond.code y b nl rt :: GG) := hu
    rcases List.mem_append.mp hu with h | h
    · simp only [List.mem_cons, List.not_mem_nil, or_false] at h
      rcases h with rfl | rfl | rfl
      · exact ⟨w1, good_of_word (GG_ok w1)⟩
      · exact ⟨w2, good_of_word (GG_ok w2)⟩
      · exact ⟨w3, good_of_word (GG_ok w3)⟩
    · exact GG_self w5 u h
  exact va_runS (As := As) (rest := st) ⟨hx, hb, hml, hown, hts⟩ hM (va_cwS n hts hT rfl rfl rfl w6 (rm_ok hdd w7)) ⟨cQ.blind, fun U hU hW => ⟨rfl, by rw [hU]; exact hP, va_K.moved hW.alike hK, hF.go hW hU hS.2.1, hJ⟩⟩ rfl hn hl.1 hst (lv_room hcat) hd ⟨Nat.zero_le _, Nat.zero_le _⟩
theorem g_callN (X : Cx M Z V cc nL own ret d) {x : Nat} (hd : decode cc pc = .ok (.invokestatic x, 3)) {y : MethodName} {b : ByteArray} {nl n : Nat} {rt : Option FieldType} (hw : nwk y b nl rt n) {host : String} (hnw : ∀ U, Fx Z V U → va_Nw (.methodLinkNest own x y host) U) {As : List Value} (hn : As.length = n) (hst : st0 = As.reverse ++ st) (hcat : (st.map fun v => v.category).sum ≤ 8) {d' : Nat} (hdd : d' + 1 ≤ d)
    {Qc : Array Value → State → Outcome → State → Prop} (hM : Met M.2.1 y (.code y b nl rt :: GG) (rmD d') (va_Pc As (cQ Z V I J)) Qc 0 0 (vAd Z V))
    (kk : match M with | (p, l, e, R, s, m, args, below, meth, c, Q) => ∀ (H : Heap) (locs : List Loc) (ls : Array Slot), va_P V.1 vwCl (wld Z V I J) H → va_S (vAd Z V) s.heap H locs → lv_has ls nL lv → va_Run p l e R s m args below meth c H locs 0 0 0 0 (F0 m pc ls st0) st (Qc As.toArray) (vAd Z V) → W p l e R s m args below meth c H locs 0 0 Q (F0 m pc ls st0)) : Wg M Z V nL I J pc lv st0 := by
  obtain ⟨p, l, e, R, s, m, args, below, meth, c, Q⟩ := M
  obtain ⟨hx, hb, hml, hown, hts, hr, hlk, hR, hK, hF, hJ⟩ := X
  subst hR
  intro H locs ls hP hS hl
  refine kk H locs ls hP hS hl ?_
  obtain ⟨w2, w3, w5, w6, w7⟩ := hw
  exact va_runSN (As := As) (rest := st) (host := host) ⟨hx, hb, hml, hown, hts⟩ hM ⟨va_cnB n hts (GG_self w5) rfl rfl rfl (hnw s hF) (hts _ w3) w6 (rm_ok hdd w7), hts _ w2, trivial⟩ ⟨cQ.blind, fun U hU hW => ⟨rfl, by rw [hU]; exact hP, va_K.moved hW.alike hK, hF.go hW hU hS.2.1, hJ⟩⟩ rfl hn hl.1 hst (lv_room hcat) hd ⟨Nat.zero_le _, Nat.zero_le _⟩
/-- behind a call: an int, a long, nothing -/
theorem k_I {a : Array Value} {q : RT Int32} (kk : Wg M Z V nL q.2.1 q.2.2 (pc + 3) lv (.int q.1 :: st)) : match M with | (p, l, e, R, s, m, args, below, meth, c, Q) => ∀ (H : Heap) (locs : List Loc) (ls : Array Slot), va_P V.1 vwCl (wld Z V I J) H → va_S (vAd Z V) s.heap H locs → lv_has ls nL lv → va_Run p l e R s m args below meth c H locs 0 0 0 0 (F0 m pc ls st0) st (QI Z V q a) (vAd Z V) → W p l e R s m args below meth c H locs 0 0 Q (F0 m pc ls st0) := by
  obtain ⟨p, l, e, R, s, m, args, below, meth, c, Q⟩ := M
  intro H locs ls hP hS hl hr
  refine va_calli hr hS (fun _ _ h => h) (fun _ h => h) (fun r u t H1 locs1 ht _ hp hB _ _ hS1 => ?_)
  have hp : r = q.1 := hp
  subst hp
  exact kk H1 locs1 ls (by rw [← ht]; exact hB) hS1 hl
theorem k_L {a : Array Value} {q : RT Int64} (kk : Wg M Z V nL q.2.1 q.2.2 (pc + 3) lv (.long q.1 :: st)) : match M with | (p, l, e, R, s, m, args, below, meth, c, Q) => ∀ (H : Heap) (locs : List Loc) (ls : Array Slot), va_P V.1 vwCl (wld Z V I J) H → va_S (vAd Z V) s.heap H locs → lv_has ls nL lv → va_Run p l e R s m args below meth c H locs 0 0 0 0 (F0 m pc ls st0) st (QL Z V q a) (vAd Z V) → W p l e R s m args below meth c H locs 0 0 Q (F0 m pc ls st0) := by
  obtain ⟨p, l, e, R, s, m, args, below, meth, c, Q⟩ := M
  intro H locs ls hP hS hl hr
  refine va_calll hr hS (fun _ _ h => h) (fun _ h => h) (fun r u t H1 locs1 ht _ hp hB _ _ hS1 => ?_)
  have hp : r = q.1 := hp
  subst hp
  exact kk H1 locs1 ls (by rw [← ht]; exact hB) hS1 hl
theorem k_V {a : Array Value} {q : RT Unit} (kk : Wg M Z V nL q.2.1 q.2.2 (pc + 3) lv st) : match M with | (p, l, e, R, s, m, args, below, meth, c, Q) => ∀ (H : Heap) (locs : List Loc) (ls : Array Slot), va_P V.1 vwCl (wld Z V I J) H → va_S (vAd Z V) s.heap H locs → lv_has ls nL lv → va_Run p l e R s m args below meth c H locs 0 0 0 0 (F0 m pc ls st0) st (QV Z V q a) (vAd Z V) → W p l e R s m args below meth c H locs 0 0 Q (F0 m pc ls st0) := by
  obtain ⟨p, l, e, R, s, m, args, below, meth, c, Q⟩ := M
  intro H locs ls hP hS hl hr
  refine va_callv hr hS (fun _ _ h => h) (fun _ h => h) (fun u t H1 locs1 ht _ hp hB _ _ hS1 => ?_)
  exact kk H1 locs1 ls (by rw [← ht]; exact hB) hS1 hl
/-- the receiver is a cell of the world -/
theorem rcv {k ci : Nat} (ho : okc Z k ci 0) {C : String} {T : u_T} {N : Nat} {ty : Nat → FieldType} (hc : clsOK ci C T N ty) : ∀ (s : State) (H : Heap) (locs : List Loc), va_K V.1 vwCl (vTy V) s → Fx Z V s → va_P V.1 vwCl (wld Z V I J) H → va_S (vAd Z V) s.heap H locs → ∃ cellB : Cell, H[V.2.2 k]? = some cellB ∧ cellB.vm.isStatics = false ∧ s.vm.findClass C = some cellB.cls := by
  intro s H locs hK _ hP _
  exact va_recv hK hP hc.2.1 (by rw [wld_get ho.1, ent_o ho hc.1])
theorem g_mmax (X : Cx M Z V cc nL own ret d) {x : Nat} (hd : decode cc pc = .ok (.invokestatic x, 3)) {u v : Int32} (w1 : Cond.methodLink own x Lib.Math.max.name ∈ GG) (w2 : Cond.static Lib.Math.max.name ∈ GG) (w3 : Cond.initialized "java/lang/Math" ∈ GG) (w4 : Cond.code Lib.Math.max.name Lib.Math.max.code 2 (some .int) ∈ GG) (hcat : (st.map fun v => v.category).sum ≤ 8) (hdd : 1 ≤ d) (kk : Wg M Z V nL I J (pc + 3) lv (.int (if u < v then v else u) :: st)) : Wg M Z V nL I J pc lv (.int v :: .int u :: st) := by
  obtain ⟨p, l, e, R, s, m, args, below, meth, c, Q⟩ := M
  obtain ⟨hx, hb, hml, hown, hts, hr, hlk, hR, hK, hF, hJ⟩ := X
  subst hR
  intro H locs ls hP hS hl
  exact va_mmax hx hb (by rw [hml, hl.1]) hown (hts _ w1) (hts _ w2) (hts _ w3) (hts _ w4) hdd (by show _ ≤ 40 * d; omega) (Nat.zero_le _) (Nat.zero_le _) hd (kk H locs ls hP hS hl)
theorem g_mmin (X : Cx M Z V cc nL own ret d) {x : Nat} (hd : decode cc pc = .ok (.invokestatic x, 3)) {u v : Int32} (w1 : Cond.methodLink own x Lib.Math.min.name ∈ GG) (w2 : Cond.static Lib.Math.min.name ∈ GG) (w3 : Cond.initialized "java/lang/Math" ∈ GG) (w4 : Cond.code Lib.Math.min.name Lib.Math.min.code 2 (some .int) ∈ GG) (hcat : (st.map fun v => v.category).sum ≤ 8) (hdd : 1 ≤ d) (kk : Wg M Z V nL I J (pc + 3) lv (.int (if v < u then v else u) :: st)) : Wg M Z V nL I J pc lv (.int v :: .int u :: st) := by
  obtain ⟨p, l, e, R, s, m, args, below, meth, c, Q⟩ := M
  obtain ⟨hx, hb, hml, hown, hts, hr, hlk, hR, hK, hF, hJ⟩ := X
  subst hR
  intro H locs ls hP hS hl
  exact va_mmin hx hb (by rw [hml, hl.1]) hown (hts _ w1) (hts _ w2) (hts _ w3) (hts _ w4) hdd (by show _ ≤ 40 * d; omega) (Nat.zero_le _) (Nat.zero_le _) hd (kk H locs ls hP hS hl)
theorem g_mmaxl (X : Cx M Z V cc nL own ret d) {x : Nat} (hd : decode cc pc = .ok (.invokestatic x, 3)) {u v : Int64} (w1 : Cond.methodLink own x Lib.MathLoose.max_long.x ∈ GG) (w2 : Cond.static Lib.MathLoose.max_long.x ∈ GG) (w3 : Cond.initialized "java/lang/Math" ∈ GG) (w4 : Cond.code Lib.MathLoose.max_long.x Lib.MathLoose.max_long.code 4 (some .long) ∈ GG) (hcat : (st.map fun v => v.category).sum ≤ 8) (hdd : 1 ≤ d) (kk : Wg M Z V nL I J (pc + 3) lv (.long (if v < u then u else v) :: st)) : Wg M Z V nL I J pc lv (.long v :: .long u :: st) := by
  obtain ⟨p, l, e, R, s, m, args, below, meth, c, Q⟩ := M
  obtain ⟨hx, hb, hml, hown, hts, hr, hlk, hR, hK, hF, hJ⟩ := X
  subst hR
  intro H locs ls hP hS hl
  exact va_mmax_long hx hb (by rw [hml, hl.1]) hown (hts _ w1) (hts _ w2) (hts _ w3) (hts _ w4) hdd (by show _ ≤ 40 * d; omega) (Nat.zero_le _) (Nat.zero_le _) hd (kk H locs ls hP hS hl)
def cpb (sp dp n : Int32) (n0 n1 : Nat) : Bool := (decide (¬ sp < 0) && decide (¬ dp < 0)) && (decide (¬ n < 0) && (decide (sp.toNatClampNeg + n.toNatClampNeg ≤ n0) && decide (dp.toNatClampNeg + n.toNatClampNeg ≤ n1)))
theorem g_copyI (X : Cx M Z V cc nL own ret d) {x : Nat} (hd : decode cc pc = .ok (.invokestatic x, 3)) (w1 : Cond.methodLink own x arraycopyName ∈ GG) (w2 : Cond.native arraycopyName ∈ GG) (w3 : Cond.static arraycopyName ∈ GG) (w4 : Cond.initialized "java/lang/System" ∈ GG) {k0 k1 n0 n1 : Nat} (h0 : okc Z k0 9 n0) (h1 : okc Z k1 9 n1) {sp dp n : Int32} (hb : cpb sp dp n n0 n1 = true) (hdd : 1 ≤ d) (kk : Wg M Z V nL (uI I k1 (va_cpy (I k0) (I k1) sp.toNatClampNeg dp.toNatClampNeg n.toNatClampNeg)) J (pc + 3) lv []) : Wg M Z V nL I J pc lv [.int n, .int dp, .ref (V.2.2 k1), .int sp, .ref (V.2.2 k0)] := by
  obtain ⟨p, l, e, R, s, m, args, below, meth, c, Q⟩ := M
  obtain ⟨hx, hb2, hml, hown, hts, hr, hlk, hR, hK, hF, hJ⟩ := X
  subst hR
  simp only [cpb, Bool.and_eq_true, decide_eq_true_eq] at hb
  obtain ⟨⟨b1, b2⟩, b3, b4, b5⟩ := hb
  intro H locs ls hP hS hl
  refine va_copyi (ty := .int) hx hb2 (by rw [hml, hl.1]) hown (hts _ w1) (hts _ w2) (hts _ w3) (hts _ w4) hK hP (wld_D hJ I J) hS k0 k1 0 0 (by rw [wld_get h0.1, ent_i h0]) (by rw [wld_get h1.1, ent_i h1]) rfl rfl rfl b1 b2 b3 b4 b5 (fun _ _ => rfl) hdd (Nat.le_trans (Nat.le_of_ble_eq_true rfl : _ ≤ 40 * 1) (Nat.mul_le_mul_left 40 hdd)) hd (fun H1 locs1 hP1 _ hS1 => kk H1 locs1 ls ?_ hS1 hl)
  rw [pI_row (va_cpy (I k0) (I k1) sp.toNatClampNeg dp.toNatClampNeg n.toNatClampNeg) h1.1 (by rw [ent_i h1])] at hP1
  exact hP1
theorem g_copyJ (X : Cx M Z V cc nL own ret d) {x : Nat} (hd : decode cc pc = .ok (.invokestatic x, 3)) (w1 : Cond.methodLink own x arraycopyName ∈ GG) (w2 : Cond.native arraycopyName ∈ GG) (w3 : Cond.static arraycopyName ∈ GG) (w4 : Cond.initialized "java/lang/System" ∈ GG) {k0 k1 n0 n1 : Nat} (h0 : okc Z k0 10 n0) (h1 : okc Z k1 10 n1) {sp dp n : Int32} (hb : cpb sp dp n n0 n1 = true) (hdd : 1 ≤ d) (kk : Wg M Z V nL I (uJ J k1 (va_cpy (J k0) (J k1) sp.toNatClampNeg dp.toNatClampNeg n.toNatClampNeg)) (pc + 3) lv []) : Wg M Z V nL I J pc lv [.int n, .int dp, .ref (V.2.2 k1), .int sp, .ref (V.2.2 k0)] := by
  obtain ⟨p, l, e, R, s, m, args, below, meth, c, Q⟩ := M
  obtain ⟨hx, hb2, hml, hown, hts, hr, hlk, hR, hK, hF, hJ⟩ := X
  subst hR
  simp only [cpb, Bool.and_eq_true, decide_eq_true_eq] at hb
  obtain ⟨⟨b1, b2⟩, b3, b4, b5⟩ := hb
  intro H locs ls hP hS hl
  refine va_copyl (ty := .long) hx hb2 (by rw [hml, hl.1]) hown (hts _ w1) (hts _ w2) (hts _ w3) (hts _ w4) hK hP (wld_D hJ I J) hS k0 k1 1 1 (by rw [wld_get h0.1, ent_j h0]) (by rw [wld_get h1.1, ent_j h1]) rfl rfl rfl b1 b2 b3 b4 b5 (fun _ _ => rfl) hdd (Nat.le_trans (Nat.le_of_ble_eq_true rfl : _ ≤ 40 * 1) (Nat.mul_le_mul_left 40 hdd)) hd (fun H1 locs1 hP1 _ hS1 => kk H1 locs1 ls ?_ hS1 hl)
  rw [pJ_row (va_cpy (J k0) (J k1) sp.toNatClampNeg dp.toNatClampNeg n.toNatClampNeg) h1.1 (by rw [ent_j h1])] at hP1
  exact hP1
end GC
section GM
variable {l : Launch} {Z : Sh} {V : VT} {cc : ByteArray} {nL : Nat} {d : Nat} {I : aI} {J : aJ} {y : MethodName} {ret : Option FieldType}
theorem met_I (hy : plainName y.cls = true) {av : List Value} {lv0 : List (Nat × Value)} (hlv : lv_args 0 av = lv0) (hsz : (lg_sl av).length ≤ nL) {q : RT Int32} (body : ∀ M : MT, M.2.1 = l → Cx M Z V cc nL y.cls ret d → PI M Z V q → Wg M Z V nL I J 0 lv0 []) : Met l y (.code y cc nL ret :: GG) (rmD d) (va_Pc av (cQ Z V I J)) (QI Z V q) 0 0 (vAd Z V) := by
  refine Met.ofW (cc := cc) (maxL := nL) (ret := ret) hy rfl ?_
  intro p e s m args below meth c s₁ B hml hv
  obtain ⟨rfl, hP, hK, hF, hJ⟩ := hv
  have hts := atoms_spec (ws := .code y cc nL ret :: GG) B.pre
  have h := body (p, l, e, rmD d, s, m, av.toArray, below, meth, c, MQ below (QI Z V q) av.toArray s 0 0 (vAd Z V)) rfl ⟨B.exec, B.bytes, hml, findClass_of_methodNamed B.named, fun w hw => hts w (List.mem_cons_of_mem _ hw), B.returns, B.notSynchronized, rfl, hK, hF, hJ⟩ rfl
  rw [lg_entry_eq]
  exact h s.heap [] _ hP va_S.rf (by have := lv_entry av hsz; rwa [hlv] at this)
theorem met_L (hy : plainName y.cls = true) {av : List Value} {lv0 : List (Nat × Value)} (hlv : lv_args 0 av = lv0) (hsz : (lg_sl av).length ≤ nL) {q : RT Int64} (body : ∀ M : MT, M.2.1 = l → Cx M Z V cc nL y.cls ret d → PL M Z V q → Wg M Z V nL I J 0 lv0 []) : Met l y (.code y cc nL ret :: GG) (rmD d) (va_Pc av (cQ Z V I J)) (QL Z V q) 0 0 (vAd Z V) := by
  refine Met.ofW (cc := cc) (maxL := nL) (ret := ret) hy rfl ?_
  intro p e s m args below meth c s₁ B hml hv
  obtain ⟨rfl, hP, hK, hF, hJ⟩ := hv
  have hts := atoms_spec (ws := .code y cc nL ret :: GG) B.pre
  have h := body (p, l, e, rmD d, s, m, av.toArray, below, meth, c, MQ below (QL Z V q) av.toArray s 0 0 (vAd Z V)) rfl ⟨B.exec, B.bytes, hml, findClass_of_methodNamed B.named, fun w hw => hts w (List.mem_cons_of_mem _ hw), B.returns, B.notSynchronized, rfl, hK, hF, hJ⟩ rfl
  rw [lg_entry_eq]
  exact h s.heap [] _ hP va_S.rf (by have := lv_entry av hsz; rwa [hlv] at this)
theorem met_V (hy : plainName y.cls = true) {av : List Value} {lv0 : List (Nat × Value)} (hlv : lv_args 0 av = lv0) (hsz : (lg_sl av).length ≤ nL) {q : RT Unit} (body : ∀ M : MT, M.2.1 = l → Cx M Z V cc nL y.cls ret d → PV M Z V q → Wg M Z V nL I J 0 lv0 []) : Met l y (.code y cc nL ret :: GG) (rmD d) (va_Pc av (cQ Z V I J)) (QV Z V q) 0 0 (vAd Z V) := by
  refine Met.ofW (cc := cc) (maxL := nL) (ret := ret) hy rfl ?_
  intro p e s m args below meth c s₁ B hml hv
  obtain ⟨rfl, hP, hK, hF, hJ⟩ := hv
  have hts := atoms_spec (ws := .code y cc nL ret :: GG) B.pre
  have h := body (p, l, e, rmD d, s, m, av.toArray, below, meth, c, MQ below (QV Z V q) av.toArray s 0 0 (vAd Z V)) rfl ⟨B.exec, B.bytes, hml, findClass_of_methodNamed B.named, fun w hw => hts w (List.mem_cons_of_mem _ hw), B.returns, B.notSynchronized, rfl, hK, hF, hJ⟩ rfl
  rw [lg_entry_eq]
  exact h s.heap [] _ hP va_S.rf (by have := lv_entry av hsz; rwa [hlv] at this)
end GM
/-! what a walk's function says -/
def gd {α : Type} (b : Bool) (x : Option α) : Option α := if b = true then x else none
theorem gd_some {α : Type} {b : Bool} {x : Option α} {r : α} (h : gd b x = some r) : b = true ∧ x = some r := by
  unfold gd at h
  by_cases hb : b = true
  · rw [if_pos hb] at h; exact ⟨hb, h⟩
  · rw [if_neg hb] at h; cases h
theorem gd_t {α : Type} {b : Bool} {x : Option α} (h : b = true) : gd b x = x := by unfold gd; rw [if_pos h]
def bnd {α β : Type} (x : Option (RT α)) (f : α → aI → aJ → Option β) : Option β := match x with
  | none => none
  | some q => f q.1 q.2.1 q.2.2
theorem bnd_some {α β : Type} {x : Option (RT α)} {f : α → aI → aJ → Option β} {r : β} (h : bnd x f = some r) : ∃ (a : α) (I : aI) (J : aJ), x = some (a, I, J) ∧ f a I J = some r := by
  cases x with
  | none => cases h
  | some q => exact ⟨q.1, q.2.1, q.2.2, rfl, h⟩
theorem bnd_t {α β : Type} {x : Option (RT α)} {f : α → aI → aJ → Option β} {a : α} {I : aI} {J : aJ} (h : x = some (a, I, J)) : bnd x f = f a I J := by rw [h]; rfl
end
