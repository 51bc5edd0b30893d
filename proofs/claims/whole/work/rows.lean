section
-- ===== PART A: goes FIRST, ahead of the names: the tables' words, and 'selects' of the private methods out of them =====
/-- a private method of a class that the tables say can be made, by its rows of tables_1 -/
def lw_okq (q : MethodName × Nat) : Prop := (q.1.cls ≠ "java/lang/invoke/MethodHandle" ∧ q.1.cls ≠ "java/lang/invoke/VarHandle") ∧ Cond.instantiable q.1.cls q.2 ∈ tables_1 ∧ Cond.privateMethod q.1 ∈ tables_1 ∧ Cond.instanceMethod q.1 ∈ tables_1
theorem lw_p0 : lw_okq (⟨"WarmPlace$Reader", "skipBlanks", "()V"⟩, 9) := ⟨⟨by decide +kernel, by decide +kernel⟩, List.mem_of_getElem? (i := 124) (by decide +kernel), List.mem_of_getElem? (i := 417) (by decide +kernel), List.mem_of_getElem? (i := 418) (by decide +kernel)⟩
theorem lw_p1 : lw_okq (⟨"WarmPlace$Reader", "readClause", "()V"⟩, 9) := ⟨⟨by decide +kernel, by decide +kernel⟩, List.mem_of_getElem? (i := 124) (by decide +kernel), List.mem_of_getElem? (i := 421) (by decide +kernel), List.mem_of_getElem? (i := 422) (by decide +kernel)⟩
theorem lw_p2 : lw_okq (⟨"WarmPlace$Reader", "readPlaces", "()V"⟩, 9) := ⟨⟨by decide +kernel, by decide +kernel⟩, List.mem_of_getElem? (i := 124) (by decide +kernel), List.mem_of_getElem? (i := 425) (by decide +kernel), List.mem_of_getElem? (i := 426) (by decide +kernel)⟩
theorem lw_p3 : lw_okq (⟨"WarmPlace$Reader", "readNumber", "(II)I"⟩, 9) := ⟨⟨by decide +kernel, by decide +kernel⟩, List.mem_of_getElem? (i := 124) (by decide +kernel), List.mem_of_getElem? (i := 429) (by decide +kernel), List.mem_of_getElem? (i := 430) (by decide +kernel)⟩
theorem lw_p4 : lw_okq (⟨"WarmPlace$Reader", "blame", "(II)V"⟩, 9) := ⟨⟨by decide +kernel, by decide +kernel⟩, List.mem_of_getElem? (i := 124) (by decide +kernel), List.mem_of_getElem? (i := 433) (by decide +kernel), List.mem_of_getElem? (i := 434) (by decide +kernel)⟩
theorem lw_p5 : lw_okq (⟨"WarmPlace$Reader", "readEnd", "()V"⟩, 9) := ⟨⟨by decide +kernel, by decide +kernel⟩, List.mem_of_getElem? (i := 124) (by decide +kernel), List.mem_of_getElem? (i := 437) (by decide +kernel), List.mem_of_getElem? (i := 438) (by decide +kernel)⟩
theorem lw_p6 : lw_okq (⟨"WarmPlace$Reader", "nextIs", "(I)Z"⟩, 9) := ⟨⟨by decide +kernel, by decide +kernel⟩, List.mem_of_getElem? (i := 124) (by decide +kernel), List.mem_of_getElem? (i := 441) (by decide +kernel), List.mem_of_getElem? (i := 442) (by decide +kernel)⟩
theorem lw_p7 : lw_okq (⟨"WarmPlace$Reader", "readHeat", "()V"⟩, 9) := ⟨⟨by decide +kernel, by decide +kernel⟩, List.mem_of_getElem? (i := 124) (by decide +kernel), List.mem_of_getElem? (i := 445) (by decide +kernel), List.mem_of_getElem? (i := 446) (by decide +kernel)⟩
theorem lw_p8 : lw_okq (⟨"WarmPlace$Reader", "readSleeper", "()V"⟩, 9) := ⟨⟨by decide +kernel, by decide +kernel⟩, List.mem_of_getElem? (i := 124) (by decide +kernel), List.mem_of_getElem? (i := 449) (by decide +kernel), List.mem_of_getElem? (i := 450) (by decide +kernel)⟩
theorem lw_p9 : lw_okq (⟨"WarmPlace$Reader", "readLaw", "()V"⟩, 9) := ⟨⟨by decide +kernel, by decide +kernel⟩, List.mem_of_getElem? (i := 124) (by decide +kernel), List.mem_of_getElem? (i := 453) (by decide +kernel), List.mem_of_getElem? (i := 454) (by decide +kernel)⟩
theorem lw_p10 : lw_okq (⟨"WarmPlace", "hoursRefused", "()I"⟩, 13) := ⟨⟨by decide +kernel, by decide +kernel⟩, List.mem_of_getElem? (i := 18) (by decide +kernel), List.mem_of_getElem? (i := 536) (by decide +kernel), List.mem_of_getElem? (i := 537) (by decide +kernel)⟩
theorem lw_p11 : lw_okq (⟨"WarmPlace", "goOn", "(I)V"⟩, 13) := ⟨⟨by decide +kernel, by decide +kernel⟩, List.mem_of_getElem? (i := 18) (by decide +kernel), List.mem_of_getElem? (i := 542) (by decide +kernel), List.mem_of_getElem? (i := 543) (by decide +kernel)⟩
theorem lw_p12 : lw_okq (⟨"WarmPlace$Night", "turn", "(I)V"⟩, 4) := ⟨⟨by decide +kernel, by decide +kernel⟩, List.mem_of_getElem? (i := 94) (by decide +kernel), List.mem_of_getElem? (i := 561) (by decide +kernel), List.mem_of_getElem? (i := 562) (by decide +kernel)⟩
theorem lw_p13 : lw_okq (⟨"WarmPlace$Night", "givenTo", "(I)I"⟩, 4) := ⟨⟨by decide +kernel, by decide +kernel⟩, List.mem_of_getElem? (i := 94) (by decide +kernel), List.mem_of_getElem? (i := 569) (by decide +kernel), List.mem_of_getElem? (i := 570) (by decide +kernel)⟩
theorem lw_p14 : lw_okq (⟨"WarmPlace$Night", "givenFrom", "(I)I"⟩, 4) := ⟨⟨by decide +kernel, by decide +kernel⟩, List.mem_of_getElem? (i := 94) (by decide +kernel), List.mem_of_getElem? (i := 573) (by decide +kernel), List.mem_of_getElem? (i := 574) (by decide +kernel)⟩
theorem lw_p15 : lw_okq (⟨"WarmPlace", "drawOfSix", "()I"⟩, 13) := ⟨⟨by decide +kernel, by decide +kernel⟩, List.mem_of_getElem? (i := 18) (by decide +kernel), List.mem_of_getElem? (i := 610) (by decide +kernel), List.mem_of_getElem? (i := 611) (by decide +kernel)⟩
def lw_privs_1 : List (MethodName × Nat) := [(⟨"WarmPlace$Reader", "skipBlanks", "()V"⟩, 9), (⟨"WarmPlace$Reader", "readClause", "()V"⟩, 9), (⟨"WarmPlace$Reader", "readPlaces", "()V"⟩, 9), (⟨"WarmPlace$Reader", "readNumber", "(II)I"⟩, 9), (⟨"WarmPlace$Reader", "blame", "(II)V"⟩, 9), (⟨"WarmPlace$Reader", "readEnd", "()V"⟩, 9), (⟨"WarmPlace$Reader", "nextIs", "(I)Z"⟩, 9), (⟨"WarmPlace$Reader", "readHeat", "()V"⟩, 9), (⟨"WarmPlace$Reader", "readSleeper", "()V"⟩, 9), (⟨"WarmPlace$Reader", "readLaw", "()V"⟩, 9), (⟨"WarmPlace", "hoursRefused", "()I"⟩, 13), (⟨"WarmPlace", "goOn", "(I)V"⟩, 13), (⟨"WarmPlace$Night", "turn", "(I)V"⟩, 4), (⟨"WarmPlace$Night", "givenTo", "(I)I"⟩, 4), (⟨"WarmPlace$Night", "givenFrom", "(I)I"⟩, 4), (⟨"WarmPlace", "drawOfSix", "()I"⟩, 13)]
theorem lw_r1 : ∀ q ∈ lw_privs_1, lw_okq q := List.forall_mem_cons.mpr ⟨lw_p0, List.forall_mem_cons.mpr ⟨lw_p1, List.forall_mem_cons.mpr ⟨lw_p2, List.forall_mem_cons.mpr ⟨lw_p3, List.forall_mem_cons.mpr ⟨lw_p4, List.forall_mem_cons.mpr ⟨lw_p5, List.forall_mem_cons.mpr ⟨lw_p6, List.forall_mem_cons.mpr ⟨lw_p7, List.forall_mem_cons.mpr ⟨lw_p8, List.forall_mem_cons.mpr ⟨lw_p9, List.forall_mem_cons.mpr ⟨lw_p10, List.forall_mem_cons.mpr ⟨lw_p11, List.forall_mem_cons.mpr ⟨lw_p12, List.forall_mem_cons.mpr ⟨lw_p13, List.forall_mem_cons.mpr ⟨lw_p14, List.forall_mem_cons.mpr ⟨lw_p15, fun _ h => absurd h List.not_mem_nil⟩⟩⟩⟩⟩⟩⟩⟩⟩⟩⟩⟩⟩⟩⟩⟩
theorem lw_p16 : lw_okq (⟨"WarmPlace$Turning", "compare", "(II)V"⟩, 5) := ⟨⟨by decide +kernel, by decide +kernel⟩, List.mem_of_getElem? (i := 208) (by decide +kernel), List.mem_of_getElem? (i := 664) (by decide +kernel), List.mem_of_getElem? (i := 665) (by decide +kernel)⟩
theorem lw_p17 : lw_okq (⟨"WarmPlace$Rhyming", "nobodyWakes", "(LWarmPlace$Night;III)Z"⟩, 3) := ⟨⟨by decide +kernel, by decide +kernel⟩, List.mem_of_getElem? (i := 235) (by decide +kernel), List.mem_of_getElem? (i := 680) (by decide +kernel), List.mem_of_getElem? (i := 681) (by decide +kernel)⟩
theorem lw_p18 : lw_okq (⟨"WarmPlace$Laying", "compare", "(LWarmPlace$Night;I)V"⟩, 9) := ⟨⟨by decide +kernel, by decide +kernel⟩, List.mem_of_getElem? (i := 253) (by decide +kernel), List.mem_of_getElem? (i := 703) (by decide +kernel), List.mem_of_getElem? (i := 704) (by decide +kernel)⟩
theorem lw_p19 : lw_okq (⟨"WarmPlace$Laying", "bothWarmer", "(LWarmPlace$Night;II)Z"⟩, 9) := ⟨⟨by decide +kernel, by decide +kernel⟩, List.mem_of_getElem? (i := 253) (by decide +kernel), List.mem_of_getElem? (i := 719) (by decide +kernel), List.mem_of_getElem? (i := 720) (by decide +kernel)⟩
theorem lw_p20 : lw_okq (⟨"WarmPlace$Rounds", "likeBefore", "(I)I"⟩, 4) := ⟨⟨by decide +kernel, by decide +kernel⟩, List.mem_of_getElem? (i := 292) (by decide +kernel), List.mem_of_getElem? (i := 735) (by decide +kernel), List.mem_of_getElem? (i := 736) (by decide +kernel)⟩
theorem lw_p21 : lw_okq (⟨"WarmPlace$Seen", "fits", "(LWarmPlace$Night;II)Z"⟩, 6) := ⟨⟨by decide +kernel, by decide +kernel⟩, List.mem_of_getElem? (i := 312) (by decide +kernel), List.mem_of_getElem? (i := 786) (by decide +kernel), List.mem_of_getElem? (i := 787) (by decide +kernel)⟩
theorem lw_p22 : lw_okq (⟨"WarmPlaceModel", "plain", "()V"⟩, 27) := ⟨⟨by decide +kernel, by decide +kernel⟩, List.mem_of_getElem? (i := 843) (by decide +kernel), List.mem_of_getElem? (i := 849) (by decide +kernel), List.mem_of_getElem? (i := 850) (by decide +kernel)⟩
theorem lw_p23 : lw_okq (⟨"WarmPlaceModel", "starts", "()V"⟩, 27) := ⟨⟨by decide +kernel, by decide +kernel⟩, List.mem_of_getElem? (i := 843) (by decide +kernel), List.mem_of_getElem? (i := 853) (by decide +kernel), List.mem_of_getElem? (i := 854) (by decide +kernel)⟩
theorem lw_p24 : lw_okq (⟨"WarmPlaceModel", "here", "()I"⟩, 27) := ⟨⟨by decide +kernel, by decide +kernel⟩, List.mem_of_getElem? (i := 843) (by decide +kernel), List.mem_of_getElem? (i := 953) (by decide +kernel), List.mem_of_getElem? (i := 954) (by decide +kernel)⟩
theorem lw_p25 : lw_okq (⟨"WarmPlaceModel", "clause", "()V"⟩, 27) := ⟨⟨by decide +kernel, by decide +kernel⟩, List.mem_of_getElem? (i := 843) (by decide +kernel), List.mem_of_getElem? (i := 957) (by decide +kernel), List.mem_of_getElem? (i := 958) (by decide +kernel)⟩
theorem lw_p26 : lw_okq (⟨"WarmPlaceModel", "faults", "(II)V"⟩, 27) := ⟨⟨by decide +kernel, by decide +kernel⟩, List.mem_of_getElem? (i := 843) (by decide +kernel), List.mem_of_getElem? (i := 961) (by decide +kernel), List.mem_of_getElem? (i := 962) (by decide +kernel)⟩
theorem lw_p27 : lw_okq (⟨"WarmPlaceModel", "number", "(II)I"⟩, 27) := ⟨⟨by decide +kernel, by decide +kernel⟩, List.mem_of_getElem? (i := 843) (by decide +kernel), List.mem_of_getElem? (i := 965) (by decide +kernel), List.mem_of_getElem? (i := 966) (by decide +kernel)⟩
theorem lw_p28 : lw_okq (⟨"WarmPlaceModel", "readHeat", "()V"⟩, 27) := ⟨⟨by decide +kernel, by decide +kernel⟩, List.mem_of_getElem? (i := 843) (by decide +kernel), List.mem_of_getElem? (i := 971) (by decide +kernel), List.mem_of_getElem? (i := 972) (by decide +kernel)⟩
theorem lw_p29 : lw_okq (⟨"WarmPlaceModel", "readSleeper", "()V"⟩, 27) := ⟨⟨by decide +kernel, by decide +kernel⟩, List.mem_of_getElem? (i := 843) (by decide +kernel), List.mem_of_getElem? (i := 975) (by decide +kernel), List.mem_of_getElem? (i := 976) (by decide +kernel)⟩
theorem lw_p30 : lw_okq (⟨"WarmPlaceModel", "readLaw", "()V"⟩, 27) := ⟨⟨by decide +kernel, by decide +kernel⟩, List.mem_of_getElem? (i := 843) (by decide +kernel), List.mem_of_getElem? (i := 979) (by decide +kernel), List.mem_of_getElem? (i := 980) (by decide +kernel)⟩
theorem lw_p31 : lw_okq (⟨"WarmPlaceModel", "inBed", "()I"⟩, 27) := ⟨⟨by decide +kernel, by decide +kernel⟩, List.mem_of_getElem? (i := 843) (by decide +kernel), List.mem_of_getElem? (i := 991) (by decide +kernel), List.mem_of_getElem? (i := 992) (by decide +kernel)⟩
def lw_privs_2 : List (MethodName × Nat) := [(⟨"WarmPlace$Turning", "compare", "(II)V"⟩, 5), (⟨"WarmPlace$Rhyming", "nobodyWakes", "(LWarmPlace$Night;III)Z"⟩, 3), (⟨"WarmPlace$Laying", "compare", "(LWarmPlace$Night;I)V"⟩, 9), (⟨"WarmPlace$Laying", "bothWarmer", "(LWarmPlace$Night;II)Z"⟩, 9), (⟨"WarmPlace$Rounds", "likeBefore", "(I)I"⟩, 4), (⟨"WarmPlace$Seen", "fits", "(LWarmPlace$Night;II)Z"⟩, 6), (⟨"WarmPlaceModel", "plain", "()V"⟩, 27), (⟨"WarmPlaceModel", "starts", "()V"⟩, 27), (⟨"WarmPlaceModel", "here", "()I"⟩, 27), (⟨"WarmPlaceModel", "clause", "()V"⟩, 27), (⟨"WarmPlaceModel", "faults", "(II)V"⟩, 27), (⟨"WarmPlaceModel", "number", "(II)I"⟩, 27), (⟨"WarmPlaceModel", "readHeat", "()V"⟩, 27), (⟨"WarmPlaceModel", "readSleeper", "()V"⟩, 27), (⟨"WarmPlaceModel", "readLaw", "()V"⟩, 27), (⟨"WarmPlaceModel", "inBed", "()I"⟩, 27)]
theorem lw_r2 : ∀ q ∈ lw_privs_2, lw_okq q := List.forall_mem_cons.mpr ⟨lw_p16, List.forall_mem_cons.mpr ⟨lw_p17, List.forall_mem_cons.mpr ⟨lw_p18, List.forall_mem_cons.mpr ⟨lw_p19, List.forall_mem_cons.mpr ⟨lw_p20, List.forall_mem_cons.mpr ⟨lw_p21, List.forall_mem_cons.mpr ⟨lw_p22, List.forall_mem_cons.mpr ⟨lw_p23, List.forall_mem_cons.mpr ⟨lw_p24, List.forall_mem_cons.mpr ⟨lw_p25, List.forall_mem_cons.mpr ⟨lw_p26, List.forall_mem_cons.mpr ⟨lw_p27, List.forall_mem_cons.mpr ⟨lw_p28, List.forall_mem_cons.mpr ⟨lw_p29, List.forall_mem_cons.mpr ⟨lw_p30, List.forall_mem_cons.mpr ⟨lw_p31, fun _ h => absurd h List.not_mem_nil⟩⟩⟩⟩⟩⟩⟩⟩⟩⟩⟩⟩⟩⟩⟩⟩
theorem lw_p32 : lw_okq (⟨"WarmPlaceModel", "awake", "()I"⟩, 27) := ⟨⟨by decide +kernel, by decide +kernel⟩, List.mem_of_getElem? (i := 843) (by decide +kernel), List.mem_of_getElem? (i := 995) (by decide +kernel), List.mem_of_getElem? (i := 996) (by decide +kernel)⟩
theorem lw_p33 : lw_okq (⟨"WarmPlaceModel", "more", "(I)I"⟩, 27) := ⟨⟨by decide +kernel, by decide +kernel⟩, List.mem_of_getElem? (i := 843) (by decide +kernel), List.mem_of_getElem? (i := 999) (by decide +kernel), List.mem_of_getElem? (i := 1000) (by decide +kernel)⟩
theorem lw_p34 : lw_okq (⟨"WarmPlaceModel", "coldest", "()I"⟩, 27) := ⟨⟨by decide +kernel, by decide +kernel⟩, List.mem_of_getElem? (i := 843) (by decide +kernel), List.mem_of_getElem? (i := 1003) (by decide +kernel), List.mem_of_getElem? (i := 1004) (by decide +kernel)⟩
theorem lw_p35 : lw_okq (⟨"WarmPlaceModel", "isPlace", "(I)Z"⟩, 27) := ⟨⟨by decide +kernel, by decide +kernel⟩, List.mem_of_getElem? (i := 843) (by decide +kernel), List.mem_of_getElem? (i := 1011) (by decide +kernel), List.mem_of_getElem? (i := 1012) (by decide +kernel)⟩
theorem lw_p36 : lw_okq (⟨"WarmPlaceModel", "isSleeper", "(I)Z"⟩, 27) := ⟨⟨by decide +kernel, by decide +kernel⟩, List.mem_of_getElem? (i := 843) (by decide +kernel), List.mem_of_getElem? (i := 1020) (by decide +kernel), List.mem_of_getElem? (i := 1021) (by decide +kernel)⟩
theorem lw_p37 : lw_okq (⟨"WarmPlaceModel", "placeOf", "(I)I"⟩, 27) := ⟨⟨by decide +kernel, by decide +kernel⟩, List.mem_of_getElem? (i := 843) (by decide +kernel), List.mem_of_getElem? (i := 1025) (by decide +kernel), List.mem_of_getElem? (i := 1026) (by decide +kernel)⟩
theorem lw_p38 : lw_okq (⟨"WarmPlaceModel", "refusal", "()I"⟩, 27) := ⟨⟨by decide +kernel, by decide +kernel⟩, List.mem_of_getElem? (i := 843) (by decide +kernel), List.mem_of_getElem? (i := 1037) (by decide +kernel), List.mem_of_getElem? (i := 1038) (by decide +kernel)⟩
theorem lw_p39 : lw_okq (⟨"WarmPlaceModel", "notes", "()V"⟩, 27) := ⟨⟨by decide +kernel, by decide +kernel⟩, List.mem_of_getElem? (i := 843) (by decide +kernel), List.mem_of_getElem? (i := 1043) (by decide +kernel), List.mem_of_getElem? (i := 1044) (by decide +kernel)⟩
theorem lw_p40 : lw_okq (⟨"WarmPlaceModel", "goesOn", "(I)V"⟩, 27) := ⟨⟨by decide +kernel, by decide +kernel⟩, List.mem_of_getElem? (i := 843) (by decide +kernel), List.mem_of_getElem? (i := 1047) (by decide +kernel), List.mem_of_getElem? (i := 1048) (by decide +kernel)⟩
theorem lw_p41 : lw_okq (⟨"WarmPlaceModel", "turns", "(I)V"⟩, 27) := ⟨⟨by decide +kernel, by decide +kernel⟩, List.mem_of_getElem? (i := 843) (by decide +kernel), List.mem_of_getElem? (i := 1051) (by decide +kernel), List.mem_of_getElem? (i := 1052) (by decide +kernel)⟩
theorem lw_p42 : lw_okq (⟨"WarmPlaceModel", "loses", "(I)I"⟩, 27) := ⟨⟨by decide +kernel, by decide +kernel⟩, List.mem_of_getElem? (i := 843) (by decide +kernel), List.mem_of_getElem? (i := 1055) (by decide +kernel), List.mem_of_getElem? (i := 1056) (by decide +kernel)⟩
theorem lw_p43 : lw_okq (⟨"WarmPlaceModel", "gives", "(I)I"⟩, 27) := ⟨⟨by decide +kernel, by decide +kernel⟩, List.mem_of_getElem? (i := 843) (by decide +kernel), List.mem_of_getElem? (i := 1059) (by decide +kernel), List.mem_of_getElem? (i := 1060) (by decide +kernel)⟩
theorem lw_p44 : lw_okq (⟨"WarmPlaceModel", "lawful", "()I"⟩, 27) := ⟨⟨by decide +kernel, by decide +kernel⟩, List.mem_of_getElem? (i := 843) (by decide +kernel), List.mem_of_getElem? (i := 1068) (by decide +kernel), List.mem_of_getElem? (i := 1069) (by decide +kernel)⟩
theorem lw_p45 : lw_okq (⟨"WarmPlaceModel", "draws", "(I)I"⟩, 27) := ⟨⟨by decide +kernel, by decide +kernel⟩, List.mem_of_getElem? (i := 843) (by decide +kernel), List.mem_of_getElem? (i := 1084) (by decide +kernel), List.mem_of_getElem? (i := 1085) (by decide +kernel)⟩
theorem lw_p46 : lw_okq (⟨"WarmPlaceModel", "asides", "()V"⟩, 27) := ⟨⟨by decide +kernel, by decide +kernel⟩, List.mem_of_getElem? (i := 843) (by decide +kernel), List.mem_of_getElem? (i := 1101) (by decide +kernel), List.mem_of_getElem? (i := 1102) (by decide +kernel)⟩
theorem lw_p47 : lw_okq (⟨"WarmPlaceModel", "backs", "()V"⟩, 27) := ⟨⟨by decide +kernel, by decide +kernel⟩, List.mem_of_getElem? (i := 843) (by decide +kernel), List.mem_of_getElem? (i := 1108) (by decide +kernel), List.mem_of_getElem? (i := 1109) (by decide +kernel)⟩
def lw_privs_3 : List (MethodName × Nat) := [(⟨"WarmPlaceModel", "awake", "()I"⟩, 27), (⟨"WarmPlaceModel", "more", "(I)I"⟩, 27), (⟨"WarmPlaceModel", "coldest", "()I"⟩, 27), (⟨"WarmPlaceModel", "isPlace", "(I)Z"⟩, 27), (⟨"WarmPlaceModel", "isSleeper", "(I)Z"⟩, 27), (⟨"WarmPlaceModel", "placeOf", "(I)I"⟩, 27), (⟨"WarmPlaceModel", "refusal", "()I"⟩, 27), (⟨"WarmPlaceModel", "notes", "()V"⟩, 27), (⟨"WarmPlaceModel", "goesOn", "(I)V"⟩, 27), (⟨"WarmPlaceModel", "turns", "(I)V"⟩, 27), (⟨"WarmPlaceModel", "loses", "(I)I"⟩, 27), (⟨"WarmPlaceModel", "gives", "(I)I"⟩, 27), (⟨"WarmPlaceModel", "lawful", "()I"⟩, 27), (⟨"WarmPlaceModel", "draws", "(I)I"⟩, 27), (⟨"WarmPlaceModel", "asides", "()V"⟩, 27), (⟨"WarmPlaceModel", "backs", "()V"⟩, 27)]
theorem lw_r3 : ∀ q ∈ lw_privs_3, lw_okq q := List.forall_mem_cons.mpr ⟨lw_p32, List.forall_mem_cons.mpr ⟨lw_p33, List.forall_mem_cons.mpr ⟨lw_p34, List.forall_mem_cons.mpr ⟨lw_p35, List.forall_mem_cons.mpr ⟨lw_p36, List.forall_mem_cons.mpr ⟨lw_p37, List.forall_mem_cons.mpr ⟨lw_p38, List.forall_mem_cons.mpr ⟨lw_p39, List.forall_mem_cons.mpr ⟨lw_p40, List.forall_mem_cons.mpr ⟨lw_p41, List.forall_mem_cons.mpr ⟨lw_p42, List.forall_mem_cons.mpr ⟨lw_p43, List.forall_mem_cons.mpr ⟨lw_p44, List.forall_mem_cons.mpr ⟨lw_p45, List.forall_mem_cons.mpr ⟨lw_p46, List.forall_mem_cons.mpr ⟨lw_p47, fun _ h => absurd h List.not_mem_nil⟩⟩⟩⟩⟩⟩⟩⟩⟩⟩⟩⟩⟩⟩⟩⟩
theorem lw_p48 : lw_okq (⟨"WarmPlaceModel", "sleeps", "(III)Z"⟩, 27) := ⟨⟨by decide +kernel, by decide +kernel⟩, List.mem_of_getElem? (i := 843) (by decide +kernel), List.mem_of_getElem? (i := 1120) (by decide +kernel), List.mem_of_getElem? (i := 1121) (by decide +kernel)⟩
theorem lw_p49 : lw_okq (⟨"WarmPlaceModel", "isState", "(I)Z"⟩, 27) := ⟨⟨by decide +kernel, by decide +kernel⟩, List.mem_of_getElem? (i := 843) (by decide +kernel), List.mem_of_getElem? (i := 1144) (by decide +kernel), List.mem_of_getElem? (i := 1145) (by decide +kernel)⟩
theorem lw_p50 : lw_okq (⟨"WarmPlaceModel", "hottest", "()I"⟩, 27) := ⟨⟨by decide +kernel, by decide +kernel⟩, List.mem_of_getElem? (i := 843) (by decide +kernel), List.mem_of_getElem? (i := 1148) (by decide +kernel), List.mem_of_getElem? (i := 1149) (by decide +kernel)⟩
theorem lw_p51 : lw_okq (⟨"WarmPlaceModel", "counts", "(I)V"⟩, 27) := ⟨⟨by decide +kernel, by decide +kernel⟩, List.mem_of_getElem? (i := 843) (by decide +kernel), List.mem_of_getElem? (i := 1171) (by decide +kernel), List.mem_of_getElem? (i := 1172) (by decide +kernel)⟩
def lw_privs_4 : List (MethodName × Nat) := [(⟨"WarmPlaceModel", "sleeps", "(III)Z"⟩, 27), (⟨"WarmPlaceModel", "isState", "(I)Z"⟩, 27), (⟨"WarmPlaceModel", "hottest", "()I"⟩, 27), (⟨"WarmPlaceModel", "counts", "(I)V"⟩, 27)]
theorem lw_r4 : ∀ q ∈ lw_privs_4, lw_okq q := List.forall_mem_cons.mpr ⟨lw_p48, List.forall_mem_cons.mpr ⟨lw_p49, List.forall_mem_cons.mpr ⟨lw_p50, List.forall_mem_cons.mpr ⟨lw_p51, fun _ h => absurd h List.not_mem_nil⟩⟩⟩⟩
def lw_privs : List (MethodName × Nat) := lw_privs_1 ++ (lw_privs_2 ++ (lw_privs_3 ++ (lw_privs_4)))
def lw_tbl : List Cond := k2_sels lw_privs ++ tables_1
theorem lw_privs_ok : ∀ q ∈ lw_privs, lw_okq q := by
  show ∀ q ∈ lw_privs_1 ++ (lw_privs_2 ++ (lw_privs_3 ++ (lw_privs_4))), lw_okq q
  exact List.forall_mem_append.mpr ⟨lw_r1, List.forall_mem_append.mpr ⟨lw_r2, List.forall_mem_append.mpr ⟨lw_r3, lw_r4⟩⟩⟩
end
section
def RX0 : String := "WarmPlace$Bed"
def TX0 : u_T := fun k => match k with
  | 0 => ("WarmPlace$Bed", "places", "I", false)
  | 1 => ("WarmPlace$Bed", "ring", "Z", false)
  | 2 => ("WarmPlace$Bed", "sleepers", "I", false)
  | 3 => ("WarmPlace$Bed", "lawWords", "I", false)
  | 4 => ("WarmPlace$Bed", "heat", "[I", true)
  | 5 => ("WarmPlace$Bed", "warmth", "[I", true)
  | 6 => ("WarmPlace$Bed", "gives", "[I", true)
  | 7 => ("WarmPlace$Bed", "loses", "[I", true)
  | 8 => ("WarmPlace$Bed", "wakes", "[I", true)
  | _ => ("WarmPlace$Bed", "law", "[I", true)
def tyX0 : Nat → FieldType := fun k => match k with
  | 0 => .int
  | 1 => .boolean
  | 2 => .int
  | 3 => .int
  | 4 => .array .int
  | 5 => .array .int
  | 6 => .array .int
  | 7 => .array .int
  | 8 => .array .int
  | _ => .array .int
abbrev wsX00 : List Cond := u_ws RX0 TX0 10
theorem nmX0 : ∀ a, a < 10 → ∀ b, b < 10 → a ≠ b → (TX0 a).2.1 ≠ (TX0 b).2.1 := by decide +kernel
theorem tyX0_ok : ∀ k, k < 10 → parseFieldDescriptor (TX0 k).2.2.1 = some (tyX0 k) := by decide +kernel
abbrev cX0_init : ByteArray := prog_2_method_1_code
def yX0_init : MethodName := ⟨RX0, "<init>", "()V"⟩
abbrev cX0_empty : ByteArray := prog_2_method_2_code
def yX0_empty : MethodName := ⟨RX0, "empty", "()V"⟩
abbrev cX0_become : ByteArray := prog_2_method_3_code
def yX0_become : MethodName := ⟨RX0, "become", "(LWarmPlace$Bed;)V"⟩
abbrev cX0_hasPlace : ByteArray := prog_2_method_4_code
def yX0_hasPlace : MethodName := ⟨RX0, "hasPlace", "(I)Z"⟩
abbrev cX0_hasSleeper : ByteArray := prog_2_method_5_code
def yX0_hasSleeper : MethodName := ⟨RX0, "hasSleeper", "(I)Z"⟩
abbrev cX0_lawAt : ByteArray := prog_2_method_6_code
def yX0_lawAt : MethodName := ⟨RX0, "lawAt", "(I)I"⟩
abbrev cX0_warmestPlace : ByteArray := prog_2_method_7_code
def yX0_warmestPlace : MethodName := ⟨RX0, "warmestPlace", "()I"⟩
abbrev cX0_turned : ByteArray := prog_2_method_8_code
def yX0_turned : MethodName := ⟨RX0, "turned", "(II)I"⟩
abbrev cX0_unlike : ByteArray := prog_2_method_9_code
def yX0_unlike : MethodName := ⟨RX0, "unlike", "(I)I"⟩
def RX1 : String := "WarmPlace$Book"
def TX1 : u_T := fun k => match k with
  | 0 => ("WarmPlace$Book", "words", "[I", true)
  | _ => ("WarmPlace$Book", "count", "I", false)
def tyX1 : Nat → FieldType := fun k => match k with
  | 0 => .array .int
  | _ => .int
abbrev wsX10 : List Cond := u_ws RX1 TX1 2
theorem nmX1 : ∀ a, a < 2 → ∀ b, b < 2 → a ≠ b → (TX1 a).2.1 ≠ (TX1 b).2.1 := by decide +kernel
theorem tyX1_ok : ∀ k, k < 2 → parseFieldDescriptor (TX1 k).2.2.1 = some (tyX1 k) := by decide +kernel
abbrev cX1_init : ByteArray := prog_3_method_1_code
def yX1_init : MethodName := ⟨RX1, "<init>", "()V"⟩
abbrev cX1_empty : ByteArray := prog_3_method_2_code
def yX1_empty : MethodName := ⟨RX1, "empty", "()V"⟩
abbrev cX1_add : ByteArray := prog_3_method_3_code
def yX1_add : MethodName := ⟨RX1, "add", "(I)Z"⟩
abbrev cX1_sayTo : ByteArray := prog_3_method_4_code
def yX1_sayTo : MethodName := ⟨RX1, "sayTo", "(LWarmPlace$Night;)I"⟩
def RX2 : String := "WarmPlace$Image"
def TX2 : u_T := fun k => match k with
  | 0 => ("WarmPlace$Image", "kept", "Z", false)
  | 1 => ("WarmPlace$Image", "code", "J", false)
  | 2 => ("WarmPlace$Image", "hours", "I", false)
  | _ => ("WarmPlace$Image", "seedThen", "I", false)
def tyX2 : Nat → FieldType := fun k => match k with
  | 0 => .boolean
  | 1 => .long
  | 2 => .int
  | _ => .int
abbrev wsX20 : List Cond := u_ws RX2 TX2 4
theorem nmX2 : ∀ a, a < 4 → ∀ b, b < 4 → a ≠ b → (TX2 a).2.1 ≠ (TX2 b).2.1 := by decide +kernel
theorem tyX2_ok : ∀ k, k < 4 → parseFieldDescriptor (TX2 k).2.2.1 = some (tyX2 k) := by decide +kernel
abbrev cX2_init : ByteArray := prog_4_method_1_code
def yX2_init : MethodName := ⟨RX2, "<init>", "()V"⟩
abbrev cX2_take : ByteArray := prog_4_method_2_code
def yX2_take : MethodName := ⟨RX2, "take", "(LWarmPlace$Night;I)V"⟩
def RX3 : String := "WarmPlace$Laying"
def TX3 : u_T := fun k => match k with
  | 0 => ("WarmPlace$Laying", "trial", "LWarmPlace$Night;", true)
  | 1 => ("WarmPlace$Laying", "taken", "[I", true)
  | 2 => ("WarmPlace$Laying", "order", "[I", true)
  | 3 => ("WarmPlace$Laying", "best", "[I", true)
  | 4 => ("WarmPlace$Laying", "count", "I", false)
  | 5 => ("WarmPlace$Laying", "coldest", "I", false)
  | 6 => ("WarmPlace$Laying", "unchanged", "[I", true)
  | 7 => ("WarmPlace$Laying", "pairs", "[I", true)
  | _ => ("WarmPlace$Laying", "pairCount", "I", false)
def tyX3 : Nat → FieldType := fun k => match k with
  | 0 => .object "WarmPlace$Night"
  | 1 => .array .int
  | 2 => .array .int
  | 3 => .array .int
  | 4 => .int
  | 5 => .int
  | 6 => .array .int
  | 7 => .array .int
  | _ => .int
abbrev wsX30 : List Cond := u_ws RX3 TX3 9
theorem nmX3 : ∀ a, a < 9 → ∀ b, b < 9 → a ≠ b → (TX3 a).2.1 ≠ (TX3 b).2.1 := by decide +kernel
theorem tyX3_ok : ∀ k, k < 9 → parseFieldDescriptor (TX3 k).2.2.1 = some (tyX3 k) := by decide +kernel
abbrev cX3_init : ByteArray := prog_5_method_1_code
def yX3_init : MethodName := ⟨RX3, "<init>", "(LWarmPlace$Night;)V"⟩
abbrev cX3_seek : ByteArray := prog_5_method_2_code
def yX3_seek : MethodName := ⟨RX3, "seek", "(LWarmPlace$Night;I)V"⟩
abbrev cX3_tryOrders : ByteArray := prog_5_method_3_code
def yX3_tryOrders : MethodName := ⟨RX3, "tryOrders", "(LWarmPlace$Laying;LWarmPlace$Night;III)V"⟩
abbrev cX3_compare : ByteArray := prog_5_method_4_code
def yX3_compare : MethodName := ⟨RX3, "compare", "(LWarmPlace$Night;I)V"⟩
abbrev cX3_seekPairs : ByteArray := prog_5_method_5_code
def yX3_seekPairs : MethodName := ⟨RX3, "seekPairs", "(LWarmPlace$Night;)V"⟩
abbrev cX3_bothWarmer : ByteArray := prog_5_method_6_code
def yX3_bothWarmer : MethodName := ⟨RX3, "bothWarmer", "(LWarmPlace$Night;II)Z"⟩
def RX4 : String := "WarmPlace$Night"
def TX4 : u_T := fun k => match k with
  | 0 => ("WarmPlace$Night", "bed", "LWarmPlace$Bed;", true)
  | 1 => ("WarmPlace$Night", "who", "[I", true)
  | 2 => ("WarmPlace$Night", "warm", "[I", true)
  | _ => ("WarmPlace$Night", "hours", "I", false)
def tyX4 : Nat → FieldType := fun k => match k with
  | 0 => .object "WarmPlace$Bed"
  | 1 => .array .int
  | 2 => .array .int
  | _ => .int
abbrev wsX40 : List Cond := u_ws RX4 TX4 4
theorem nmX4 : ∀ a, a < 4 → ∀ b, b < 4 → a ≠ b → (TX4 a).2.1 ≠ (TX4 b).2.1 := by decide +kernel
theorem tyX4_ok : ∀ k, k < 4 → parseFieldDescriptor (TX4 k).2.2.1 = some (tyX4 k) := by decide +kernel
abbrev cX4_init : ByteArray := prog_6_method_1_code
def yX4_init : MethodName := ⟨RX4, "<init>", "(LWarmPlace$Bed;)V"⟩
abbrev cX4_layAll : ByteArray := prog_6_method_2_code
def yX4_layAll : MethodName := ⟨RX4, "layAll", "()V"⟩
abbrev cX4_become : ByteArray := prog_6_method_3_code
def yX4_become : MethodName := ⟨RX4, "become", "(LWarmPlace$Night;)V"⟩
abbrev cX4_code : ByteArray := prog_6_method_4_code
def yX4_code : MethodName := ⟨RX4, "code", "()J"⟩
abbrev cX4_setCode : ByteArray := prog_6_method_5_code
def yX4_setCode : MethodName := ⟨RX4, "setCode", "(JI)V"⟩
abbrev cX4_inBed : ByteArray := prog_6_method_6_code
def yX4_inBed : MethodName := ⟨RX4, "inBed", "()I"⟩
abbrev cX4_up : ByteArray := prog_6_method_7_code
def yX4_up : MethodName := ⟨RX4, "up", "()I"⟩
abbrev cX4_awake : ByteArray := prog_6_method_8_code
def yX4_awake : MethodName := ⟨RX4, "awake", "()I"⟩
abbrev cX4_coldest : ByteArray := prog_6_method_9_code
def yX4_coldest : MethodName := ⟨RX4, "coldest", "()I"⟩
abbrev cX4_placeOf : ByteArray := prog_6_method_10_code
def yX4_placeOf : MethodName := ⟨RX4, "placeOf", "(I)I"⟩
abbrev cX4_lastEmpty : ByteArray := prog_6_method_11_code
def yX4_lastEmpty : MethodName := ⟨RX4, "lastEmpty", "()I"⟩
abbrev cX4_leave : ByteArray := prog_6_method_12_code
def yX4_leave : MethodName := ⟨RX4, "leave", "(I)V"⟩
abbrev cX4_passHour : ByteArray := prog_6_method_13_code
def yX4_passHour : MethodName := ⟨RX4, "passHour", "(I)V"⟩
abbrev cX4_passByLaw : ByteArray := prog_6_method_14_code
def yX4_passByLaw : MethodName := ⟨RX4, "passByLaw", "()V"⟩
abbrev cX4_turn : ByteArray := prog_6_method_15_code
def yX4_turn : MethodName := ⟨RX4, "turn", "(I)V"⟩
abbrev cX4_stay : ByteArray := prog_6_method_16_code
def yX4_stay : MethodName := ⟨RX4, "stay", "(I)V"⟩
abbrev cX4_givenTo : ByteArray := prog_6_method_17_code
def yX4_givenTo : MethodName := ⟨RX4, "givenTo", "(I)I"⟩
abbrev cX4_givenFrom : ByteArray := prog_6_method_18_code
def yX4_givenFrom : MethodName := ⟨RX4, "givenFrom", "(I)I"⟩
def RX5 : String := "WarmPlace$Past"
def TX5 : u_T := fun k => match k with
  | 0 => ("WarmPlace$Past", "codes", "[J", true)
  | 1 => ("WarmPlace$Past", "hours", "[I", true)
  | 2 => ("WarmPlace$Past", "count", "I", false)
  | _ => ("WarmPlace$Past", "next", "I", false)
def tyX5 : Nat → FieldType := fun k => match k with
  | 0 => .array .long
  | 1 => .array .int
  | 2 => .int
  | _ => .int
abbrev wsX50 : List Cond := u_ws RX5 TX5 4
theorem nmX5 : ∀ a, a < 4 → ∀ b, b < 4 → a ≠ b → (TX5 a).2.1 ≠ (TX5 b).2.1 := by decide +kernel
theorem tyX5_ok : ∀ k, k < 4 → parseFieldDescriptor (TX5 k).2.2.1 = some (tyX5 k) := by decide +kernel
abbrev cX5_init : ByteArray := prog_7_method_1_code
def yX5_init : MethodName := ⟨RX5, "<init>", "()V"⟩
abbrev cX5_forget : ByteArray := prog_7_method_2_code
def yX5_forget : MethodName := ⟨RX5, "forget", "()V"⟩
abbrev cX5_remember : ByteArray := prog_7_method_3_code
def yX5_remember : MethodName := ⟨RX5, "remember", "(LWarmPlace$Night;)V"⟩
abbrev cX5_bringBack : ByteArray := prog_7_method_4_code
def yX5_bringBack : MethodName := ⟨RX5, "bringBack", "(ILWarmPlace$Night;)V"⟩
def RX6 : String := "WarmPlace$Reader"
def TX6 : u_T := fun k => match k with
  | 0 => ("WarmPlace$Reader", "text", "[I", true)
  | 1 => ("WarmPlace$Reader", "draft", "LWarmPlace$Bed;", true)
  | 2 => ("WarmPlace$Reader", "length", "I", false)
  | 3 => ("WarmPlace$Reader", "faultLetter", "I", false)
  | 4 => ("WarmPlace$Reader", "at", "I", false)
  | 5 => ("WarmPlace$Reader", "fault", "I", false)
  | 6 => ("WarmPlace$Reader", "numberAt", "I", false)
  | 7 => ("WarmPlace$Reader", "heatsTold", "I", false)
  | _ => ("WarmPlace$Reader", "lawTold", "Z", false)
def tyX6 : Nat → FieldType := fun k => match k with
  | 0 => .array .int
  | 1 => .object "WarmPlace$Bed"
  | 2 => .int
  | 3 => .int
  | 4 => .int
  | 5 => .int
  | 6 => .int
  | 7 => .int
  | _ => .boolean
abbrev wsX60 : List Cond := u_ws RX6 TX6 9
theorem nmX6 : ∀ a, a < 9 → ∀ b, b < 9 → a ≠ b → (TX6 a).2.1 ≠ (TX6 b).2.1 := by decide +kernel
theorem tyX6_ok : ∀ k, k < 9 → parseFieldDescriptor (TX6 k).2.2.1 = some (tyX6 k) := by decide +kernel
abbrev cX6_init : ByteArray := prog_8_method_1_code
def yX6_init : MethodName := ⟨RX6, "<init>", "()V"⟩
abbrev cX6_add : ByteArray := prog_8_method_2_code
def yX6_add : MethodName := ⟨RX6, "add", "(I)Z"⟩
abbrev cX6_readAll : ByteArray := prog_8_method_3_code
def yX6_readAll : MethodName := ⟨RX6, "readAll", "()I"⟩
abbrev cX6_readClause : ByteArray := prog_8_method_4_code
def yX6_readClause : MethodName := ⟨RX6, "readClause", "()V"⟩
abbrev cX6_readPlaces : ByteArray := prog_8_method_5_code
def yX6_readPlaces : MethodName := ⟨RX6, "readPlaces", "()V"⟩
abbrev cX6_readHeat : ByteArray := prog_8_method_6_code
def yX6_readHeat : MethodName := ⟨RX6, "readHeat", "()V"⟩
abbrev cX6_readSleeper : ByteArray := prog_8_method_7_code
def yX6_readSleeper : MethodName := ⟨RX6, "readSleeper", "()V"⟩
abbrev cX6_readLaw : ByteArray := prog_8_method_8_code
def yX6_readLaw : MethodName := ⟨RX6, "readLaw", "()V"⟩
abbrev cX6_nextIs : ByteArray := prog_8_method_9_code
def yX6_nextIs : MethodName := ⟨RX6, "nextIs", "(I)Z"⟩
abbrev cX6_readEnd : ByteArray := prog_8_method_10_code
def yX6_readEnd : MethodName := ⟨RX6, "readEnd", "()V"⟩
abbrev cX6_readNumber : ByteArray := prog_8_method_11_code
def yX6_readNumber : MethodName := ⟨RX6, "readNumber", "(II)I"⟩
abbrev cX6_skipBlanks : ByteArray := prog_8_method_12_code
def yX6_skipBlanks : MethodName := ⟨RX6, "skipBlanks", "()V"⟩
abbrev cX6_blame : ByteArray := prog_8_method_13_code
def yX6_blame : MethodName := ⟨RX6, "blame", "(II)V"⟩
def RX7 : String := "WarmPlace$Rhyming"
def TX7 : u_T := fun k => match k with
  | 0 => ("WarmPlace$Rhyming", "trial", "LWarmPlace$Night;", true)
  | 1 => ("WarmPlace$Rhyming", "length", "I", false)
  | _ => ("WarmPlace$Rhyming", "row", "I", false)
def tyX7 : Nat → FieldType := fun k => match k with
  | 0 => .object "WarmPlace$Night"
  | 1 => .int
  | _ => .int
abbrev wsX70 : List Cond := u_ws RX7 TX7 3
theorem nmX7 : ∀ a, a < 3 → ∀ b, b < 3 → a ≠ b → (TX7 a).2.1 ≠ (TX7 b).2.1 := by decide +kernel
theorem tyX7_ok : ∀ k, k < 3 → parseFieldDescriptor (TX7 k).2.2.1 = some (tyX7 k) := by decide +kernel
abbrev cX7_init : ByteArray := prog_9_method_1_code
def yX7_init : MethodName := ⟨RX7, "<init>", "(LWarmPlace$Night;)V"⟩
abbrev cX7_seek : ByteArray := prog_9_method_2_code
def yX7_seek : MethodName := ⟨RX7, "seek", "(LWarmPlace$Night;I)V"⟩
abbrev cX7_nobodyWakes : ByteArray := prog_9_method_3_code
def yX7_nobodyWakes : MethodName := ⟨RX7, "nobodyWakes", "(LWarmPlace$Night;III)Z"⟩
def RX8 : String := "WarmPlace$Rounds"
def TX8 : u_T := fun k => match k with
  | 0 => ("WarmPlace$Rounds", "trial", "LWarmPlace$Night;", true)
  | 1 => ("WarmPlace$Rounds", "codes", "[J", true)
  | 2 => ("WarmPlace$Rounds", "length", "I", false)
  | _ => ("WarmPlace$Rounds", "before", "I", false)
def tyX8 : Nat → FieldType := fun k => match k with
  | 0 => .object "WarmPlace$Night"
  | 1 => .array .long
  | 2 => .int
  | _ => .int
abbrev wsX80 : List Cond := u_ws RX8 TX8 4
theorem nmX8 : ∀ a, a < 4 → ∀ b, b < 4 → a ≠ b → (TX8 a).2.1 ≠ (TX8 b).2.1 := by decide +kernel
theorem tyX8_ok : ∀ k, k < 4 → parseFieldDescriptor (TX8 k).2.2.1 = some (tyX8 k) := by decide +kernel
abbrev cX8_init : ByteArray := prog_10_method_1_code
def yX8_init : MethodName := ⟨RX8, "<init>", "(LWarmPlace$Night;)V"⟩
abbrev cX8_seek : ByteArray := prog_10_method_2_code
def yX8_seek : MethodName := ⟨RX8, "seek", "(LWarmPlace$Night;)V"⟩
abbrev cX8_likeBefore : ByteArray := prog_10_method_3_code
def yX8_likeBefore : MethodName := ⟨RX8, "likeBefore", "(I)I"⟩
abbrev cX8_hoursInWarmest : ByteArray := prog_10_method_4_code
def yX8_hoursInWarmest : MethodName := ⟨RX8, "hoursInWarmest", "(LWarmPlace$Night;I)I"⟩
def RX9 : String := "WarmPlace$Seen"
def TX9 : u_T := fun k => match k with
  | 0 => ("WarmPlace$Seen", "who", "[I", true)
  | 1 => ("WarmPlace$Seen", "where", "[I", true)
  | 2 => ("WarmPlace$Seen", "count", "I", false)
  | 3 => ("WarmPlace$Seen", "rows", "I", false)
  | 4 => ("WarmPlace$Seen", "firstRow", "I", false)
  | _ => ("WarmPlace$Seen", "inAll", "I", false)
def tyX9 : Nat → FieldType := fun k => match k with
  | 0 => .array .int
  | 1 => .array .int
  | 2 => .int
  | 3 => .int
  | 4 => .int
  | _ => .int
abbrev wsX90 : List Cond := u_ws RX9 TX9 6
theorem nmX9 : ∀ a, a < 6 → ∀ b, b < 6 → a ≠ b → (TX9 a).2.1 ≠ (TX9 b).2.1 := by decide +kernel
theorem tyX9_ok : ∀ k, k < 6 → parseFieldDescriptor (TX9 k).2.2.1 = some (tyX9 k) := by decide +kernel
abbrev cX9_init : ByteArray := prog_11_method_1_code
def yX9_init : MethodName := ⟨RX9, "<init>", "()V"⟩
abbrev cX9_empty : ByteArray := prog_11_method_2_code
def yX9_empty : MethodName := ⟨RX9, "empty", "()V"⟩
abbrev cX9_add : ByteArray := prog_11_method_3_code
def yX9_add : MethodName := ⟨RX9, "add", "(II)Z"⟩
abbrev cX9_seek : ByteArray := prog_11_method_4_code
def yX9_seek : MethodName := ⟨RX9, "seek", "(LWarmPlace$Night;I)V"⟩
abbrev cX9_fits : ByteArray := prog_11_method_5_code
def yX9_fits : MethodName := ⟨RX9, "fits", "(LWarmPlace$Night;II)Z"⟩
abbrev cX9_wordsIn : ByteArray := prog_11_method_6_code
def yX9_wordsIn : MethodName := ⟨RX9, "wordsIn", "(II)I"⟩
def RX10 : String := "WarmPlace$Turning"
def TX10 : u_T := fun k => match k with
  | 0 => ("WarmPlace$Turning", "nights", "[LWarmPlace$Night;", true)
  | 1 => ("WarmPlace$Turning", "row", "[I", true)
  | 2 => ("WarmPlace$Turning", "best", "[I", true)
  | 3 => ("WarmPlace$Turning", "coldest", "I", false)
  | _ => ("WarmPlace$Turning", "fewest", "I", false)
def tyX10 : Nat → FieldType := fun k => match k with
  | 0 => .array (.object "WarmPlace$Night")
  | 1 => .array .int
  | 2 => .array .int
  | 3 => .int
  | _ => .int
abbrev wsX100 : List Cond := u_ws RX10 TX10 5
theorem nmX10 : ∀ a, a < 5 → ∀ b, b < 5 → a ≠ b → (TX10 a).2.1 ≠ (TX10 b).2.1 := by decide +kernel
theorem tyX10_ok : ∀ k, k < 5 → parseFieldDescriptor (TX10 k).2.2.1 = some (tyX10 k) := by decide +kernel
abbrev cX10_init : ByteArray := prog_12_method_1_code
def yX10_init : MethodName := ⟨RX10, "<init>", "(LWarmPlace$Bed;)V"⟩
abbrev cX10_seek : ByteArray := prog_12_method_2_code
def yX10_seek : MethodName := ⟨RX10, "seek", "(LWarmPlace$Night;I)V"⟩
abbrev cX10_tryWords : ByteArray := prog_12_method_3_code
def yX10_tryWords : MethodName := ⟨RX10, "tryWords", "(LWarmPlace$Turning;III)V"⟩
abbrev cX10_compare : ByteArray := prog_12_method_4_code
def yX10_compare : MethodName := ⟨RX10, "compare", "(II)V"⟩
def RX11 : String := "WarmPlace"
def TX11 : u_T := fun k => match k with
  | 0 => ("WarmPlace", "reader", "LWarmPlace$Reader;", true)
  | 1 => ("WarmPlace", "bed", "LWarmPlace$Bed;", true)
  | 2 => ("WarmPlace", "now", "LWarmPlace$Night;", true)
  | 3 => ("WarmPlace", "trial", "LWarmPlace$Night;", true)
  | 4 => ("WarmPlace", "past", "LWarmPlace$Past;", true)
  | 5 => ("WarmPlace", "images", "[LWarmPlace$Image;", true)
  | 6 => ("WarmPlace", "turning", "LWarmPlace$Turning;", true)
  | 7 => ("WarmPlace", "rhyming", "LWarmPlace$Rhyming;", true)
  | 8 => ("WarmPlace", "laying", "LWarmPlace$Laying;", true)
  | 9 => ("WarmPlace", "rounds", "LWarmPlace$Rounds;", true)
  | 10 => ("WarmPlace", "seen", "LWarmPlace$Seen;", true)
  | 11 => ("WarmPlace", "book", "LWarmPlace$Book;", true)
  | _ => ("WarmPlace", "theSeed", "I", false)
def tyX11 : Nat → FieldType := fun k => match k with
  | 0 => .object "WarmPlace$Reader"
  | 1 => .object "WarmPlace$Bed"
  | 2 => .object "WarmPlace$Night"
  | 3 => .object "WarmPlace$Night"
  | 4 => .object "WarmPlace$Past"
  | 5 => .array (.object "WarmPlace$Image")
  | 6 => .object "WarmPlace$Turning"
  | 7 => .object "WarmPlace$Rhyming"
  | 8 => .object "WarmPlace$Laying"
  | 9 => .object "WarmPlace$Rounds"
  | 10 => .object "WarmPlace$Seen"
  | 11 => .object "WarmPlace$Book"
  | _ => .int
abbrev wsX110 : List Cond := u_ws RX11 TX11 13
theorem nmX11 : ∀ a, a < 13 → ∀ b, b < 13 → a ≠ b → (TX11 a).2.1 ≠ (TX11 b).2.1 := by decide +kernel
theorem tyX11_ok : ∀ k, k < 13 → parseFieldDescriptor (TX11 k).2.2.1 = some (tyX11 k) := by decide +kernel
abbrev cX11_init : ByteArray := prog_1_method_1_code
def yX11_init : MethodName := ⟨RX11, "<init>", "()V"⟩
abbrev cX11_feed : ByteArray := prog_1_method_2_code
def yX11_feed : MethodName := ⟨RX11, "feed", "(I)I"⟩
abbrev cX11_bed : ByteArray := prog_1_method_3_code
def yX11_bed : MethodName := ⟨RX11, "bed", "()I"⟩
abbrev cX11_fault : ByteArray := prog_1_method_4_code
def yX11_fault : MethodName := ⟨RX11, "fault", "()I"⟩
abbrev cX11_told : ByteArray := prog_1_method_5_code
def yX11_told : MethodName := ⟨RX11, "told", "(I)I"⟩
abbrev cX11_place : ByteArray := prog_1_method_6_code
def yX11_place : MethodName := ⟨RX11, "place", "(II)I"⟩
abbrev cX11_sleeper : ByteArray := prog_1_method_7_code
def yX11_sleeper : MethodName := ⟨RX11, "sleeper", "(II)I"⟩
abbrev cX11_rule : ByteArray := prog_1_method_8_code
def yX11_rule : MethodName := ⟨RX11, "rule", "(I)I"⟩
abbrev cX11_hour : ByteArray := prog_1_method_9_code
def yX11_hour : MethodName := ⟨RX11, "hour", "(I)I"⟩
abbrev cX11_night : ByteArray := prog_1_method_10_code
def yX11_night : MethodName := ⟨RX11, "night", "(I)I"⟩
abbrev cX11_getUp : ByteArray := prog_1_method_11_code
def yX11_getUp : MethodName := ⟨RX11, "getUp", "(I)I"⟩
abbrev cX11_comeIn : ByteArray := prog_1_method_12_code
def yX11_comeIn : MethodName := ⟨RX11, "comeIn", "(I)I"⟩
abbrev cX11_drift : ByteArray := prog_1_method_13_code
def yX11_drift : MethodName := ⟨RX11, "drift", "(I)I"⟩
abbrev cX11_undo : ByteArray := prog_1_method_14_code
def yX11_undo : MethodName := ⟨RX11, "undo", "(I)I"⟩
abbrev cX11_firstAwake : ByteArray := prog_1_method_15_code
def yX11_firstAwake : MethodName := ⟨RX11, "firstAwake", "(I)I"⟩
abbrev cX11_turnsFor : ByteArray := prog_1_method_16_code
def yX11_turnsFor : MethodName := ⟨RX11, "turnsFor", "(II)I"⟩
abbrev cX11_rhyme : ByteArray := prog_1_method_17_code
def yX11_rhyme : MethodName := ⟨RX11, "rhyme", "(II)I"⟩
abbrev cX11_laid : ByteArray := prog_1_method_18_code
def yX11_laid : MethodName := ⟨RX11, "laid", "(II)I"⟩
abbrev cX11_change : ByteArray := prog_1_method_19_code
def yX11_change : MethodName := ⟨RX11, "change", "(I)I"⟩
abbrev cX11_steady : ByteArray := prog_1_method_20_code
def yX11_steady : MethodName := ⟨RX11, "steady", "(I)I"⟩
abbrev cX11_twoBeds : ByteArray := prog_1_method_21_code
def yX11_twoBeds : MethodName := ⟨RX11, "twoBeds", "(I)I"⟩
abbrev cX11_nobodyUp : ByteArray := prog_1_method_22_code
def yX11_nobodyUp : MethodName := ⟨RX11, "nobodyUp", "(II)I"⟩
abbrev cX11_morning : ByteArray := prog_1_method_23_code
def yX11_morning : MethodName := ⟨RX11, "morning", "(II)I"⟩
abbrev cX11_counted : ByteArray := prog_1_method_24_code
def yX11_counted : MethodName := ⟨RX11, "counted", "(II)I"⟩
abbrev cX11_sure : ByteArray := prog_1_method_25_code
def yX11_sure : MethodName := ⟨RX11, "sure", "(I)I"⟩
abbrev cX11_write : ByteArray := prog_1_method_26_code
def yX11_write : MethodName := ⟨RX11, "write", "(I)I"⟩
abbrev cX11_judge : ByteArray := prog_1_method_27_code
def yX11_judge : MethodName := ⟨RX11, "judge", "(I)I"⟩
abbrev cX11_tear : ByteArray := prog_1_method_28_code
def yX11_tear : MethodName := ⟨RX11, "tear", "()I"⟩
abbrev cX11_seed : ByteArray := prog_1_method_29_code
def yX11_seed : MethodName := ⟨RX11, "seed", "(I)I"⟩
abbrev cX11_keep : ByteArray := prog_1_method_30_code
def yX11_keep : MethodName := ⟨RX11, "keep", "(I)I"⟩
abbrev cX11_goBack : ByteArray := prog_1_method_31_code
def yX11_goBack : MethodName := ⟨RX11, "goBack", "(I)I"⟩
abbrev cX11_isWord : ByteArray := prog_1_method_32_code
def yX11_isWord : MethodName := ⟨RX11, "isWord", "(I)Z"⟩
abbrev cX11_wordOf : ByteArray := prog_1_method_33_code
def yX11_wordOf : MethodName := ⟨RX11, "wordOf", "(III)I"⟩
abbrev cX11_hoursRefused : ByteArray := prog_1_method_34_code
def yX11_hoursRefused : MethodName := ⟨RX11, "hoursRefused", "()I"⟩
abbrev cX11_goOn : ByteArray := prog_1_method_35_code
def yX11_goOn : MethodName := ⟨RX11, "goOn", "(I)V"⟩
abbrev cX11_drawOfSix : ByteArray := prog_1_method_36_code
def yX11_drawOfSix : MethodName := ⟨RX11, "drawOfSix", "()I"⟩
def RX12 : String := "WarmPlaceModel"
def TX12 : u_T := fun k => match k with
  | 0 => ("WarmPlaceModel", "read", "[I", true)
  | 1 => ("WarmPlaceModel", "bed", "[I", true)
  | 2 => ("WarmPlaceModel", "text", "[I", true)
  | 3 => ("WarmPlaceModel", "letters", "I", false)
  | 4 => ("WarmPlaceModel", "at", "I", false)
  | 5 => ("WarmPlaceModel", "fault", "I", false)
  | 6 => ("WarmPlaceModel", "faultAt", "I", false)
  | 7 => ("WarmPlaceModel", "begun", "I", false)
  | 8 => ("WarmPlaceModel", "now", "[I", true)
  | 9 => ("WarmPlaceModel", "seed", "I", false)
  | 10 => ("WarmPlaceModel", "gets", "[I", true)
  | 11 => ("WarmPlaceModel", "undos", "I", false)
  | 12 => ("WarmPlaceModel", "undone", "[I", true)
  | 13 => ("WarmPlaceModel", "aside", "[I", true)
  | 14 => ("WarmPlaceModel", "taken", "[I", true)
  | 15 => ("WarmPlaceModel", "order", "[I", true)
  | 16 => ("WarmPlaceModel", "bestOrder", "[I", true)
  | 17 => ("WarmPlaceModel", "states", "[I", true)
  | 18 => ("WarmPlaceModel", "mornings", "I", false)
  | 19 => ("WarmPlaceModel", "who", "[I", true)
  | 20 => ("WarmPlaceModel", "where", "[I", true)
  | 21 => ("WarmPlaceModel", "lines", "I", false)
  | 22 => ("WarmPlaceModel", "book", "[I", true)
  | 23 => ("WarmPlaceModel", "rows", "I", false)
  | 24 => ("WarmPlaceModel", "first", "I", false)
  | 25 => ("WarmPlaceModel", "sure", "I", false)
  | _ => ("WarmPlaceModel", "kept", "[I", true)
def tyX12 : Nat → FieldType := fun k => match k with
  | 0 => .array .int
  | 1 => .array .int
  | 2 => .array .int
  | 3 => .int
  | 4 => .int
  | 5 => .int
  | 6 => .int
  | 7 => .int
  | 8 => .array .int
  | 9 => .int
  | 10 => .array .int
  | 11 => .int
  | 12 => .array .int
  | 13 => .array .int
  | 14 => .array .int
  | 15 => .array .int
  | 16 => .array .int
  | 17 => .array .int
  | 18 => .int
  | 19 => .array .int
  | 20 => .array .int
  | 21 => .int
  | 22 => .array .int
  | 23 => .int
  | 24 => .int
  | 25 => .int
  | _ => .array .int
abbrev wsX120 : List Cond := u_ws RX12 TX12 27
theorem nmX12 : ∀ a, a < 27 → ∀ b, b < 27 → a ≠ b → (TX12 a).2.1 ≠ (TX12 b).2.1 := by decide +kernel
theorem tyX12_ok : ∀ k, k < 27 → parseFieldDescriptor (TX12 k).2.2.1 = some (tyX12 k) := by decide +kernel
abbrev cX12_in : ByteArray := prog_14_method_2_code
def yX12_in : MethodName := ⟨RX12, "in", "(JJJ)Z"⟩
abbrev cX12_init : ByteArray := prog_14_method_3_code
def yX12_init : MethodName := ⟨RX12, "<init>", "()V"⟩
abbrev cX12_plain : ByteArray := prog_14_method_4_code
def yX12_plain : MethodName := ⟨RX12, "plain", "()V"⟩
abbrev cX12_feed : ByteArray := prog_14_method_5_code
def yX12_feed : MethodName := ⟨RX12, "feed", "(I)I"⟩
abbrev cX12_here : ByteArray := prog_14_method_6_code
def yX12_here : MethodName := ⟨RX12, "here", "()I"⟩
abbrev cX12_faults : ByteArray := prog_14_method_7_code
def yX12_faults : MethodName := ⟨RX12, "faults", "(II)V"⟩
abbrev cX12_number : ByteArray := prog_14_method_8_code
def yX12_number : MethodName := ⟨RX12, "number", "(II)I"⟩
abbrev cX12_readHeat : ByteArray := prog_14_method_9_code
def yX12_readHeat : MethodName := ⟨RX12, "readHeat", "()V"⟩
abbrev cX12_readSleeper : ByteArray := prog_14_method_10_code
def yX12_readSleeper : MethodName := ⟨RX12, "readSleeper", "()V"⟩
abbrev cX12_readLaw : ByteArray := prog_14_method_11_code
def yX12_readLaw : MethodName := ⟨RX12, "readLaw", "()V"⟩
abbrev cX12_clause : ByteArray := prog_14_method_12_code
def yX12_clause : MethodName := ⟨RX12, "clause", "()V"⟩
abbrev cX12_bed : ByteArray := prog_14_method_13_code
def yX12_bed : MethodName := ⟨RX12, "bed", "()I"⟩
abbrev cX12_fault : ByteArray := prog_14_method_14_code
def yX12_fault : MethodName := ⟨RX12, "fault", "()I"⟩
abbrev cX12_starts : ByteArray := prog_14_method_15_code
def yX12_starts : MethodName := ⟨RX12, "starts", "()V"⟩
abbrev cX12_isPlace : ByteArray := prog_14_method_16_code
def yX12_isPlace : MethodName := ⟨RX12, "isPlace", "(I)Z"⟩
abbrev cX12_isSleeper : ByteArray := prog_14_method_17_code
def yX12_isSleeper : MethodName := ⟨RX12, "isSleeper", "(I)Z"⟩
abbrev cX12_gives : ByteArray := prog_14_method_18_code
def yX12_gives : MethodName := ⟨RX12, "gives", "(I)I"⟩
abbrev cX12_loses : ByteArray := prog_14_method_19_code
def yX12_loses : MethodName := ⟨RX12, "loses", "(I)I"⟩
abbrev cX12_placeOf : ByteArray := prog_14_method_20_code
def yX12_placeOf : MethodName := ⟨RX12, "placeOf", "(I)I"⟩
abbrev cX12_inBed : ByteArray := prog_14_method_21_code
def yX12_inBed : MethodName := ⟨RX12, "inBed", "()I"⟩
abbrev cX12_more : ByteArray := prog_14_method_22_code
def yX12_more : MethodName := ⟨RX12, "more", "(I)I"⟩
abbrev cX12_awake : ByteArray := prog_14_method_23_code
def yX12_awake : MethodName := ⟨RX12, "awake", "()I"⟩
abbrev cX12_coldest : ByteArray := prog_14_method_24_code
def yX12_coldest : MethodName := ⟨RX12, "coldest", "()I"⟩
abbrev cX12_turns : ByteArray := prog_14_method_25_code
def yX12_turns : MethodName := ⟨RX12, "turns", "(I)V"⟩
abbrev cX12_goesOn : ByteArray := prog_14_method_26_code
def yX12_goesOn : MethodName := ⟨RX12, "goesOn", "(I)V"⟩
abbrev cX12_lawful : ByteArray := prog_14_method_27_code
def yX12_lawful : MethodName := ⟨RX12, "lawful", "()I"⟩
abbrev cX12_told : ByteArray := prog_14_method_28_code
def yX12_told : MethodName := ⟨RX12, "told", "(I)I"⟩
abbrev cX12_place : ByteArray := prog_14_method_29_code
def yX12_place : MethodName := ⟨RX12, "place", "(II)I"⟩
abbrev cX12_sleeper : ByteArray := prog_14_method_30_code
def yX12_sleeper : MethodName := ⟨RX12, "sleeper", "(II)I"⟩
abbrev cX12_rule : ByteArray := prog_14_method_31_code
def yX12_rule : MethodName := ⟨RX12, "rule", "(I)I"⟩
abbrev cX12_notes : ByteArray := prog_14_method_32_code
def yX12_notes : MethodName := ⟨RX12, "notes", "()V"⟩
abbrev cX12_refusal : ByteArray := prog_14_method_33_code
def yX12_refusal : MethodName := ⟨RX12, "refusal", "()I"⟩
abbrev cX12_hour : ByteArray := prog_14_method_34_code
def yX12_hour : MethodName := ⟨RX12, "hour", "(I)I"⟩
abbrev cX12_night : ByteArray := prog_14_method_35_code
def yX12_night : MethodName := ⟨RX12, "night", "(I)I"⟩
abbrev cX12_getUp : ByteArray := prog_14_method_36_code
def yX12_getUp : MethodName := ⟨RX12, "getUp", "(I)I"⟩
abbrev cX12_comeIn : ByteArray := prog_14_method_37_code
def yX12_comeIn : MethodName := ⟨RX12, "comeIn", "(I)I"⟩
abbrev cX12_draws : ByteArray := prog_14_method_38_code
def yX12_draws : MethodName := ⟨RX12, "draws", "(I)I"⟩
abbrev cX12_drift : ByteArray := prog_14_method_39_code
def yX12_drift : MethodName := ⟨RX12, "drift", "(I)I"⟩
abbrev cX12_undo : ByteArray := prog_14_method_40_code
def yX12_undo : MethodName := ⟨RX12, "undo", "(I)I"⟩
abbrev cX12_asides : ByteArray := prog_14_method_41_code
def yX12_asides : MethodName := ⟨RX12, "asides", "()V"⟩
abbrev cX12_backs : ByteArray := prog_14_method_42_code
def yX12_backs : MethodName := ⟨RX12, "backs", "()V"⟩
abbrev cX12_least : ByteArray := prog_14_method_43_code
def yX12_least : MethodName := ⟨RX12, "least", "(I)I"⟩
abbrev cX12_firstAwake : ByteArray := prog_14_method_44_code
def yX12_firstAwake : MethodName := ⟨RX12, "firstAwake", "(I)I"⟩
abbrev cX12_power : ByteArray := prog_14_method_45_code
def yX12_power : MethodName := ⟨RX12, "power", "(I)I"⟩
abbrev cX12_word : ByteArray := prog_14_method_46_code
def yX12_word : MethodName := ⟨RX12, "word", "(III)I"⟩
abbrev cX12_sleeps : ByteArray := prog_14_method_47_code
def yX12_sleeps : MethodName := ⟨RX12, "sleeps", "(III)Z"⟩
abbrev cX12_turnsFor : ByteArray := prog_14_method_48_code
def yX12_turnsFor : MethodName := ⟨RX12, "turnsFor", "(II)I"⟩
abbrev cX12_rhyme : ByteArray := prog_14_method_49_code
def yX12_rhyme : MethodName := ⟨RX12, "rhyme", "(II)I"⟩
abbrev cX12_laid : ByteArray := prog_14_method_50_code
def yX12_laid : MethodName := ⟨RX12, "laid", "(II)I"⟩
abbrev cX12_change : ByteArray := prog_14_method_51_code
def yX12_change : MethodName := ⟨RX12, "change", "(I)I"⟩
abbrev cX12_isState : ByteArray := prog_14_method_52_code
def yX12_isState : MethodName := ⟨RX12, "isState", "(I)Z"⟩
abbrev cX12_hottest : ByteArray := prog_14_method_53_code
def yX12_hottest : MethodName := ⟨RX12, "hottest", "()I"⟩
abbrev cX12_steady : ByteArray := prog_14_method_54_code
def yX12_steady : MethodName := ⟨RX12, "steady", "(I)I"⟩
abbrev cX12_twoBeds : ByteArray := prog_14_method_55_code
def yX12_twoBeds : MethodName := ⟨RX12, "twoBeds", "(I)I"⟩
abbrev cX12_nobodyUp : ByteArray := prog_14_method_56_code
def yX12_nobodyUp : MethodName := ⟨RX12, "nobodyUp", "(II)I"⟩
abbrev cX12_morning : ByteArray := prog_14_method_57_code
def yX12_morning : MethodName := ⟨RX12, "morning", "(II)I"⟩
abbrev cX12_counts : ByteArray := prog_14_method_58_code
def yX12_counts : MethodName := ⟨RX12, "counts", "(I)V"⟩
abbrev cX12_counted : ByteArray := prog_14_method_59_code
def yX12_counted : MethodName := ⟨RX12, "counted", "(II)I"⟩
abbrev cX12_sure : ByteArray := prog_14_method_60_code
def yX12_sure : MethodName := ⟨RX12, "sure", "(I)I"⟩
abbrev cX12_write : ByteArray := prog_14_method_61_code
def yX12_write : MethodName := ⟨RX12, "write", "(I)I"⟩
abbrev cX12_judge : ByteArray := prog_14_method_62_code
def yX12_judge : MethodName := ⟨RX12, "judge", "(I)I"⟩
abbrev cX12_tear : ByteArray := prog_14_method_63_code
def yX12_tear : MethodName := ⟨RX12, "tear", "()I"⟩
abbrev cX12_seed : ByteArray := prog_14_method_64_code
def yX12_seed : MethodName := ⟨RX12, "seed", "(I)I"⟩
abbrev cX12_keep : ByteArray := prog_14_method_65_code
def yX12_keep : MethodName := ⟨RX12, "keep", "(I)I"⟩
abbrev cX12_goBack : ByteArray := prog_14_method_66_code
def yX12_goBack : MethodName := ⟨RX12, "goBack", "(I)I"⟩
def RJ6 : String := "java/lang/Integer"
def TJ6 : u_T := fun k => match k with
  | _ => ("", "", "", false)
def tyJ6 : Nat → FieldType := fun k => match k with
  | _ => .int
abbrev wsJ60 : List Cond := u_ws RJ6 TJ6 0
theorem nmJ6 : ∀ a, a < 0 → ∀ b, b < 0 → a ≠ b → (TJ6 a).2.1 ≠ (TJ6 b).2.1 := by decide +kernel
theorem tyJ6_ok : ∀ k, k < 0 → parseFieldDescriptor (TJ6 k).2.2.1 = some (tyJ6 k) := by decide +kernel
abbrev cJ6_numberOfTrailingZeros_0f7a4 : ByteArray := prog_15_method_48_code
def yJ6_numberOfTrailingZeros_0f7a4 : MethodName := ⟨RJ6, "numberOfTrailingZeros", "(I)I"⟩
abbrev cJ6_bitCount_0f7a4 : ByteArray := prog_15_method_49_code
def yJ6_bitCount_0f7a4 : MethodName := ⟨RJ6, "bitCount", "(I)I"⟩
def RJ9 : String := "java/lang/Math"
def TJ9 : u_T := fun k => match k with
  | _ => ("", "", "", false)
def tyJ9 : Nat → FieldType := fun k => match k with
  | _ => .int
abbrev wsJ90 : List Cond := u_ws RJ9 TJ9 0
theorem nmJ9 : ∀ a, a < 0 → ∀ b, b < 0 → a ≠ b → (TJ9 a).2.1 ≠ (TJ9 b).2.1 := by decide +kernel
theorem tyJ9_ok : ∀ k, k < 0 → parseFieldDescriptor (TJ9 k).2.2.1 = some (tyJ9 k) := by decide +kernel
abbrev cJ9_abs_0f7a4 : ByteArray := prog_16_method_59_code
def yJ9_abs_0f7a4 : MethodName := ⟨RJ9, "abs", "(I)I"⟩
abbrev cJ9_max_7cf53 : ByteArray := prog_16_method_65_code
def yJ9_max_7cf53 : MethodName := ⟨RJ9, "max", "(II)I"⟩
abbrev cJ9_min_7cf53 : ByteArray := prog_16_method_69_code
def yJ9_min_7cf53 : MethodName := ⟨RJ9, "min", "(II)I"⟩
def RJ10 : String := "java/lang/System"
def TJ10 : u_T := fun k => match k with
  | _ => ("", "", "", false)
def tyJ10 : Nat → FieldType := fun k => match k with
  | _ => .int
abbrev wsJ100 : List Cond := u_ws RJ10 TJ10 0
theorem nmJ10 : ∀ a, a < 0 → ∀ b, b < 0 → a ≠ b → (TJ10 a).2.1 ≠ (TJ10 b).2.1 := by decide +kernel
theorem tyJ10_ok : ∀ k, k < 0 → parseFieldDescriptor (TJ10 k).2.2.1 = some (tyJ10 k) := by decide +kernel
def RL : String := "WarmPlaceLaw"
abbrev cL_law : ByteArray := code
def yL_law : MethodName := ⟨RL, "law", "([I)Z"⟩
end
section
theorem dX0_init_0 : decode cX0_init 0 = .ok (.aload_n 0, 1) := by decide +kernel
theorem dX0_init_1 : decode cX0_init 1 = .ok (.invokespecial 3, 3) := by decide +kernel
theorem dX0_init_4 : decode cX0_init 4 = .ok (.aload_n 0, 1) := by decide +kernel
theorem dX0_init_5 : decode cX0_init 5 = .ok (.bipush 6, 2) := by decide +kernel
theorem dX0_init_7 : decode cX0_init 7 = .ok (.newarray .int, 2) := by decide +kernel
theorem dX0_init_9 : decode cX0_init 9 = .ok (.putfield 9, 3) := by decide +kernel
theorem dX0_init_12 : decode cX0_init 12 = .ok (.aload_n 0, 1) := by decide +kernel
theorem dX0_init_13 : decode cX0_init 13 = .ok (.bipush 6, 2) := by decide +kernel
theorem dX0_init_15 : decode cX0_init 15 = .ok (.newarray .int, 2) := by decide +kernel
theorem dX0_init_17 : decode cX0_init 17 = .ok (.putfield 15, 3) := by decide +kernel
theorem dX0_init_20 : decode cX0_init 20 = .ok (.aload_n 0, 1) := by decide +kernel
theorem dX0_init_21 : decode cX0_init 21 = .ok (.bipush 6, 2) := by decide +kernel
theorem dX0_init_23 : decode cX0_init 23 = .ok (.newarray .int, 2) := by decide +kernel
theorem dX0_init_25 : decode cX0_init 25 = .ok (.putfield 18, 3) := by decide +kernel
theorem dX0_init_28 : decode cX0_init 28 = .ok (.aload_n 0, 1) := by decide +kernel
theorem dX0_init_29 : decode cX0_init 29 = .ok (.bipush 6, 2) := by decide +kernel
theorem dX0_init_31 : decode cX0_init 31 = .ok (.newarray .int, 2) := by decide +kernel
theorem dX0_init_33 : decode cX0_init 33 = .ok (.putfield 21, 3) := by decide +kernel
theorem dX0_init_36 : decode cX0_init 36 = .ok (.aload_n 0, 1) := by decide +kernel
theorem dX0_init_37 : decode cX0_init 37 = .ok (.bipush 6, 2) := by decide +kernel
theorem dX0_init_39 : decode cX0_init 39 = .ok (.newarray .int, 2) := by decide +kernel
theorem dX0_init_41 : decode cX0_init 41 = .ok (.putfield 24, 3) := by decide +kernel
theorem dX0_init_44 : decode cX0_init 44 = .ok (.aload_n 0, 1) := by decide +kernel
theorem dX0_init_45 : decode cX0_init 45 = .ok (.bipush 8, 2) := by decide +kernel
theorem dX0_init_47 : decode cX0_init 47 = .ok (.newarray .int, 2) := by decide +kernel
theorem dX0_init_49 : decode cX0_init 49 = .ok (.putfield 27, 3) := by decide +kernel
theorem dX0_init_52 : decode cX0_init 52 = .ok (.aload_n 0, 1) := by decide +kernel
theorem dX0_init_53 : decode cX0_init 53 = .ok (.iconst 1, 1) := by decide +kernel
theorem dX0_init_54 : decode cX0_init 54 = .ok (.putfield 30, 3) := by decide +kernel
theorem dX0_init_57 : decode cX0_init 57 = .ok (.return_, 1) := by decide +kernel
theorem dX0_empty_0 : decode cX0_empty 0 = .ok (.aload_n 0, 1) := by decide +kernel
theorem dX0_empty_1 : decode cX0_empty 1 = .ok (.iconst 0, 1) := by decide +kernel
theorem dX0_empty_2 : decode cX0_empty 2 = .ok (.putfield 34, 3) := by decide +kernel
theorem dX0_empty_5 : decode cX0_empty 5 = .ok (.aload_n 0, 1) := by decide +kernel
theorem dX0_empty_6 : decode cX0_empty 6 = .ok (.iconst 0, 1) := by decide +kernel
theorem dX0_empty_7 : decode cX0_empty 7 = .ok (.putfield 37, 3) := by decide +kernel
theorem dX0_empty_10 : decode cX0_empty 10 = .ok (.aload_n 0, 1) := by decide +kernel
theorem dX0_empty_11 : decode cX0_empty 11 = .ok (.iconst 0, 1) := by decide +kernel
theorem dX0_empty_12 : decode cX0_empty 12 = .ok (.putfield 41, 3) := by decide +kernel
theorem dX0_empty_15 : decode cX0_empty 15 = .ok (.aload_n 0, 1) := by decide +kernel
theorem dX0_empty_16 : decode cX0_empty 16 = .ok (.iconst 1, 1) := by decide +kernel
theorem dX0_empty_17 : decode cX0_empty 17 = .ok (.putfield 30, 3) := by decide +kernel
theorem dX0_empty_20 : decode cX0_empty 20 = .ok (.aload_n 0, 1) := by decide +kernel
theorem dX0_empty_21 : decode cX0_empty 21 = .ok (.getfield 27, 3) := by decide +kernel
theorem dX0_empty_24 : decode cX0_empty 24 = .ok (.iconst 0, 1) := by decide +kernel
theorem dX0_empty_25 : decode cX0_empty 25 = .ok (.iconst 0, 1) := by decide +kernel
theorem dX0_empty_26 : decode cX0_empty 26 = .ok (.iastore, 1) := by decide +kernel
theorem dX0_empty_27 : decode cX0_empty 27 = .ok (.iconst 0, 1) := by decide +kernel
theorem dX0_empty_28 : decode cX0_empty 28 = .ok (.istore_n 1, 1) := by decide +kernel
theorem dX0_empty_29 : decode cX0_empty 29 = .ok (.iload_n 1, 1) := by decide +kernel
theorem dX0_empty_30 : decode cX0_empty 30 = .ok (.bipush 6, 2) := by decide +kernel
theorem dX0_empty_32 : decode cX0_empty 32 = .ok (.if_icmp .ge 16, 3) := by decide +kernel
theorem dX0_empty_35 : decode cX0_empty 35 = .ok (.aload_n 0, 1) := by decide +kernel
theorem dX0_empty_36 : decode cX0_empty 36 = .ok (.getfield 9, 3) := by decide +kernel
theorem dX0_empty_39 : decode cX0_empty 39 = .ok (.iload_n 1, 1) := by decide +kernel
theorem dX0_empty_40 : decode cX0_empty 40 = .ok (.iconst 0, 1) := by decide +kernel
theorem dX0_empty_41 : decode cX0_empty 41 = .ok (.iastore, 1) := by decide +kernel
theorem dX0_empty_42 : decode cX0_empty 42 = .ok (.iinc 1 1, 3) := by decide +kernel
theorem dX0_empty_45 : decode cX0_empty 45 = .ok (.goto (-16), 3) := by decide +kernel
theorem dX0_empty_48 : decode cX0_empty 48 = .ok (.return_, 1) := by decide +kernel
theorem dX0_become_0 : decode cX0_become 0 = .ok (.aload_n 0, 1) := by decide +kernel
theorem dX0_become_1 : decode cX0_become 1 = .ok (.aload_n 1, 1) := by decide +kernel
theorem dX0_become_2 : decode cX0_become 2 = .ok (.getfield 34, 3) := by decide +kernel
theorem dX0_become_5 : decode cX0_become 5 = .ok (.putfield 34, 3) := by decide +kernel
theorem dX0_become_8 : decode cX0_become 8 = .ok (.aload_n 0, 1) := by decide +kernel
theorem dX0_become_9 : decode cX0_become 9 = .ok (.aload_n 1, 1) := by decide +kernel
theorem dX0_become_10 : decode cX0_become 10 = .ok (.getfield 37, 3) := by decide +kernel
theorem dX0_become_13 : decode cX0_become 13 = .ok (.putfield 37, 3) := by decide +kernel
theorem dX0_become_16 : decode cX0_become 16 = .ok (.aload_n 0, 1) := by decide +kernel
theorem dX0_become_17 : decode cX0_become 17 = .ok (.aload_n 1, 1) := by decide +kernel
theorem dX0_become_18 : decode cX0_become 18 = .ok (.getfield 41, 3) := by decide +kernel
theorem dX0_become_21 : decode cX0_become 21 = .ok (.putfield 41, 3) := by decide +kernel
theorem dX0_become_24 : decode cX0_become 24 = .ok (.aload_n 0, 1) := by decide +kernel
theorem dX0_become_25 : decode cX0_become 25 = .ok (.aload_n 1, 1) := by decide +kernel
theorem dX0_become_26 : decode cX0_become 26 = .ok (.getfield 30, 3) := by decide +kernel
theorem dX0_become_29 : decode cX0_become 29 = .ok (.putfield 30, 3) := by decide +kernel
theorem dX0_become_32 : decode cX0_become 32 = .ok (.aload_n 1, 1) := by decide +kernel
theorem dX0_become_33 : decode cX0_become 33 = .ok (.getfield 9, 3) := by decide +kernel
theorem dX0_become_36 : decode cX0_become 36 = .ok (.iconst 0, 1) := by decide +kernel
theorem dX0_become_37 : decode cX0_become 37 = .ok (.aload_n 0, 1) := by decide +kernel
theorem dX0_become_38 : decode cX0_become 38 = .ok (.getfield 9, 3) := by decide +kernel
theorem dX0_become_41 : decode cX0_become 41 = .ok (.iconst 0, 1) := by decide +kernel
theorem dX0_become_42 : decode cX0_become 42 = .ok (.bipush 6, 2) := by decide +kernel
theorem dX0_become_44 : decode cX0_become 44 = .ok (.invokestatic 44, 3) := by decide +kernel
theorem dX0_become_47 : decode cX0_become 47 = .ok (.aload_n 1, 1) := by decide +kernel
theorem dX0_become_48 : decode cX0_become 48 = .ok (.getfield 15, 3) := by decide +kernel
theorem dX0_become_51 : decode cX0_become 51 = .ok (.iconst 0, 1) := by decide +kernel
theorem dX0_become_52 : decode cX0_become 52 = .ok (.aload_n 0, 1) := by decide +kernel
theorem dX0_become_53 : decode cX0_become 53 = .ok (.getfield 15, 3) := by decide +kernel
theorem dX0_become_56 : decode cX0_become 56 = .ok (.iconst 0, 1) := by decide +kernel
theorem dX0_become_57 : decode cX0_become 57 = .ok (.bipush 6, 2) := by decide +kernel
theorem dX0_become_59 : decode cX0_become 59 = .ok (.invokestatic 44, 3) := by decide +kernel
theorem dX0_become_62 : decode cX0_become 62 = .ok (.aload_n 1, 1) := by decide +kernel
theorem dX0_become_63 : decode cX0_become 63 = .ok (.getfield 18, 3) := by decide +kernel
theorem dX0_become_66 : decode cX0_become 66 = .ok (.iconst 0, 1) := by decide +kernel
theorem dX0_become_67 : decode cX0_become 67 = .ok (.aload_n 0, 1) := by decide +kernel
theorem dX0_become_68 : decode cX0_become 68 = .ok (.getfield 18, 3) := by decide +kernel
theorem dX0_become_71 : decode cX0_become 71 = .ok (.iconst 0, 1) := by decide +kernel
theorem dX0_become_72 : decode cX0_become 72 = .ok (.bipush 6, 2) := by decide +kernel
theorem dX0_become_74 : decode cX0_become 74 = .ok (.invokestatic 44, 3) := by decide +kernel
theorem dX0_become_77 : decode cX0_become 77 = .ok (.aload_n 1, 1) := by decide +kernel
theorem dX0_become_78 : decode cX0_become 78 = .ok (.getfield 21, 3) := by decide +kernel
theorem dX0_become_81 : decode cX0_become 81 = .ok (.iconst 0, 1) := by decide +kernel
theorem dX0_become_82 : decode cX0_become 82 = .ok (.aload_n 0, 1) := by decide +kernel
theorem dX0_become_83 : decode cX0_become 83 = .ok (.getfield 21, 3) := by decide +kernel
theorem dX0_become_86 : decode cX0_become 86 = .ok (.iconst 0, 1) := by decide +kernel
theorem dX0_become_87 : decode cX0_become 87 = .ok (.bipush 6, 2) := by decide +kernel
theorem dX0_become_89 : decode cX0_become 89 = .ok (.invokestatic 44, 3) := by decide +kernel
theorem dX0_become_92 : decode cX0_become 92 = .ok (.aload_n 1, 1) := by decide +kernel
theorem dX0_become_93 : decode cX0_become 93 = .ok (.getfield 24, 3) := by decide +kernel
theorem dX0_become_96 : decode cX0_become 96 = .ok (.iconst 0, 1) := by decide +kernel
theorem dX0_become_97 : decode cX0_become 97 = .ok (.aload_n 0, 1) := by decide +kernel
theorem dX0_become_98 : decode cX0_become 98 = .ok (.getfield 24, 3) := by decide +kernel
theorem dX0_become_101 : decode cX0_become 101 = .ok (.iconst 0, 1) := by decide +kernel
theorem dX0_become_102 : decode cX0_become 102 = .ok (.bipush 6, 2) := by decide +kernel
theorem dX0_become_104 : decode cX0_become 104 = .ok (.invokestatic 44, 3) := by decide +kernel
theorem dX0_become_107 : decode cX0_become 107 = .ok (.aload_n 1, 1) := by decide +kernel
theorem dX0_become_108 : decode cX0_become 108 = .ok (.getfield 27, 3) := by decide +kernel
theorem dX0_become_111 : decode cX0_become 111 = .ok (.iconst 0, 1) := by decide +kernel
theorem dX0_become_112 : decode cX0_become 112 = .ok (.aload_n 0, 1) := by decide +kernel
theorem dX0_become_113 : decode cX0_become 113 = .ok (.getfield 27, 3) := by decide +kernel
theorem dX0_become_116 : decode cX0_become 116 = .ok (.iconst 0, 1) := by decide +kernel
theorem dX0_become_117 : decode cX0_become 117 = .ok (.bipush 8, 2) := by decide +kernel
theorem dX0_become_119 : decode cX0_become 119 = .ok (.invokestatic 44, 3) := by decide +kernel
theorem dX0_become_122 : decode cX0_become 122 = .ok (.return_, 1) := by decide +kernel
theorem dX0_hasPlace_0 : decode cX0_hasPlace 0 = .ok (.iload_n 1, 1) := by decide +kernel
theorem dX0_hasPlace_1 : decode cX0_hasPlace 1 = .ok (.ifCond .lt 15, 3) := by decide +kernel
theorem dX0_hasPlace_4 : decode cX0_hasPlace 4 = .ok (.iload_n 1, 1) := by decide +kernel
theorem dX0_hasPlace_5 : decode cX0_hasPlace 5 = .ok (.aload_n 0, 1) := by decide +kernel
theorem dX0_hasPlace_6 : decode cX0_hasPlace 6 = .ok (.getfield 34, 3) := by decide +kernel
theorem dX0_hasPlace_9 : decode cX0_hasPlace 9 = .ok (.if_icmp .ge 7, 3) := by decide +kernel
theorem dX0_hasPlace_12 : decode cX0_hasPlace 12 = .ok (.iconst 1, 1) := by decide +kernel
theorem dX0_hasPlace_13 : decode cX0_hasPlace 13 = .ok (.goto 4, 3) := by decide +kernel
theorem dX0_hasPlace_16 : decode cX0_hasPlace 16 = .ok (.iconst 0, 1) := by decide +kernel
theorem dX0_hasPlace_17 : decode cX0_hasPlace 17 = .ok (.ireturn, 1) := by decide +kernel
theorem dX0_hasSleeper_0 : decode cX0_hasSleeper 0 = .ok (.iload_n 1, 1) := by decide +kernel
theorem dX0_hasSleeper_1 : decode cX0_hasSleeper 1 = .ok (.ifCond .lt 15, 3) := by decide +kernel
theorem dX0_hasSleeper_4 : decode cX0_hasSleeper 4 = .ok (.iload_n 1, 1) := by decide +kernel
theorem dX0_hasSleeper_5 : decode cX0_hasSleeper 5 = .ok (.aload_n 0, 1) := by decide +kernel
theorem dX0_hasSleeper_6 : decode cX0_hasSleeper 6 = .ok (.getfield 41, 3) := by decide +kernel
theorem dX0_hasSleeper_9 : decode cX0_hasSleeper 9 = .ok (.if_icmp .ge 7, 3) := by decide +kernel
theorem dX0_hasSleeper_12 : decode cX0_hasSleeper 12 = .ok (.iconst 1, 1) := by decide +kernel
theorem dX0_hasSleeper_13 : decode cX0_hasSleeper 13 = .ok (.goto 4, 3) := by decide +kernel
theorem dX0_hasSleeper_16 : decode cX0_hasSleeper 16 = .ok (.iconst 0, 1) := by decide +kernel
theorem dX0_hasSleeper_17 : decode cX0_hasSleeper 17 = .ok (.ireturn, 1) := by decide +kernel
theorem dX0_lawAt_0 : decode cX0_lawAt 0 = .ok (.aload_n 0, 1) := by decide +kernel
theorem dX0_lawAt_1 : decode cX0_lawAt 1 = .ok (.getfield 30, 3) := by decide +kernel
theorem dX0_lawAt_4 : decode cX0_lawAt 4 = .ok (.iconst 1, 1) := by decide +kernel
theorem dX0_lawAt_5 : decode cX0_lawAt 5 = .ok (.if_icmp .lt 7, 3) := by decide +kernel
theorem dX0_lawAt_8 : decode cX0_lawAt 8 = .ok (.iload_n 1, 1) := by decide +kernel
theorem dX0_lawAt_9 : decode cX0_lawAt 9 = .ok (.ifCond .ge 7, 3) := by decide +kernel
theorem dX0_lawAt_12 : decode cX0_lawAt 12 = .ok (.iconst 0, 1) := by decide +kernel
theorem dX0_lawAt_13 : decode cX0_lawAt 13 = .ok (.goto 14, 3) := by decide +kernel
theorem dX0_lawAt_16 : decode cX0_lawAt 16 = .ok (.aload_n 0, 1) := by decide +kernel
theorem dX0_lawAt_17 : decode cX0_lawAt 17 = .ok (.getfield 27, 3) := by decide +kernel
theorem dX0_lawAt_20 : decode cX0_lawAt 20 = .ok (.iload_n 1, 1) := by decide +kernel
theorem dX0_lawAt_21 : decode cX0_lawAt 21 = .ok (.aload_n 0, 1) := by decide +kernel
theorem dX0_lawAt_22 : decode cX0_lawAt 22 = .ok (.getfield 30, 3) := by decide +kernel
theorem dX0_lawAt_25 : decode cX0_lawAt 25 = .ok (.irem, 1) := by decide +kernel
theorem dX0_lawAt_26 : decode cX0_lawAt 26 = .ok (.iaload, 1) := by decide +kernel
theorem dX0_lawAt_27 : decode cX0_lawAt 27 = .ok (.ireturn, 1) := by decide +kernel
theorem dX0_warmestPlace_0 : decode cX0_warmestPlace 0 = .ok (.iconst 0, 1) := by decide +kernel
theorem dX0_warmestPlace_1 : decode cX0_warmestPlace 1 = .ok (.istore_n 1, 1) := by decide +kernel
theorem dX0_warmestPlace_2 : decode cX0_warmestPlace 2 = .ok (.iconst 1, 1) := by decide +kernel
theorem dX0_warmestPlace_3 : decode cX0_warmestPlace 3 = .ok (.istore_n 2, 1) := by decide +kernel
theorem dX0_warmestPlace_4 : decode cX0_warmestPlace 4 = .ok (.iload_n 2, 1) := by decide +kernel
theorem dX0_warmestPlace_5 : decode cX0_warmestPlace 5 = .ok (.aload_n 0, 1) := by decide +kernel
theorem dX0_warmestPlace_6 : decode cX0_warmestPlace 6 = .ok (.getfield 34, 3) := by decide +kernel
theorem dX0_warmestPlace_9 : decode cX0_warmestPlace 9 = .ok (.if_icmp .ge 26, 3) := by decide +kernel
theorem dX0_warmestPlace_12 : decode cX0_warmestPlace 12 = .ok (.aload_n 0, 1) := by decide +kernel
theorem dX0_warmestPlace_13 : decode cX0_warmestPlace 13 = .ok (.getfield 9, 3) := by decide +kernel
theorem dX0_warmestPlace_16 : decode cX0_warmestPlace 16 = .ok (.iload_n 2, 1) := by decide +kernel
theorem dX0_warmestPlace_17 : decode cX0_warmestPlace 17 = .ok (.iaload, 1) := by decide +kernel
theorem dX0_warmestPlace_18 : decode cX0_warmestPlace 18 = .ok (.aload_n 0, 1) := by decide +kernel
theorem dX0_warmestPlace_19 : decode cX0_warmestPlace 19 = .ok (.getfield 9, 3) := by decide +kernel
theorem dX0_warmestPlace_22 : decode cX0_warmestPlace 22 = .ok (.iload_n 1, 1) := by decide +kernel
theorem dX0_warmestPlace_23 : decode cX0_warmestPlace 23 = .ok (.iaload, 1) := by decide +kernel
theorem dX0_warmestPlace_24 : decode cX0_warmestPlace 24 = .ok (.if_icmp .le 5, 3) := by decide +kernel
theorem dX0_warmestPlace_27 : decode cX0_warmestPlace 27 = .ok (.iload_n 2, 1) := by decide +kernel
theorem dX0_warmestPlace_28 : decode cX0_warmestPlace 28 = .ok (.istore_n 1, 1) := by decide +kernel
theorem dX0_warmestPlace_29 : decode cX0_warmestPlace 29 = .ok (.iinc 2 1, 3) := by decide +kernel
theorem dX0_warmestPlace_32 : decode cX0_warmestPlace 32 = .ok (.goto (-28), 3) := by decide +kernel
theorem dX0_warmestPlace_35 : decode cX0_warmestPlace 35 = .ok (.iload_n 1, 1) := by decide +kernel
theorem dX0_warmestPlace_36 : decode cX0_warmestPlace 36 = .ok (.ireturn, 1) := by decide +kernel
theorem dX0_turned_0 : decode cX0_turned 0 = .ok (.aload_n 0, 1) := by decide +kernel
theorem dX0_turned_1 : decode cX0_turned 1 = .ok (.getfield 34, 3) := by decide +kernel
theorem dX0_turned_4 : decode cX0_turned 4 = .ok (.iconst 1, 1) := by decide +kernel
theorem dX0_turned_5 : decode cX0_turned 5 = .ok (.isub, 1) := by decide +kernel
theorem dX0_turned_6 : decode cX0_turned 6 = .ok (.istore_n 3, 1) := by decide +kernel
theorem dX0_turned_7 : decode cX0_turned 7 = .ok (.iload_n 2, 1) := by decide +kernel
theorem dX0_turned_8 : decode cX0_turned 8 = .ok (.tableswitch 72 1 3 #[28, 41, 53], 28) := by decide +kernel
theorem dX0_turned_36 : decode cX0_turned 36 = .ok (.iload_n 1, 1) := by decide +kernel
theorem dX0_turned_37 : decode cX0_turned 37 = .ok (.iload_n 3, 1) := by decide +kernel
theorem dX0_turned_38 : decode cX0_turned 38 = .ok (.if_icmp .ne 7, 3) := by decide +kernel
theorem dX0_turned_41 : decode cX0_turned 41 = .ok (.iconst 0, 1) := by decide +kernel
theorem dX0_turned_42 : decode cX0_turned 42 = .ok (.goto 6, 3) := by decide +kernel
theorem dX0_turned_45 : decode cX0_turned 45 = .ok (.iload_n 1, 1) := by decide +kernel
theorem dX0_turned_46 : decode cX0_turned 46 = .ok (.iconst 1, 1) := by decide +kernel
theorem dX0_turned_47 : decode cX0_turned 47 = .ok (.iadd, 1) := by decide +kernel
theorem dX0_turned_48 : decode cX0_turned 48 = .ok (.ireturn, 1) := by decide +kernel
theorem dX0_turned_49 : decode cX0_turned 49 = .ok (.iload_n 1, 1) := by decide +kernel
theorem dX0_turned_50 : decode cX0_turned 50 = .ok (.ifCond .ne 7, 3) := by decide +kernel
theorem dX0_turned_53 : decode cX0_turned 53 = .ok (.iload_n 3, 1) := by decide +kernel
theorem dX0_turned_54 : decode cX0_turned 54 = .ok (.goto 6, 3) := by decide +kernel
theorem dX0_turned_57 : decode cX0_turned 57 = .ok (.iload_n 1, 1) := by decide +kernel
theorem dX0_turned_58 : decode cX0_turned 58 = .ok (.iconst 1, 1) := by decide +kernel
theorem dX0_turned_59 : decode cX0_turned 59 = .ok (.isub, 1) := by decide +kernel
theorem dX0_turned_60 : decode cX0_turned 60 = .ok (.ireturn, 1) := by decide +kernel
theorem dX0_turned_61 : decode cX0_turned 61 = .ok (.iload_n 1, 1) := by decide +kernel
theorem dX0_turned_62 : decode cX0_turned 62 = .ok (.ifCond .ne 7, 3) := by decide +kernel
theorem dX0_turned_65 : decode cX0_turned 65 = .ok (.iload_n 3, 1) := by decide +kernel
theorem dX0_turned_66 : decode cX0_turned 66 = .ok (.goto 13, 3) := by decide +kernel
theorem dX0_turned_69 : decode cX0_turned 69 = .ok (.iload_n 1, 1) := by decide +kernel
theorem dX0_turned_70 : decode cX0_turned 70 = .ok (.iload_n 3, 1) := by decide +kernel
theorem dX0_turned_71 : decode cX0_turned 71 = .ok (.if_icmp .ne 7, 3) := by decide +kernel
theorem dX0_turned_74 : decode cX0_turned 74 = .ok (.iconst 0, 1) := by decide +kernel
theorem dX0_turned_75 : decode cX0_turned 75 = .ok (.goto 4, 3) := by decide +kernel
theorem dX0_turned_78 : decode cX0_turned 78 = .ok (.iload_n 1, 1) := by decide +kernel
theorem dX0_turned_79 : decode cX0_turned 79 = .ok (.ireturn, 1) := by decide +kernel
theorem dX0_turned_80 : decode cX0_turned 80 = .ok (.iload_n 1, 1) := by decide +kernel
theorem dX0_turned_81 : decode cX0_turned 81 = .ok (.ireturn, 1) := by decide +kernel
theorem dX0_unlike_0 : decode cX0_unlike 0 = .ok (.iconst 0, 1) := by decide +kernel
theorem dX0_unlike_1 : decode cX0_unlike 1 = .ok (.istore_n 2, 1) := by decide +kernel
theorem dX0_unlike_2 : decode cX0_unlike 2 = .ok (.iconst 0, 1) := by decide +kernel
theorem dX0_unlike_3 : decode cX0_unlike 3 = .ok (.istore_n 3, 1) := by decide +kernel
theorem dX0_unlike_4 : decode cX0_unlike 4 = .ok (.iload_n 3, 1) := by decide +kernel
theorem dX0_unlike_5 : decode cX0_unlike 5 = .ok (.aload_n 0, 1) := by decide +kernel
theorem dX0_unlike_6 : decode cX0_unlike 6 = .ok (.getfield 41, 3) := by decide +kernel
theorem dX0_unlike_9 : decode cX0_unlike 9 = .ok (.if_icmp .ge 37, 3) := by decide +kernel
theorem dX0_unlike_12 : decode cX0_unlike 12 = .ok (.iload_n 2, 1) := by decide +kernel
theorem dX0_unlike_13 : decode cX0_unlike 13 = .ok (.iload_n 1, 1) := by decide +kernel
theorem dX0_unlike_14 : decode cX0_unlike 14 = .ok (.iload_n 3, 1) := by decide +kernel
theorem dX0_unlike_15 : decode cX0_unlike 15 = .ok (.ishr, 1) := by decide +kernel
theorem dX0_unlike_16 : decode cX0_unlike 16 = .ok (.iconst 1, 1) := by decide +kernel
theorem dX0_unlike_17 : decode cX0_unlike 17 = .ok (.iand, 1) := by decide +kernel
theorem dX0_unlike_18 : decode cX0_unlike 18 = .ok (.iconst 1, 1) := by decide +kernel
theorem dX0_unlike_19 : decode cX0_unlike 19 = .ok (.if_icmp .ne 12, 3) := by decide +kernel
theorem dX0_unlike_22 : decode cX0_unlike 22 = .ok (.aload_n 0, 1) := by decide +kernel
theorem dX0_unlike_23 : decode cX0_unlike 23 = .ok (.getfield 18, 3) := by decide +kernel
theorem dX0_unlike_26 : decode cX0_unlike 26 = .ok (.iload_n 3, 1) := by decide +kernel
theorem dX0_unlike_27 : decode cX0_unlike 27 = .ok (.iaload, 1) := by decide +kernel
theorem dX0_unlike_28 : decode cX0_unlike 28 = .ok (.goto 10, 3) := by decide +kernel
theorem dX0_unlike_31 : decode cX0_unlike 31 = .ok (.aload_n 0, 1) := by decide +kernel
theorem dX0_unlike_32 : decode cX0_unlike 32 = .ok (.getfield 18, 3) := by decide +kernel
theorem dX0_unlike_35 : decode cX0_unlike 35 = .ok (.iload_n 3, 1) := by decide +kernel
theorem dX0_unlike_36 : decode cX0_unlike 36 = .ok (.iaload, 1) := by decide +kernel
theorem dX0_unlike_37 : decode cX0_unlike 37 = .ok (.ineg, 1) := by decide +kernel
theorem dX0_unlike_38 : decode cX0_unlike 38 = .ok (.iadd, 1) := by decide +kernel
theorem dX0_unlike_39 : decode cX0_unlike 39 = .ok (.istore_n 2, 1) := by decide +kernel
theorem dX0_unlike_40 : decode cX0_unlike 40 = .ok (.iinc 3 1, 3) := by decide +kernel
theorem dX0_unlike_43 : decode cX0_unlike 43 = .ok (.goto (-39), 3) := by decide +kernel
theorem dX0_unlike_46 : decode cX0_unlike 46 = .ok (.iload_n 2, 1) := by decide +kernel
theorem dX0_unlike_47 : decode cX0_unlike 47 = .ok (.invokestatic 50, 3) := by decide +kernel
theorem dX0_unlike_50 : decode cX0_unlike 50 = .ok (.ireturn, 1) := by decide +kernel
theorem dX1_init_0 : decode cX1_init 0 = .ok (.aload_n 0, 1) := by decide +kernel
theorem dX1_init_1 : decode cX1_init 1 = .ok (.invokespecial 3, 3) := by decide +kernel
theorem dX1_init_4 : decode cX1_init 4 = .ok (.aload_n 0, 1) := by decide +kernel
theorem dX1_init_5 : decode cX1_init 5 = .ok (.bipush 20, 2) := by decide +kernel
theorem dX1_init_7 : decode cX1_init 7 = .ok (.newarray .int, 2) := by decide +kernel
theorem dX1_init_9 : decode cX1_init 9 = .ok (.putfield 9, 3) := by decide +kernel
theorem dX1_init_12 : decode cX1_init 12 = .ok (.return_, 1) := by decide +kernel
theorem dX1_empty_0 : decode cX1_empty 0 = .ok (.aload_n 0, 1) := by decide +kernel
theorem dX1_empty_1 : decode cX1_empty 1 = .ok (.iconst 0, 1) := by decide +kernel
theorem dX1_empty_2 : decode cX1_empty 2 = .ok (.putfield 15, 3) := by decide +kernel
theorem dX1_empty_5 : decode cX1_empty 5 = .ok (.return_, 1) := by decide +kernel
theorem dX1_add_0 : decode cX1_add 0 = .ok (.aload_n 0, 1) := by decide +kernel
theorem dX1_add_1 : decode cX1_add 1 = .ok (.getfield 15, 3) := by decide +kernel
theorem dX1_add_4 : decode cX1_add 4 = .ok (.bipush 20, 2) := by decide +kernel
theorem dX1_add_6 : decode cX1_add 6 = .ok (.if_icmp .lt 5, 3) := by decide +kernel
theorem dX1_add_9 : decode cX1_add 9 = .ok (.iconst 0, 1) := by decide +kernel
theorem dX1_add_10 : decode cX1_add 10 = .ok (.ireturn, 1) := by decide +kernel
theorem dX1_add_11 : decode cX1_add 11 = .ok (.aload_n 0, 1) := by decide +kernel
theorem dX1_add_12 : decode cX1_add 12 = .ok (.getfield 9, 3) := by decide +kernel
theorem dX1_add_15 : decode cX1_add 15 = .ok (.aload_n 0, 1) := by decide +kernel
theorem dX1_add_16 : decode cX1_add 16 = .ok (.getfield 15, 3) := by decide +kernel
theorem dX1_add_19 : decode cX1_add 19 = .ok (.iload_n 1, 1) := by decide +kernel
theorem dX1_add_20 : decode cX1_add 20 = .ok (.iastore, 1) := by decide +kernel
theorem dX1_add_21 : decode cX1_add 21 = .ok (.aload_n 0, 1) := by decide +kernel
theorem dX1_add_22 : decode cX1_add 22 = .ok (.dup, 1) := by decide +kernel
theorem dX1_add_23 : decode cX1_add 23 = .ok (.getfield 15, 3) := by decide +kernel
theorem dX1_add_26 : decode cX1_add 26 = .ok (.iconst 1, 1) := by decide +kernel
theorem dX1_add_27 : decode cX1_add 27 = .ok (.iadd, 1) := by decide +kernel
theorem dX1_add_28 : decode cX1_add 28 = .ok (.putfield 15, 3) := by decide +kernel
theorem dX1_add_31 : decode cX1_add 31 = .ok (.iconst 1, 1) := by decide +kernel
theorem dX1_add_32 : decode cX1_add 32 = .ok (.ireturn, 1) := by decide +kernel
theorem dX1_sayTo_0 : decode cX1_sayTo 0 = .ok (.iconst (-1), 1) := by decide +kernel
theorem dX1_sayTo_1 : decode cX1_sayTo 1 = .ok (.istore_n 2, 1) := by decide +kernel
theorem dX1_sayTo_2 : decode cX1_sayTo 2 = .ok (.iconst 0, 1) := by decide +kernel
theorem dX1_sayTo_3 : decode cX1_sayTo 3 = .ok (.istore_n 3, 1) := by decide +kernel
theorem dX1_sayTo_4 : decode cX1_sayTo 4 = .ok (.iload_n 3, 1) := by decide +kernel
theorem dX1_sayTo_5 : decode cX1_sayTo 5 = .ok (.aload_n 0, 1) := by decide +kernel
theorem dX1_sayTo_6 : decode cX1_sayTo 6 = .ok (.getfield 15, 3) := by decide +kernel
theorem dX1_sayTo_9 : decode cX1_sayTo 9 = .ok (.if_icmp .ge 33, 3) := by decide +kernel
theorem dX1_sayTo_12 : decode cX1_sayTo 12 = .ok (.aload_n 1, 1) := by decide +kernel
theorem dX1_sayTo_13 : decode cX1_sayTo 13 = .ok (.aload_n 0, 1) := by decide +kernel
theorem dX1_sayTo_14 : decode cX1_sayTo 14 = .ok (.getfield 9, 3) := by decide +kernel
theorem dX1_sayTo_17 : decode cX1_sayTo 17 = .ok (.iload_n 3, 1) := by decide +kernel
theorem dX1_sayTo_18 : decode cX1_sayTo 18 = .ok (.iaload, 1) := by decide +kernel
theorem dX1_sayTo_19 : decode cX1_sayTo 19 = .ok (.invokevirtual 19, 3) := by decide +kernel
theorem dX1_sayTo_22 : decode cX1_sayTo 22 = .ok (.iload_n 2, 1) := by decide +kernel
theorem dX1_sayTo_23 : decode cX1_sayTo 23 = .ok (.iconst (-1), 1) := by decide +kernel
theorem dX1_sayTo_24 : decode cX1_sayTo 24 = .ok (.if_icmp .ne 12, 3) := by decide +kernel
theorem dX1_sayTo_27 : decode cX1_sayTo 27 = .ok (.aload_n 1, 1) := by decide +kernel
theorem dX1_sayTo_28 : decode cX1_sayTo 28 = .ok (.invokevirtual 25, 3) := by decide +kernel
theorem dX1_sayTo_31 : decode cX1_sayTo 31 = .ok (.ifCond .eq 5, 3) := by decide +kernel
theorem dX1_sayTo_34 : decode cX1_sayTo 34 = .ok (.iload_n 3, 1) := by decide +kernel
theorem dX1_sayTo_35 : decode cX1_sayTo 35 = .ok (.istore_n 2, 1) := by decide +kernel
theorem dX1_sayTo_36 : decode cX1_sayTo 36 = .ok (.iinc 3 1, 3) := by decide +kernel
theorem dX1_sayTo_39 : decode cX1_sayTo 39 = .ok (.goto (-35), 3) := by decide +kernel
theorem dX1_sayTo_42 : decode cX1_sayTo 42 = .ok (.iload_n 2, 1) := by decide +kernel
theorem dX1_sayTo_43 : decode cX1_sayTo 43 = .ok (.ireturn, 1) := by decide +kernel
theorem dX2_init_0 : decode cX2_init 0 = .ok (.aload_n 0, 1) := by decide +kernel
theorem dX2_init_1 : decode cX2_init 1 = .ok (.invokespecial 1, 3) := by decide +kernel
theorem dX2_init_4 : decode cX2_init 4 = .ok (.return_, 1) := by decide +kernel
theorem dX2_take_0 : decode cX2_take 0 = .ok (.aload_n 0, 1) := by decide +kernel
theorem dX2_take_1 : decode cX2_take 1 = .ok (.iconst 1, 1) := by decide +kernel
theorem dX2_take_2 : decode cX2_take 2 = .ok (.putfield 7, 3) := by decide +kernel
theorem dX2_take_5 : decode cX2_take 5 = .ok (.aload_n 0, 1) := by decide +kernel
theorem dX2_take_6 : decode cX2_take 6 = .ok (.aload_n 1, 1) := by decide +kernel
theorem dX2_take_7 : decode cX2_take 7 = .ok (.invokevirtual 13, 3) := by decide +kernel
theorem dX2_take_10 : decode cX2_take 10 = .ok (.putfield 19, 3) := by decide +kernel
theorem dX2_take_13 : decode cX2_take 13 = .ok (.aload_n 0, 1) := by decide +kernel
theorem dX2_take_14 : decode cX2_take 14 = .ok (.aload_n 1, 1) := by decide +kernel
theorem dX2_take_15 : decode cX2_take 15 = .ok (.getfield 22, 3) := by decide +kernel
theorem dX2_take_18 : decode cX2_take 18 = .ok (.putfield 26, 3) := by decide +kernel
theorem dX2_take_21 : decode cX2_take 21 = .ok (.aload_n 0, 1) := by decide +kernel
theorem dX2_take_22 : decode cX2_take 22 = .ok (.iload_n 2, 1) := by decide +kernel
theorem dX2_take_23 : decode cX2_take 23 = .ok (.putfield 27, 3) := by decide +kernel
theorem dX2_take_26 : decode cX2_take 26 = .ok (.return_, 1) := by decide +kernel
theorem dX3_init_0 : decode cX3_init 0 = .ok (.aload_n 0, 1) := by decide +kernel
theorem dX3_init_1 : decode cX3_init 1 = .ok (.invokespecial 3, 3) := by decide +kernel
theorem dX3_init_4 : decode cX3_init 4 = .ok (.aload_n 0, 1) := by decide +kernel
theorem dX3_init_5 : decode cX3_init 5 = .ok (.bipush 6, 2) := by decide +kernel
theorem dX3_init_7 : decode cX3_init 7 = .ok (.newarray .int, 2) := by decide +kernel
theorem dX3_init_9 : decode cX3_init 9 = .ok (.putfield 9, 3) := by decide +kernel
theorem dX3_init_12 : decode cX3_init 12 = .ok (.aload_n 0, 1) := by decide +kernel
theorem dX3_init_13 : decode cX3_init 13 = .ok (.bipush 6, 2) := by decide +kernel
theorem dX3_init_15 : decode cX3_init 15 = .ok (.newarray .int, 2) := by decide +kernel
theorem dX3_init_17 : decode cX3_init 17 = .ok (.putfield 15, 3) := by decide +kernel
theorem dX3_init_20 : decode cX3_init 20 = .ok (.aload_n 0, 1) := by decide +kernel
theorem dX3_init_21 : decode cX3_init 21 = .ok (.bipush 6, 2) := by decide +kernel
theorem dX3_init_23 : decode cX3_init 23 = .ok (.newarray .int, 2) := by decide +kernel
theorem dX3_init_25 : decode cX3_init 25 = .ok (.putfield 18, 3) := by decide +kernel
theorem dX3_init_28 : decode cX3_init 28 = .ok (.aload_n 0, 1) := by decide +kernel
theorem dX3_init_29 : decode cX3_init 29 = .ok (.bipush 6, 2) := by decide +kernel
theorem dX3_init_31 : decode cX3_init 31 = .ok (.newarray .int, 2) := by decide +kernel
theorem dX3_init_33 : decode cX3_init 33 = .ok (.putfield 21, 3) := by decide +kernel
theorem dX3_init_36 : decode cX3_init 36 = .ok (.aload_n 0, 1) := by decide +kernel
theorem dX3_init_37 : decode cX3_init 37 = .ok (.bipush 36, 2) := by decide +kernel
theorem dX3_init_39 : decode cX3_init 39 = .ok (.newarray .int, 2) := by decide +kernel
theorem dX3_init_41 : decode cX3_init 41 = .ok (.putfield 24, 3) := by decide +kernel
theorem dX3_init_44 : decode cX3_init 44 = .ok (.aload_n 0, 1) := by decide +kernel
theorem dX3_init_45 : decode cX3_init 45 = .ok (.aload_n 1, 1) := by decide +kernel
theorem dX3_init_46 : decode cX3_init 46 = .ok (.putfield 27, 3) := by decide +kernel
theorem dX3_init_49 : decode cX3_init 49 = .ok (.return_, 1) := by decide +kernel
theorem dX3_seek_0 : decode cX3_seek 0 = .ok (.aload_n 0, 1) := by decide +kernel
theorem dX3_seek_1 : decode cX3_seek 1 = .ok (.iconst (-1), 1) := by decide +kernel
theorem dX3_seek_2 : decode cX3_seek 2 = .ok (.putfield 31, 3) := by decide +kernel
theorem dX3_seek_5 : decode cX3_seek 5 = .ok (.aload_n 0, 1) := by decide +kernel
theorem dX3_seek_6 : decode cX3_seek 6 = .ok (.iconst 0, 1) := by decide +kernel
theorem dX3_seek_7 : decode cX3_seek 7 = .ok (.putfield 35, 3) := by decide +kernel
theorem dX3_seek_10 : decode cX3_seek 10 = .ok (.iconst 0, 1) := by decide +kernel
theorem dX3_seek_11 : decode cX3_seek 11 = .ok (.istore_n 3, 1) := by decide +kernel
theorem dX3_seek_12 : decode cX3_seek 12 = .ok (.iload_n 3, 1) := by decide +kernel
theorem dX3_seek_13 : decode cX3_seek 13 = .ok (.aload_n 1, 1) := by decide +kernel
theorem dX3_seek_14 : decode cX3_seek 14 = .ok (.getfield 38, 3) := by decide +kernel
theorem dX3_seek_17 : decode cX3_seek 17 = .ok (.getfield 44, 3) := by decide +kernel
theorem dX3_seek_20 : decode cX3_seek 20 = .ok (.if_icmp .ge 39, 3) := by decide +kernel
theorem dX3_seek_23 : decode cX3_seek 23 = .ok (.aload_n 1, 1) := by decide +kernel
theorem dX3_seek_24 : decode cX3_seek 24 = .ok (.getfield 49, 3) := by decide +kernel
theorem dX3_seek_27 : decode cX3_seek 27 = .ok (.iload_n 3, 1) := by decide +kernel
theorem dX3_seek_28 : decode cX3_seek 28 = .ok (.iaload, 1) := by decide +kernel
theorem dX3_seek_29 : decode cX3_seek 29 = .ok (.iconst (-1), 1) := by decide +kernel
theorem dX3_seek_30 : decode cX3_seek 30 = .ok (.if_icmp .eq 23, 3) := by decide +kernel
theorem dX3_seek_33 : decode cX3_seek 33 = .ok (.aload_n 0, 1) := by decide +kernel
theorem dX3_seek_34 : decode cX3_seek 34 = .ok (.getfield 9, 3) := by decide +kernel
theorem dX3_seek_37 : decode cX3_seek 37 = .ok (.aload_n 0, 1) := by decide +kernel
theorem dX3_seek_38 : decode cX3_seek 38 = .ok (.getfield 35, 3) := by decide +kernel
theorem dX3_seek_41 : decode cX3_seek 41 = .ok (.iload_n 3, 1) := by decide +kernel
theorem dX3_seek_42 : decode cX3_seek 42 = .ok (.iastore, 1) := by decide +kernel
theorem dX3_seek_43 : decode cX3_seek 43 = .ok (.aload_n 0, 1) := by decide +kernel
theorem dX3_seek_44 : decode cX3_seek 44 = .ok (.dup, 1) := by decide +kernel
theorem dX3_seek_45 : decode cX3_seek 45 = .ok (.getfield 35, 3) := by decide +kernel
theorem dX3_seek_48 : decode cX3_seek 48 = .ok (.iconst 1, 1) := by decide +kernel
theorem dX3_seek_49 : decode cX3_seek 49 = .ok (.iadd, 1) := by decide +kernel
theorem dX3_seek_50 : decode cX3_seek 50 = .ok (.putfield 35, 3) := by decide +kernel
theorem dX3_seek_53 : decode cX3_seek 53 = .ok (.iinc 3 1, 3) := by decide +kernel
theorem dX3_seek_56 : decode cX3_seek 56 = .ok (.goto (-44), 3) := by decide +kernel
theorem dX3_seek_59 : decode cX3_seek 59 = .ok (.aload_n 0, 1) := by decide +kernel
theorem dX3_seek_60 : decode cX3_seek 60 = .ok (.getfield 35, 3) := by decide +kernel
theorem dX3_seek_63 : decode cX3_seek 63 = .ok (.ifCond .le 14, 3) := by decide +kernel
theorem dX3_seek_66 : decode cX3_seek 66 = .ok (.aload_n 0, 1) := by decide +kernel
theorem dX3_seek_67 : decode cX3_seek 67 = .ok (.aload_n 1, 1) := by decide +kernel
theorem dX3_seek_68 : decode cX3_seek 68 = .ok (.iconst 0, 1) := by decide +kernel
theorem dX3_seek_69 : decode cX3_seek 69 = .ok (.aload_n 1, 1) := by decide +kernel
theorem dX3_seek_70 : decode cX3_seek 70 = .ok (.invokevirtual 52, 3) := by decide +kernel
theorem dX3_seek_73 : decode cX3_seek 73 = .ok (.iload_n 2, 1) := by decide +kernel
theorem dX3_seek_74 : decode cX3_seek 74 = .ok (.invokestatic 56, 3) := by decide +kernel
theorem dX3_seek_77 : decode cX3_seek 77 = .ok (.return_, 1) := by decide +kernel
theorem dX3_tryOrders_0 : decode cX3_tryOrders 0 = .ok (.iload_n 2, 1) := by decide +kernel
theorem dX3_tryOrders_1 : decode cX3_tryOrders 1 = .ok (.aload_n 0, 1) := by decide +kernel
theorem dX3_tryOrders_2 : decode cX3_tryOrders 2 = .ok (.getfield 35, 3) := by decide +kernel
theorem dX3_tryOrders_5 : decode cX3_tryOrders 5 = .ok (.if_icmp .ge 9, 3) := by decide +kernel
theorem dX3_tryOrders_8 : decode cX3_tryOrders 8 = .ok (.iload_n 2, 1) := by decide +kernel
theorem dX3_tryOrders_9 : decode cX3_tryOrders 9 = .ok (.bipush 6, 2) := by decide +kernel
theorem dX3_tryOrders_11 : decode cX3_tryOrders 11 = .ok (.if_icmp .lt 11, 3) := by decide +kernel
theorem dX3_tryOrders_14 : decode cX3_tryOrders 14 = .ok (.aload_n 0, 1) := by decide +kernel
theorem dX3_tryOrders_15 : decode cX3_tryOrders 15 = .ok (.aload_n 1, 1) := by decide +kernel
theorem dX3_tryOrders_16 : decode cX3_tryOrders 16 = .ok (.iload 4, 2) := by decide +kernel
theorem dX3_tryOrders_18 : decode cX3_tryOrders 18 = .ok (.invokevirtual 60, 3) := by decide +kernel
theorem dX3_tryOrders_21 : decode cX3_tryOrders 21 = .ok (.return_, 1) := by decide +kernel
theorem dX3_tryOrders_22 : decode cX3_tryOrders 22 = .ok (.iconst 0, 1) := by decide +kernel
theorem dX3_tryOrders_23 : decode cX3_tryOrders 23 = .ok (.istore 5, 2) := by decide +kernel
theorem dX3_tryOrders_25 : decode cX3_tryOrders 25 = .ok (.iload 5, 2) := by decide +kernel
theorem dX3_tryOrders_27 : decode cX3_tryOrders 27 = .ok (.bipush 6, 2) := by decide +kernel
theorem dX3_tryOrders_29 : decode cX3_tryOrders 29 = .ok (.if_icmp .ge 45, 3) := by decide +kernel
theorem dX3_tryOrders_32 : decode cX3_tryOrders 32 = .ok (.iload_n 3, 1) := by decide +kernel
theorem dX3_tryOrders_33 : decode cX3_tryOrders 33 = .ok (.iload 5, 2) := by decide +kernel
theorem dX3_tryOrders_35 : decode cX3_tryOrders 35 = .ok (.ishr, 1) := by decide +kernel
theorem dX3_tryOrders_36 : decode cX3_tryOrders 36 = .ok (.iconst 1, 1) := by decide +kernel
theorem dX3_tryOrders_37 : decode cX3_tryOrders 37 = .ok (.iand, 1) := by decide +kernel
theorem dX3_tryOrders_38 : decode cX3_tryOrders 38 = .ok (.iconst 1, 1) := by decide +kernel
theorem dX3_tryOrders_39 : decode cX3_tryOrders 39 = .ok (.if_icmp .ne 29, 3) := by decide +kernel
theorem dX3_tryOrders_42 : decode cX3_tryOrders 42 = .ok (.aload_n 0, 1) := by decide +kernel
theorem dX3_tryOrders_43 : decode cX3_tryOrders 43 = .ok (.getfield 15, 3) := by decide +kernel
theorem dX3_tryOrders_46 : decode cX3_tryOrders 46 = .ok (.iload_n 2, 1) := by decide +kernel
theorem dX3_tryOrders_47 : decode cX3_tryOrders 47 = .ok (.iload 5, 2) := by decide +kernel
theorem dX3_tryOrders_49 : decode cX3_tryOrders 49 = .ok (.iastore, 1) := by decide +kernel
theorem dX3_tryOrders_50 : decode cX3_tryOrders 50 = .ok (.aload_n 0, 1) := by decide +kernel
theorem dX3_tryOrders_51 : decode cX3_tryOrders 51 = .ok (.aload_n 1, 1) := by decide +kernel
theorem dX3_tryOrders_52 : decode cX3_tryOrders 52 = .ok (.iload_n 2, 1) := by decide +kernel
theorem dX3_tryOrders_53 : decode cX3_tryOrders 53 = .ok (.iconst 1, 1) := by decide +kernel
theorem dX3_tryOrders_54 : decode cX3_tryOrders 54 = .ok (.iadd, 1) := by decide +kernel
theorem dX3_tryOrders_55 : decode cX3_tryOrders 55 = .ok (.iload_n 3, 1) := by decide +kernel
theorem dX3_tryOrders_56 : decode cX3_tryOrders 56 = .ok (.iconst 1, 1) := by decide +kernel
theorem dX3_tryOrders_57 : decode cX3_tryOrders 57 = .ok (.iload 5, 2) := by decide +kernel
theorem dX3_tryOrders_59 : decode cX3_tryOrders 59 = .ok (.ishl, 1) := by decide +kernel
theorem dX3_tryOrders_60 : decode cX3_tryOrders 60 = .ok (.iconst (-1), 1) := by decide +kernel
theorem dX3_tryOrders_61 : decode cX3_tryOrders 61 = .ok (.ixor, 1) := by decide +kernel
theorem dX3_tryOrders_62 : decode cX3_tryOrders 62 = .ok (.iand, 1) := by decide +kernel
theorem dX3_tryOrders_63 : decode cX3_tryOrders 63 = .ok (.iload 4, 2) := by decide +kernel
theorem dX3_tryOrders_65 : decode cX3_tryOrders 65 = .ok (.invokestatic 56, 3) := by decide +kernel
theorem dX3_tryOrders_68 : decode cX3_tryOrders 68 = .ok (.iinc 5 1, 3) := by decide +kernel
theorem dX3_tryOrders_71 : decode cX3_tryOrders 71 = .ok (.goto (-46), 3) := by decide +kernel
theorem dX3_tryOrders_74 : decode cX3_tryOrders 74 = .ok (.return_, 1) := by decide +kernel
theorem dX3_compare_0 : decode cX3_compare 0 = .ok (.aload_n 0, 1) := by decide +kernel
theorem dX3_compare_1 : decode cX3_compare 1 = .ok (.getfield 27, 3) := by decide +kernel
theorem dX3_compare_4 : decode cX3_compare 4 = .ok (.aload_n 1, 1) := by decide +kernel
theorem dX3_compare_5 : decode cX3_compare 5 = .ok (.invokevirtual 64, 3) := by decide +kernel
theorem dX3_compare_8 : decode cX3_compare 8 = .ok (.iconst 0, 1) := by decide +kernel
theorem dX3_compare_9 : decode cX3_compare 9 = .ok (.istore_n 3, 1) := by decide +kernel
theorem dX3_compare_10 : decode cX3_compare 10 = .ok (.iload_n 3, 1) := by decide +kernel
theorem dX3_compare_11 : decode cX3_compare 11 = .ok (.aload_n 0, 1) := by decide +kernel
theorem dX3_compare_12 : decode cX3_compare 12 = .ok (.getfield 35, 3) := by decide +kernel
theorem dX3_compare_15 : decode cX3_compare 15 = .ok (.if_icmp .ge 29, 3) := by decide +kernel
theorem dX3_compare_18 : decode cX3_compare 18 = .ok (.aload_n 0, 1) := by decide +kernel
theorem dX3_compare_19 : decode cX3_compare 19 = .ok (.getfield 27, 3) := by decide +kernel
theorem dX3_compare_22 : decode cX3_compare 22 = .ok (.getfield 49, 3) := by decide +kernel
theorem dX3_compare_25 : decode cX3_compare 25 = .ok (.aload_n 0, 1) := by decide +kernel
theorem dX3_compare_26 : decode cX3_compare 26 = .ok (.getfield 9, 3) := by decide +kernel
theorem dX3_compare_29 : decode cX3_compare 29 = .ok (.iload_n 3, 1) := by decide +kernel
theorem dX3_compare_30 : decode cX3_compare 30 = .ok (.iaload, 1) := by decide +kernel
theorem dX3_compare_31 : decode cX3_compare 31 = .ok (.aload_n 0, 1) := by decide +kernel
theorem dX3_compare_32 : decode cX3_compare 32 = .ok (.getfield 15, 3) := by decide +kernel
theorem dX3_compare_35 : decode cX3_compare 35 = .ok (.iload_n 3, 1) := by decide +kernel
theorem dX3_compare_36 : decode cX3_compare 36 = .ok (.iaload, 1) := by decide +kernel
theorem dX3_compare_37 : decode cX3_compare 37 = .ok (.iastore, 1) := by decide +kernel
theorem dX3_compare_38 : decode cX3_compare 38 = .ok (.iinc 3 1, 3) := by decide +kernel
theorem dX3_compare_41 : decode cX3_compare 41 = .ok (.goto (-31), 3) := by decide +kernel
theorem dX3_compare_44 : decode cX3_compare 44 = .ok (.aload_n 0, 1) := by decide +kernel
theorem dX3_compare_45 : decode cX3_compare 45 = .ok (.getfield 27, 3) := by decide +kernel
theorem dX3_compare_48 : decode cX3_compare 48 = .ok (.iload_n 2, 1) := by decide +kernel
theorem dX3_compare_49 : decode cX3_compare 49 = .ok (.invokevirtual 68, 3) := by decide +kernel
theorem dX3_compare_52 : decode cX3_compare 52 = .ok (.aload_n 0, 1) := by decide +kernel
theorem dX3_compare_53 : decode cX3_compare 53 = .ok (.getfield 27, 3) := by decide +kernel
theorem dX3_compare_56 : decode cX3_compare 56 = .ok (.invokevirtual 72, 3) := by decide +kernel
theorem dX3_compare_59 : decode cX3_compare 59 = .ok (.istore_n 3, 1) := by decide +kernel
theorem dX3_compare_60 : decode cX3_compare 60 = .ok (.iload_n 3, 1) := by decide +kernel
theorem dX3_compare_61 : decode cX3_compare 61 = .ok (.aload_n 0, 1) := by decide +kernel
theorem dX3_compare_62 : decode cX3_compare 62 = .ok (.getfield 31, 3) := by decide +kernel
theorem dX3_compare_65 : decode cX3_compare 65 = .ok (.if_icmp .le 23, 3) := by decide +kernel
theorem dX3_compare_68 : decode cX3_compare 68 = .ok (.aload_n 0, 1) := by decide +kernel
theorem dX3_compare_69 : decode cX3_compare 69 = .ok (.iload_n 3, 1) := by decide +kernel
theorem dX3_compare_70 : decode cX3_compare 70 = .ok (.putfield 31, 3) := by decide +kernel
theorem dX3_compare_73 : decode cX3_compare 73 = .ok (.aload_n 0, 1) := by decide +kernel
theorem dX3_compare_74 : decode cX3_compare 74 = .ok (.getfield 15, 3) := by decide +kernel
theorem dX3_compare_77 : decode cX3_compare 77 = .ok (.iconst 0, 1) := by decide +kernel
theorem dX3_compare_78 : decode cX3_compare 78 = .ok (.aload_n 0, 1) := by decide +kernel
theorem dX3_compare_79 : decode cX3_compare 79 = .ok (.getfield 18, 3) := by decide +kernel
theorem dX3_compare_82 : decode cX3_compare 82 = .ok (.iconst 0, 1) := by decide +kernel
theorem dX3_compare_83 : decode cX3_compare 83 = .ok (.bipush 6, 2) := by decide +kernel
theorem dX3_compare_85 : decode cX3_compare 85 = .ok (.invokestatic 74, 3) := by decide +kernel
theorem dX3_compare_88 : decode cX3_compare 88 = .ok (.return_, 1) := by decide +kernel
theorem dX3_seekPairs_0 : decode cX3_seekPairs 0 = .ok (.aload_n 0, 1) := by decide +kernel
theorem dX3_seekPairs_1 : decode cX3_seekPairs 1 = .ok (.getfield 27, 3) := by decide +kernel
theorem dX3_seekPairs_4 : decode cX3_seekPairs 4 = .ok (.aload_n 1, 1) := by decide +kernel
theorem dX3_seekPairs_5 : decode cX3_seekPairs 5 = .ok (.invokevirtual 64, 3) := by decide +kernel
theorem dX3_seekPairs_8 : decode cX3_seekPairs 8 = .ok (.aload_n 0, 1) := by decide +kernel
theorem dX3_seekPairs_9 : decode cX3_seekPairs 9 = .ok (.getfield 27, 3) := by decide +kernel
theorem dX3_seekPairs_12 : decode cX3_seekPairs 12 = .ok (.iconst 1, 1) := by decide +kernel
theorem dX3_seekPairs_13 : decode cX3_seekPairs 13 = .ok (.invokevirtual 68, 3) := by decide +kernel
theorem dX3_seekPairs_16 : decode cX3_seekPairs 16 = .ok (.aload_n 0, 1) := by decide +kernel
theorem dX3_seekPairs_17 : decode cX3_seekPairs 17 = .ok (.getfield 27, 3) := by decide +kernel
theorem dX3_seekPairs_20 : decode cX3_seekPairs 20 = .ok (.getfield 80, 3) := by decide +kernel
theorem dX3_seekPairs_23 : decode cX3_seekPairs 23 = .ok (.iconst 0, 1) := by decide +kernel
theorem dX3_seekPairs_24 : decode cX3_seekPairs 24 = .ok (.aload_n 0, 1) := by decide +kernel
theorem dX3_seekPairs_25 : decode cX3_seekPairs 25 = .ok (.getfield 21, 3) := by decide +kernel
theorem dX3_seekPairs_28 : decode cX3_seekPairs 28 = .ok (.iconst 0, 1) := by decide +kernel
theorem dX3_seekPairs_29 : decode cX3_seekPairs 29 = .ok (.bipush 6, 2) := by decide +kernel
theorem dX3_seekPairs_31 : decode cX3_seekPairs 31 = .ok (.invokestatic 74, 3) := by decide +kernel
theorem dX3_seekPairs_34 : decode cX3_seekPairs 34 = .ok (.aload_n 0, 1) := by decide +kernel
theorem dX3_seekPairs_35 : decode cX3_seekPairs 35 = .ok (.iconst 0, 1) := by decide +kernel
theorem dX3_seekPairs_36 : decode cX3_seekPairs 36 = .ok (.putfield 83, 3) := by decide +kernel
theorem dX3_seekPairs_39 : decode cX3_seekPairs 39 = .ok (.iconst 0, 1) := by decide +kernel
theorem dX3_seekPairs_40 : decode cX3_seekPairs 40 = .ok (.istore_n 2, 1) := by decide +kernel
theorem dX3_seekPairs_41 : decode cX3_seekPairs 41 = .ok (.iload_n 2, 1) := by decide +kernel
theorem dX3_seekPairs_42 : decode cX3_seekPairs 42 = .ok (.aload_n 1, 1) := by decide +kernel
theorem dX3_seekPairs_43 : decode cX3_seekPairs 43 = .ok (.getfield 38, 3) := by decide +kernel
theorem dX3_seekPairs_46 : decode cX3_seekPairs 46 = .ok (.getfield 86, 3) := by decide +kernel
theorem dX3_seekPairs_49 : decode cX3_seekPairs 49 = .ok (.if_icmp .ge 65, 3) := by decide +kernel
theorem dX3_seekPairs_52 : decode cX3_seekPairs 52 = .ok (.iload_n 2, 1) := by decide +kernel
theorem dX3_seekPairs_53 : decode cX3_seekPairs 53 = .ok (.iconst 1, 1) := by decide +kernel
theorem dX3_seekPairs_54 : decode cX3_seekPairs 54 = .ok (.iadd, 1) := by decide +kernel
theorem dX3_seekPairs_55 : decode cX3_seekPairs 55 = .ok (.istore_n 3, 1) := by decide +kernel
theorem dX3_seekPairs_56 : decode cX3_seekPairs 56 = .ok (.iload_n 3, 1) := by decide +kernel
theorem dX3_seekPairs_57 : decode cX3_seekPairs 57 = .ok (.aload_n 1, 1) := by decide +kernel
theorem dX3_seekPairs_58 : decode cX3_seekPairs 58 = .ok (.getfield 38, 3) := by decide +kernel
theorem dX3_seekPairs_61 : decode cX3_seekPairs 61 = .ok (.getfield 86, 3) := by decide +kernel
theorem dX3_seekPairs_64 : decode cX3_seekPairs 64 = .ok (.if_icmp .ge 44, 3) := by decide +kernel
theorem dX3_seekPairs_67 : decode cX3_seekPairs 67 = .ok (.aload_n 0, 1) := by decide +kernel
theorem dX3_seekPairs_68 : decode cX3_seekPairs 68 = .ok (.aload_n 1, 1) := by decide +kernel
theorem dX3_seekPairs_69 : decode cX3_seekPairs 69 = .ok (.iload_n 2, 1) := by decide +kernel
theorem dX3_seekPairs_70 : decode cX3_seekPairs 70 = .ok (.iload_n 3, 1) := by decide +kernel
theorem dX3_seekPairs_71 : decode cX3_seekPairs 71 = .ok (.invokevirtual 89, 3) := by decide +kernel
theorem dX3_seekPairs_74 : decode cX3_seekPairs 74 = .ok (.ifCond .eq 28, 3) := by decide +kernel
theorem dX3_seekPairs_77 : decode cX3_seekPairs 77 = .ok (.aload_n 0, 1) := by decide +kernel
theorem dX3_seekPairs_78 : decode cX3_seekPairs 78 = .ok (.getfield 24, 3) := by decide +kernel
theorem dX3_seekPairs_81 : decode cX3_seekPairs 81 = .ok (.aload_n 0, 1) := by decide +kernel
theorem dX3_seekPairs_82 : decode cX3_seekPairs 82 = .ok (.getfield 83, 3) := by decide +kernel
theorem dX3_seekPairs_85 : decode cX3_seekPairs 85 = .ok (.bipush 10, 2) := by decide +kernel
theorem dX3_seekPairs_87 : decode cX3_seekPairs 87 = .ok (.iload_n 2, 1) := by decide +kernel
theorem dX3_seekPairs_88 : decode cX3_seekPairs 88 = .ok (.imul, 1) := by decide +kernel
theorem dX3_seekPairs_89 : decode cX3_seekPairs 89 = .ok (.iload_n 3, 1) := by decide +kernel
theorem dX3_seekPairs_90 : decode cX3_seekPairs 90 = .ok (.iadd, 1) := by decide +kernel
theorem dX3_seekPairs_91 : decode cX3_seekPairs 91 = .ok (.iastore, 1) := by decide +kernel
theorem dX3_seekPairs_92 : decode cX3_seekPairs 92 = .ok (.aload_n 0, 1) := by decide +kernel
theorem dX3_seekPairs_93 : decode cX3_seekPairs 93 = .ok (.dup, 1) := by decide +kernel
theorem dX3_seekPairs_94 : decode cX3_seekPairs 94 = .ok (.getfield 83, 3) := by decide +kernel
theorem dX3_seekPairs_97 : decode cX3_seekPairs 97 = .ok (.iconst 1, 1) := by decide +kernel
theorem dX3_seekPairs_98 : decode cX3_seekPairs 98 = .ok (.iadd, 1) := by decide +kernel
theorem dX3_seekPairs_99 : decode cX3_seekPairs 99 = .ok (.putfield 83, 3) := by decide +kernel
theorem dX3_seekPairs_102 : decode cX3_seekPairs 102 = .ok (.iinc 3 1, 3) := by decide +kernel
theorem dX3_seekPairs_105 : decode cX3_seekPairs 105 = .ok (.goto (-49), 3) := by decide +kernel
theorem dX3_seekPairs_108 : decode cX3_seekPairs 108 = .ok (.iinc 2 1, 3) := by decide +kernel
theorem dX3_seekPairs_111 : decode cX3_seekPairs 111 = .ok (.goto (-70), 3) := by decide +kernel
theorem dX3_seekPairs_114 : decode cX3_seekPairs 114 = .ok (.return_, 1) := by decide +kernel
theorem dX3_bothWarmer_0 : decode cX3_bothWarmer 0 = .ok (.aload_n 1, 1) := by decide +kernel
theorem dX3_bothWarmer_1 : decode cX3_bothWarmer 1 = .ok (.iload_n 2, 1) := by decide +kernel
theorem dX3_bothWarmer_2 : decode cX3_bothWarmer 2 = .ok (.invokevirtual 93, 3) := by decide +kernel
theorem dX3_bothWarmer_5 : decode cX3_bothWarmer 5 = .ok (.istore 4, 2) := by decide +kernel
theorem dX3_bothWarmer_7 : decode cX3_bothWarmer 7 = .ok (.aload_n 1, 1) := by decide +kernel
theorem dX3_bothWarmer_8 : decode cX3_bothWarmer 8 = .ok (.iload_n 3, 1) := by decide +kernel
theorem dX3_bothWarmer_9 : decode cX3_bothWarmer 9 = .ok (.invokevirtual 93, 3) := by decide +kernel
theorem dX3_bothWarmer_12 : decode cX3_bothWarmer 12 = .ok (.istore 5, 2) := by decide +kernel
theorem dX3_bothWarmer_14 : decode cX3_bothWarmer 14 = .ok (.iload 4, 2) := by decide +kernel
theorem dX3_bothWarmer_16 : decode cX3_bothWarmer 16 = .ok (.iconst (-1), 1) := by decide +kernel
theorem dX3_bothWarmer_17 : decode cX3_bothWarmer 17 = .ok (.if_icmp .eq 9, 3) := by decide +kernel
theorem dX3_bothWarmer_20 : decode cX3_bothWarmer 20 = .ok (.iload 5, 2) := by decide +kernel
theorem dX3_bothWarmer_22 : decode cX3_bothWarmer 22 = .ok (.iconst (-1), 1) := by decide +kernel
theorem dX3_bothWarmer_23 : decode cX3_bothWarmer 23 = .ok (.if_icmp .ne 5, 3) := by decide +kernel
theorem dX3_bothWarmer_26 : decode cX3_bothWarmer 26 = .ok (.iconst 0, 1) := by decide +kernel
theorem dX3_bothWarmer_27 : decode cX3_bothWarmer 27 = .ok (.ireturn, 1) := by decide +kernel
theorem dX3_bothWarmer_28 : decode cX3_bothWarmer 28 = .ok (.aload_n 0, 1) := by decide +kernel
theorem dX3_bothWarmer_29 : decode cX3_bothWarmer 29 = .ok (.getfield 27, 3) := by decide +kernel
theorem dX3_bothWarmer_32 : decode cX3_bothWarmer 32 = .ok (.aload_n 1, 1) := by decide +kernel
theorem dX3_bothWarmer_33 : decode cX3_bothWarmer 33 = .ok (.invokevirtual 64, 3) := by decide +kernel
theorem dX3_bothWarmer_36 : decode cX3_bothWarmer 36 = .ok (.aload_n 0, 1) := by decide +kernel
theorem dX3_bothWarmer_37 : decode cX3_bothWarmer 37 = .ok (.getfield 27, 3) := by decide +kernel
theorem dX3_bothWarmer_40 : decode cX3_bothWarmer 40 = .ok (.getfield 49, 3) := by decide +kernel
theorem dX3_bothWarmer_43 : decode cX3_bothWarmer 43 = .ok (.iload 4, 2) := by decide +kernel
theorem dX3_bothWarmer_45 : decode cX3_bothWarmer 45 = .ok (.iload_n 3, 1) := by decide +kernel
theorem dX3_bothWarmer_46 : decode cX3_bothWarmer 46 = .ok (.iastore, 1) := by decide +kernel
theorem dX3_bothWarmer_47 : decode cX3_bothWarmer 47 = .ok (.aload_n 0, 1) := by decide +kernel
theorem dX3_bothWarmer_48 : decode cX3_bothWarmer 48 = .ok (.getfield 27, 3) := by decide +kernel
theorem dX3_bothWarmer_51 : decode cX3_bothWarmer 51 = .ok (.getfield 49, 3) := by decide +kernel
theorem dX3_bothWarmer_54 : decode cX3_bothWarmer 54 = .ok (.iload 5, 2) := by decide +kernel
theorem dX3_bothWarmer_56 : decode cX3_bothWarmer 56 = .ok (.iload_n 2, 1) := by decide +kernel
theorem dX3_bothWarmer_57 : decode cX3_bothWarmer 57 = .ok (.iastore, 1) := by decide +kernel
theorem dX3_bothWarmer_58 : decode cX3_bothWarmer 58 = .ok (.aload_n 0, 1) := by decide +kernel
theorem dX3_bothWarmer_59 : decode cX3_bothWarmer 59 = .ok (.getfield 27, 3) := by decide +kernel
theorem dX3_bothWarmer_62 : decode cX3_bothWarmer 62 = .ok (.iconst 1, 1) := by decide +kernel
theorem dX3_bothWarmer_63 : decode cX3_bothWarmer 63 = .ok (.invokevirtual 68, 3) := by decide +kernel
theorem dX3_bothWarmer_66 : decode cX3_bothWarmer 66 = .ok (.aload_n 0, 1) := by decide +kernel
theorem dX3_bothWarmer_67 : decode cX3_bothWarmer 67 = .ok (.getfield 27, 3) := by decide +kernel
theorem dX3_bothWarmer_70 : decode cX3_bothWarmer 70 = .ok (.getfield 80, 3) := by decide +kernel
theorem dX3_bothWarmer_73 : decode cX3_bothWarmer 73 = .ok (.iload_n 2, 1) := by decide +kernel
theorem dX3_bothWarmer_74 : decode cX3_bothWarmer 74 = .ok (.iaload, 1) := by decide +kernel
theorem dX3_bothWarmer_75 : decode cX3_bothWarmer 75 = .ok (.aload_n 0, 1) := by decide +kernel
theorem dX3_bothWarmer_76 : decode cX3_bothWarmer 76 = .ok (.getfield 21, 3) := by decide +kernel
theorem dX3_bothWarmer_79 : decode cX3_bothWarmer 79 = .ok (.iload_n 2, 1) := by decide +kernel
theorem dX3_bothWarmer_80 : decode cX3_bothWarmer 80 = .ok (.iaload, 1) := by decide +kernel
theorem dX3_bothWarmer_81 : decode cX3_bothWarmer 81 = .ok (.if_icmp .le 25, 3) := by decide +kernel
theorem dX3_bothWarmer_84 : decode cX3_bothWarmer 84 = .ok (.aload_n 0, 1) := by decide +kernel
theorem dX3_bothWarmer_85 : decode cX3_bothWarmer 85 = .ok (.getfield 27, 3) := by decide +kernel
theorem dX3_bothWarmer_88 : decode cX3_bothWarmer 88 = .ok (.getfield 80, 3) := by decide +kernel
theorem dX3_bothWarmer_91 : decode cX3_bothWarmer 91 = .ok (.iload_n 3, 1) := by decide +kernel
theorem dX3_bothWarmer_92 : decode cX3_bothWarmer 92 = .ok (.iaload, 1) := by decide +kernel
theorem dX3_bothWarmer_93 : decode cX3_bothWarmer 93 = .ok (.aload_n 0, 1) := by decide +kernel
theorem dX3_bothWarmer_94 : decode cX3_bothWarmer 94 = .ok (.getfield 21, 3) := by decide +kernel
theorem dX3_bothWarmer_97 : decode cX3_bothWarmer 97 = .ok (.iload_n 3, 1) := by decide +kernel
theorem dX3_bothWarmer_98 : decode cX3_bothWarmer 98 = .ok (.iaload, 1) := by decide +kernel
theorem dX3_bothWarmer_99 : decode cX3_bothWarmer 99 = .ok (.if_icmp .le 7, 3) := by decide +kernel
theorem dX3_bothWarmer_102 : decode cX3_bothWarmer 102 = .ok (.iconst 1, 1) := by decide +kernel
theorem dX3_bothWarmer_103 : decode cX3_bothWarmer 103 = .ok (.goto 4, 3) := by decide +kernel
theorem dX3_bothWarmer_106 : decode cX3_bothWarmer 106 = .ok (.iconst 0, 1) := by decide +kernel
theorem dX3_bothWarmer_107 : decode cX3_bothWarmer 107 = .ok (.ireturn, 1) := by decide +kernel
theorem dX4_init_0 : decode cX4_init 0 = .ok (.aload_n 0, 1) := by decide +kernel
theorem dX4_init_1 : decode cX4_init 1 = .ok (.invokespecial 3, 3) := by decide +kernel
theorem dX4_init_4 : decode cX4_init 4 = .ok (.aload_n 0, 1) := by decide +kernel
theorem dX4_init_5 : decode cX4_init 5 = .ok (.bipush 6, 2) := by decide +kernel
theorem dX4_init_7 : decode cX4_init 7 = .ok (.newarray .int, 2) := by decide +kernel
theorem dX4_init_9 : decode cX4_init 9 = .ok (.putfield 9, 3) := by decide +kernel
theorem dX4_init_12 : decode cX4_init 12 = .ok (.aload_n 0, 1) := by decide +kernel
theorem dX4_init_13 : decode cX4_init 13 = .ok (.bipush 6, 2) := by decide +kernel
theorem dX4_init_15 : decode cX4_init 15 = .ok (.newarray .int, 2) := by decide +kernel
theorem dX4_init_17 : decode cX4_init 17 = .ok (.putfield 15, 3) := by decide +kernel
theorem dX4_init_20 : decode cX4_init 20 = .ok (.aload_n 0, 1) := by decide +kernel
theorem dX4_init_21 : decode cX4_init 21 = .ok (.aload_n 1, 1) := by decide +kernel
theorem dX4_init_22 : decode cX4_init 22 = .ok (.putfield 18, 3) := by decide +kernel
theorem dX4_init_25 : decode cX4_init 25 = .ok (.iconst 0, 1) := by decide +kernel
theorem dX4_init_26 : decode cX4_init 26 = .ok (.istore_n 2, 1) := by decide +kernel
theorem dX4_init_27 : decode cX4_init 27 = .ok (.iload_n 2, 1) := by decide +kernel
theorem dX4_init_28 : decode cX4_init 28 = .ok (.bipush 6, 2) := by decide +kernel
theorem dX4_init_30 : decode cX4_init 30 = .ok (.if_icmp .ge 16, 3) := by decide +kernel
theorem dX4_init_33 : decode cX4_init 33 = .ok (.aload_n 0, 1) := by decide +kernel
theorem dX4_init_34 : decode cX4_init 34 = .ok (.getfield 9, 3) := by decide +kernel
theorem dX4_init_37 : decode cX4_init 37 = .ok (.iload_n 2, 1) := by decide +kernel
theorem dX4_init_38 : decode cX4_init 38 = .ok (.iconst (-1), 1) := by decide +kernel
theorem dX4_init_39 : decode cX4_init 39 = .ok (.iastore, 1) := by decide +kernel
theorem dX4_init_40 : decode cX4_init 40 = .ok (.iinc 2 1, 3) := by decide +kernel
theorem dX4_init_43 : decode cX4_init 43 = .ok (.goto (-16), 3) := by decide +kernel
theorem dX4_init_46 : decode cX4_init 46 = .ok (.return_, 1) := by decide +kernel
theorem dX4_layAll_0 : decode cX4_layAll 0 = .ok (.iconst 0, 1) := by decide +kernel
theorem dX4_layAll_1 : decode cX4_layAll 1 = .ok (.istore_n 1, 1) := by decide +kernel
theorem dX4_layAll_2 : decode cX4_layAll 2 = .ok (.iload_n 1, 1) := by decide +kernel
theorem dX4_layAll_3 : decode cX4_layAll 3 = .ok (.bipush 6, 2) := by decide +kernel
theorem dX4_layAll_5 : decode cX4_layAll 5 = .ok (.if_icmp .ge 64, 3) := by decide +kernel
theorem dX4_layAll_8 : decode cX4_layAll 8 = .ok (.iload_n 1, 1) := by decide +kernel
theorem dX4_layAll_9 : decode cX4_layAll 9 = .ok (.aload_n 0, 1) := by decide +kernel
theorem dX4_layAll_10 : decode cX4_layAll 10 = .ok (.getfield 18, 3) := by decide +kernel
theorem dX4_layAll_13 : decode cX4_layAll 13 = .ok (.getfield 22, 3) := by decide +kernel
theorem dX4_layAll_16 : decode cX4_layAll 16 = .ok (.if_icmp .ge 7, 3) := by decide +kernel
theorem dX4_layAll_19 : decode cX4_layAll 19 = .ok (.iconst 1, 1) := by decide +kernel
theorem dX4_layAll_20 : decode cX4_layAll 20 = .ok (.goto 4, 3) := by decide +kernel
theorem dX4_layAll_23 : decode cX4_layAll 23 = .ok (.iconst 0, 1) := by decide +kernel
theorem dX4_layAll_24 : decode cX4_layAll 24 = .ok (.istore_n 2, 1) := by decide +kernel
theorem dX4_layAll_25 : decode cX4_layAll 25 = .ok (.aload_n 0, 1) := by decide +kernel
theorem dX4_layAll_26 : decode cX4_layAll 26 = .ok (.getfield 9, 3) := by decide +kernel
theorem dX4_layAll_29 : decode cX4_layAll 29 = .ok (.iload_n 1, 1) := by decide +kernel
theorem dX4_layAll_30 : decode cX4_layAll 30 = .ok (.iload_n 2, 1) := by decide +kernel
theorem dX4_layAll_31 : decode cX4_layAll 31 = .ok (.ifCond .eq 7, 3) := by decide +kernel
theorem dX4_layAll_34 : decode cX4_layAll 34 = .ok (.iload_n 1, 1) := by decide +kernel
theorem dX4_layAll_35 : decode cX4_layAll 35 = .ok (.goto 4, 3) := by decide +kernel
theorem dX4_layAll_38 : decode cX4_layAll 38 = .ok (.iconst (-1), 1) := by decide +kernel
theorem dX4_layAll_39 : decode cX4_layAll 39 = .ok (.iastore, 1) := by decide +kernel
theorem dX4_layAll_40 : decode cX4_layAll 40 = .ok (.aload_n 0, 1) := by decide +kernel
theorem dX4_layAll_41 : decode cX4_layAll 41 = .ok (.getfield 15, 3) := by decide +kernel
theorem dX4_layAll_44 : decode cX4_layAll 44 = .ok (.iload_n 1, 1) := by decide +kernel
theorem dX4_layAll_45 : decode cX4_layAll 45 = .ok (.iload_n 2, 1) := by decide +kernel
theorem dX4_layAll_46 : decode cX4_layAll 46 = .ok (.ifCond .eq 15, 3) := by decide +kernel
theorem dX4_layAll_49 : decode cX4_layAll 49 = .ok (.aload_n 0, 1) := by decide +kernel
theorem dX4_layAll_50 : decode cX4_layAll 50 = .ok (.getfield 18, 3) := by decide +kernel
theorem dX4_layAll_53 : decode cX4_layAll 53 = .ok (.getfield 28, 3) := by decide +kernel
theorem dX4_layAll_56 : decode cX4_layAll 56 = .ok (.iload_n 1, 1) := by decide +kernel
theorem dX4_layAll_57 : decode cX4_layAll 57 = .ok (.iaload, 1) := by decide +kernel
theorem dX4_layAll_58 : decode cX4_layAll 58 = .ok (.goto 4, 3) := by decide +kernel
theorem dX4_layAll_61 : decode cX4_layAll 61 = .ok (.iconst 0, 1) := by decide +kernel
theorem dX4_layAll_62 : decode cX4_layAll 62 = .ok (.iastore, 1) := by decide +kernel
theorem dX4_layAll_63 : decode cX4_layAll 63 = .ok (.iinc 1 1, 3) := by decide +kernel
theorem dX4_layAll_66 : decode cX4_layAll 66 = .ok (.goto (-64), 3) := by decide +kernel
theorem dX4_layAll_69 : decode cX4_layAll 69 = .ok (.aload_n 0, 1) := by decide +kernel
theorem dX4_layAll_70 : decode cX4_layAll 70 = .ok (.iconst 0, 1) := by decide +kernel
theorem dX4_layAll_71 : decode cX4_layAll 71 = .ok (.putfield 31, 3) := by decide +kernel
theorem dX4_layAll_74 : decode cX4_layAll 74 = .ok (.return_, 1) := by decide +kernel
theorem dX4_become_0 : decode cX4_become 0 = .ok (.aload_n 1, 1) := by decide +kernel
theorem dX4_become_1 : decode cX4_become 1 = .ok (.getfield 9, 3) := by decide +kernel
theorem dX4_become_4 : decode cX4_become 4 = .ok (.iconst 0, 1) := by decide +kernel
theorem dX4_become_5 : decode cX4_become 5 = .ok (.aload_n 0, 1) := by decide +kernel
theorem dX4_become_6 : decode cX4_become 6 = .ok (.getfield 9, 3) := by decide +kernel
theorem dX4_become_9 : decode cX4_become 9 = .ok (.iconst 0, 1) := by decide +kernel
theorem dX4_become_10 : decode cX4_become 10 = .ok (.bipush 6, 2) := by decide +kernel
theorem dX4_become_12 : decode cX4_become 12 = .ok (.invokestatic 34, 3) := by decide +kernel
theorem dX4_become_15 : decode cX4_become 15 = .ok (.aload_n 1, 1) := by decide +kernel
theorem dX4_become_16 : decode cX4_become 16 = .ok (.getfield 15, 3) := by decide +kernel
theorem dX4_become_19 : decode cX4_become 19 = .ok (.iconst 0, 1) := by decide +kernel
theorem dX4_become_20 : decode cX4_become 20 = .ok (.aload_n 0, 1) := by decide +kernel
theorem dX4_become_21 : decode cX4_become 21 = .ok (.getfield 15, 3) := by decide +kernel
theorem dX4_become_24 : decode cX4_become 24 = .ok (.iconst 0, 1) := by decide +kernel
theorem dX4_become_25 : decode cX4_become 25 = .ok (.bipush 6, 2) := by decide +kernel
theorem dX4_become_27 : decode cX4_become 27 = .ok (.invokestatic 34, 3) := by decide +kernel
theorem dX4_become_30 : decode cX4_become 30 = .ok (.aload_n 0, 1) := by decide +kernel
theorem dX4_become_31 : decode cX4_become 31 = .ok (.aload_n 1, 1) := by decide +kernel
theorem dX4_become_32 : decode cX4_become 32 = .ok (.getfield 31, 3) := by decide +kernel
theorem dX4_become_35 : decode cX4_become 35 = .ok (.putfield 31, 3) := by decide +kernel
theorem dX4_become_38 : decode cX4_become 38 = .ok (.return_, 1) := by decide +kernel
theorem dX4_code_0 : decode cX4_code 0 = .ok (.lconst 0, 1) := by decide +kernel
theorem dX4_code_1 : decode cX4_code 1 = .ok (.lstore_n 1, 1) := by decide +kernel
theorem dX4_code_2 : decode cX4_code 2 = .ok (.iconst 0, 1) := by decide +kernel
theorem dX4_code_3 : decode cX4_code 3 = .ok (.istore_n 3, 1) := by decide +kernel
theorem dX4_code_4 : decode cX4_code 4 = .ok (.iload_n 3, 1) := by decide +kernel
theorem dX4_code_5 : decode cX4_code 5 = .ok (.bipush 6, 2) := by decide +kernel
theorem dX4_code_7 : decode cX4_code 7 = .ok (.if_icmp .ge 33, 3) := by decide +kernel
theorem dX4_code_10 : decode cX4_code 10 = .ok (.lload_n 1, 1) := by decide +kernel
theorem dX4_code_11 : decode cX4_code 11 = .ok (.bipush 10, 2) := by decide +kernel
theorem dX4_code_13 : decode cX4_code 13 = .ok (.lshl, 1) := by decide +kernel
theorem dX4_code_14 : decode cX4_code 14 = .ok (.aload_n 0, 1) := by decide +kernel
theorem dX4_code_15 : decode cX4_code 15 = .ok (.getfield 15, 3) := by decide +kernel
theorem dX4_code_18 : decode cX4_code 18 = .ok (.iload_n 3, 1) := by decide +kernel
theorem dX4_code_19 : decode cX4_code 19 = .ok (.iaload, 1) := by decide +kernel
theorem dX4_code_20 : decode cX4_code 20 = .ok (.iconst 3, 1) := by decide +kernel
theorem dX4_code_21 : decode cX4_code 21 = .ok (.ishl, 1) := by decide +kernel
theorem dX4_code_22 : decode cX4_code 22 = .ok (.aload_n 0, 1) := by decide +kernel
theorem dX4_code_23 : decode cX4_code 23 = .ok (.getfield 9, 3) := by decide +kernel
theorem dX4_code_26 : decode cX4_code 26 = .ok (.iload_n 3, 1) := by decide +kernel
theorem dX4_code_27 : decode cX4_code 27 = .ok (.iaload, 1) := by decide +kernel
theorem dX4_code_28 : decode cX4_code 28 = .ok (.iconst 1, 1) := by decide +kernel
theorem dX4_code_29 : decode cX4_code 29 = .ok (.iadd, 1) := by decide +kernel
theorem dX4_code_30 : decode cX4_code 30 = .ok (.ior, 1) := by decide +kernel
theorem dX4_code_31 : decode cX4_code 31 = .ok (.i2l, 1) := by decide +kernel
theorem dX4_code_32 : decode cX4_code 32 = .ok (.lor, 1) := by decide +kernel
theorem dX4_code_33 : decode cX4_code 33 = .ok (.lstore_n 1, 1) := by decide +kernel
theorem dX4_code_34 : decode cX4_code 34 = .ok (.iinc 3 1, 3) := by decide +kernel
theorem dX4_code_37 : decode cX4_code 37 = .ok (.goto (-33), 3) := by decide +kernel
theorem dX4_code_40 : decode cX4_code 40 = .ok (.lload_n 1, 1) := by decide +kernel
theorem dX4_code_41 : decode cX4_code 41 = .ok (.lreturn, 1) := by decide +kernel
theorem dX4_setCode_0 : decode cX4_setCode 0 = .ok (.lload_n 1, 1) := by decide +kernel
theorem dX4_setCode_1 : decode cX4_setCode 1 = .ok (.lstore 4, 2) := by decide +kernel
theorem dX4_setCode_3 : decode cX4_setCode 3 = .ok (.iconst 5, 1) := by decide +kernel
theorem dX4_setCode_4 : decode cX4_setCode 4 = .ok (.istore 6, 2) := by decide +kernel
theorem dX4_setCode_6 : decode cX4_setCode 6 = .ok (.iload 6, 2) := by decide +kernel
theorem dX4_setCode_8 : decode cX4_setCode 8 = .ok (.ifCond .lt 48, 3) := by decide +kernel
theorem dX4_setCode_11 : decode cX4_setCode 11 = .ok (.aload_n 0, 1) := by decide +kernel
theorem dX4_setCode_12 : decode cX4_setCode 12 = .ok (.getfield 9, 3) := by decide +kernel
theorem dX4_setCode_15 : decode cX4_setCode 15 = .ok (.iload 6, 2) := by decide +kernel
theorem dX4_setCode_17 : decode cX4_setCode 17 = .ok (.lload 4, 2) := by decide +kernel
theorem dX4_setCode_19 : decode cX4_setCode 19 = .ok (.ldc2_w 40, 3) := by decide +kernel
theorem dX4_setCode_22 : decode cX4_setCode 22 = .ok (.land, 1) := by decide +kernel
theorem dX4_setCode_23 : decode cX4_setCode 23 = .ok (.l2i, 1) := by decide +kernel
theorem dX4_setCode_24 : decode cX4_setCode 24 = .ok (.iconst 1, 1) := by decide +kernel
theorem dX4_setCode_25 : decode cX4_setCode 25 = .ok (.isub, 1) := by decide +kernel
theorem dX4_setCode_26 : decode cX4_setCode 26 = .ok (.iastore, 1) := by decide +kernel
theorem dX4_setCode_27 : decode cX4_setCode 27 = .ok (.aload_n 0, 1) := by decide +kernel
theorem dX4_setCode_28 : decode cX4_setCode 28 = .ok (.getfield 15, 3) := by decide +kernel
theorem dX4_setCode_31 : decode cX4_setCode 31 = .ok (.iload 6, 2) := by decide +kernel
theorem dX4_setCode_33 : decode cX4_setCode 33 = .ok (.lload 4, 2) := by decide +kernel
theorem dX4_setCode_35 : decode cX4_setCode 35 = .ok (.iconst 3, 1) := by decide +kernel
theorem dX4_setCode_36 : decode cX4_setCode 36 = .ok (.lshr, 1) := by decide +kernel
theorem dX4_setCode_37 : decode cX4_setCode 37 = .ok (.ldc2_w 42, 3) := by decide +kernel
theorem dX4_setCode_40 : decode cX4_setCode 40 = .ok (.land, 1) := by decide +kernel
theorem dX4_setCode_41 : decode cX4_setCode 41 = .ok (.l2i, 1) := by decide +kernel
theorem dX4_setCode_42 : decode cX4_setCode 42 = .ok (.iastore, 1) := by decide +kernel
theorem dX4_setCode_43 : decode cX4_setCode 43 = .ok (.lload 4, 2) := by decide +kernel
theorem dX4_setCode_45 : decode cX4_setCode 45 = .ok (.bipush 10, 2) := by decide +kernel
theorem dX4_setCode_47 : decode cX4_setCode 47 = .ok (.lshr, 1) := by decide +kernel
theorem dX4_setCode_48 : decode cX4_setCode 48 = .ok (.lstore 4, 2) := by decide +kernel
theorem dX4_setCode_50 : decode cX4_setCode 50 = .ok (.iinc 6 (-1), 3) := by decide +kernel
theorem dX4_setCode_53 : decode cX4_setCode 53 = .ok (.goto (-47), 3) := by decide +kernel
theorem dX4_setCode_56 : decode cX4_setCode 56 = .ok (.aload_n 0, 1) := by decide +kernel
theorem dX4_setCode_57 : decode cX4_setCode 57 = .ok (.iload_n 3, 1) := by decide +kernel
theorem dX4_setCode_58 : decode cX4_setCode 58 = .ok (.putfield 31, 3) := by decide +kernel
theorem dX4_setCode_61 : decode cX4_setCode 61 = .ok (.return_, 1) := by decide +kernel
theorem dX4_inBed_0 : decode cX4_inBed 0 = .ok (.iconst 0, 1) := by decide +kernel
theorem dX4_inBed_1 : decode cX4_inBed 1 = .ok (.istore_n 1, 1) := by decide +kernel
theorem dX4_inBed_2 : decode cX4_inBed 2 = .ok (.iconst 0, 1) := by decide +kernel
theorem dX4_inBed_3 : decode cX4_inBed 3 = .ok (.istore_n 2, 1) := by decide +kernel
theorem dX4_inBed_4 : decode cX4_inBed 4 = .ok (.iload_n 2, 1) := by decide +kernel
theorem dX4_inBed_5 : decode cX4_inBed 5 = .ok (.aload_n 0, 1) := by decide +kernel
theorem dX4_inBed_6 : decode cX4_inBed 6 = .ok (.getfield 18, 3) := by decide +kernel
theorem dX4_inBed_9 : decode cX4_inBed 9 = .ok (.getfield 44, 3) := by decide +kernel
theorem dX4_inBed_12 : decode cX4_inBed 12 = .ok (.if_icmp .ge 30, 3) := by decide +kernel
theorem dX4_inBed_15 : decode cX4_inBed 15 = .ok (.aload_n 0, 1) := by decide +kernel
theorem dX4_inBed_16 : decode cX4_inBed 16 = .ok (.getfield 9, 3) := by decide +kernel
theorem dX4_inBed_19 : decode cX4_inBed 19 = .ok (.iload_n 2, 1) := by decide +kernel
theorem dX4_inBed_20 : decode cX4_inBed 20 = .ok (.iaload, 1) := by decide +kernel
theorem dX4_inBed_21 : decode cX4_inBed 21 = .ok (.iconst (-1), 1) := by decide +kernel
theorem dX4_inBed_22 : decode cX4_inBed 22 = .ok (.if_icmp .eq 14, 3) := by decide +kernel
theorem dX4_inBed_25 : decode cX4_inBed 25 = .ok (.iload_n 1, 1) := by decide +kernel
theorem dX4_inBed_26 : decode cX4_inBed 26 = .ok (.iconst 1, 1) := by decide +kernel
theorem dX4_inBed_27 : decode cX4_inBed 27 = .ok (.aload_n 0, 1) := by decide +kernel
theorem dX4_inBed_28 : decode cX4_inBed 28 = .ok (.getfield 9, 3) := by decide +kernel
theorem dX4_inBed_31 : decode cX4_inBed 31 = .ok (.iload_n 2, 1) := by decide +kernel
theorem dX4_inBed_32 : decode cX4_inBed 32 = .ok (.iaload, 1) := by decide +kernel
theorem dX4_inBed_33 : decode cX4_inBed 33 = .ok (.ishl, 1) := by decide +kernel
theorem dX4_inBed_34 : decode cX4_inBed 34 = .ok (.ior, 1) := by decide +kernel
theorem dX4_inBed_35 : decode cX4_inBed 35 = .ok (.istore_n 1, 1) := by decide +kernel
theorem dX4_inBed_36 : decode cX4_inBed 36 = .ok (.iinc 2 1, 3) := by decide +kernel
theorem dX4_inBed_39 : decode cX4_inBed 39 = .ok (.goto (-35), 3) := by decide +kernel
theorem dX4_inBed_42 : decode cX4_inBed 42 = .ok (.iload_n 1, 1) := by decide +kernel
theorem dX4_inBed_43 : decode cX4_inBed 43 = .ok (.ireturn, 1) := by decide +kernel
theorem dX4_up_0 : decode cX4_up 0 = .ok (.iconst 1, 1) := by decide +kernel
theorem dX4_up_1 : decode cX4_up 1 = .ok (.aload_n 0, 1) := by decide +kernel
theorem dX4_up_2 : decode cX4_up 2 = .ok (.getfield 18, 3) := by decide +kernel
theorem dX4_up_5 : decode cX4_up 5 = .ok (.getfield 22, 3) := by decide +kernel
theorem dX4_up_8 : decode cX4_up 8 = .ok (.ishl, 1) := by decide +kernel
theorem dX4_up_9 : decode cX4_up 9 = .ok (.iconst 1, 1) := by decide +kernel
theorem dX4_up_10 : decode cX4_up 10 = .ok (.isub, 1) := by decide +kernel
theorem dX4_up_11 : decode cX4_up 11 = .ok (.aload_n 0, 1) := by decide +kernel
theorem dX4_up_12 : decode cX4_up 12 = .ok (.invokevirtual 47, 3) := by decide +kernel
theorem dX4_up_15 : decode cX4_up 15 = .ok (.iconst (-1), 1) := by decide +kernel
theorem dX4_up_16 : decode cX4_up 16 = .ok (.ixor, 1) := by decide +kernel
theorem dX4_up_17 : decode cX4_up 17 = .ok (.iand, 1) := by decide +kernel
theorem dX4_up_18 : decode cX4_up 18 = .ok (.ireturn, 1) := by decide +kernel
theorem dX4_awake_0 : decode cX4_awake 0 = .ok (.iconst 0, 1) := by decide +kernel
theorem dX4_awake_1 : decode cX4_awake 1 = .ok (.istore_n 1, 1) := by decide +kernel
theorem dX4_awake_2 : decode cX4_awake 2 = .ok (.iconst 0, 1) := by decide +kernel
theorem dX4_awake_3 : decode cX4_awake 3 = .ok (.istore_n 2, 1) := by decide +kernel
theorem dX4_awake_4 : decode cX4_awake 4 = .ok (.iload_n 2, 1) := by decide +kernel
theorem dX4_awake_5 : decode cX4_awake 5 = .ok (.aload_n 0, 1) := by decide +kernel
theorem dX4_awake_6 : decode cX4_awake 6 = .ok (.getfield 18, 3) := by decide +kernel
theorem dX4_awake_9 : decode cX4_awake 9 = .ok (.getfield 44, 3) := by decide +kernel
theorem dX4_awake_12 : decode cX4_awake 12 = .ok (.if_icmp .ge 45, 3) := by decide +kernel
theorem dX4_awake_15 : decode cX4_awake 15 = .ok (.aload_n 0, 1) := by decide +kernel
theorem dX4_awake_16 : decode cX4_awake 16 = .ok (.getfield 9, 3) := by decide +kernel
theorem dX4_awake_19 : decode cX4_awake 19 = .ok (.iload_n 2, 1) := by decide +kernel
theorem dX4_awake_20 : decode cX4_awake 20 = .ok (.iaload, 1) := by decide +kernel
theorem dX4_awake_21 : decode cX4_awake 21 = .ok (.istore_n 3, 1) := by decide +kernel
theorem dX4_awake_22 : decode cX4_awake 22 = .ok (.iload_n 3, 1) := by decide +kernel
theorem dX4_awake_23 : decode cX4_awake 23 = .ok (.iconst (-1), 1) := by decide +kernel
theorem dX4_awake_24 : decode cX4_awake 24 = .ok (.if_icmp .eq 27, 3) := by decide +kernel
theorem dX4_awake_27 : decode cX4_awake 27 = .ok (.aload_n 0, 1) := by decide +kernel
theorem dX4_awake_28 : decode cX4_awake 28 = .ok (.getfield 15, 3) := by decide +kernel
theorem dX4_awake_31 : decode cX4_awake 31 = .ok (.iload_n 3, 1) := by decide +kernel
theorem dX4_awake_32 : decode cX4_awake 32 = .ok (.iaload, 1) := by decide +kernel
theorem dX4_awake_33 : decode cX4_awake 33 = .ok (.aload_n 0, 1) := by decide +kernel
theorem dX4_awake_34 : decode cX4_awake 34 = .ok (.getfield 18, 3) := by decide +kernel
theorem dX4_awake_37 : decode cX4_awake 37 = .ok (.getfield 51, 3) := by decide +kernel
theorem dX4_awake_40 : decode cX4_awake 40 = .ok (.iload_n 3, 1) := by decide +kernel
theorem dX4_awake_41 : decode cX4_awake 41 = .ok (.iaload, 1) := by decide +kernel
theorem dX4_awake_42 : decode cX4_awake 42 = .ok (.if_icmp .gt 9, 3) := by decide +kernel
theorem dX4_awake_45 : decode cX4_awake 45 = .ok (.iload_n 1, 1) := by decide +kernel
theorem dX4_awake_46 : decode cX4_awake 46 = .ok (.iconst 1, 1) := by decide +kernel
theorem dX4_awake_47 : decode cX4_awake 47 = .ok (.iload_n 3, 1) := by decide +kernel
theorem dX4_awake_48 : decode cX4_awake 48 = .ok (.ishl, 1) := by decide +kernel
theorem dX4_awake_49 : decode cX4_awake 49 = .ok (.ior, 1) := by decide +kernel
theorem dX4_awake_50 : decode cX4_awake 50 = .ok (.istore_n 1, 1) := by decide +kernel
theorem dX4_awake_51 : decode cX4_awake 51 = .ok (.iinc 2 1, 3) := by decide +kernel
theorem dX4_awake_54 : decode cX4_awake 54 = .ok (.goto (-50), 3) := by decide +kernel
theorem dX4_awake_57 : decode cX4_awake 57 = .ok (.iload_n 1, 1) := by decide +kernel
theorem dX4_awake_58 : decode cX4_awake 58 = .ok (.ireturn, 1) := by decide +kernel
theorem dX4_coldest_0 : decode cX4_coldest 0 = .ok (.iconst (-1), 1) := by decide +kernel
theorem dX4_coldest_1 : decode cX4_coldest 1 = .ok (.istore_n 1, 1) := by decide +kernel
theorem dX4_coldest_2 : decode cX4_coldest 2 = .ok (.iconst 0, 1) := by decide +kernel
theorem dX4_coldest_3 : decode cX4_coldest 3 = .ok (.istore_n 2, 1) := by decide +kernel
theorem dX4_coldest_4 : decode cX4_coldest 4 = .ok (.iload_n 2, 1) := by decide +kernel
theorem dX4_coldest_5 : decode cX4_coldest 5 = .ok (.aload_n 0, 1) := by decide +kernel
theorem dX4_coldest_6 : decode cX4_coldest 6 = .ok (.getfield 18, 3) := by decide +kernel
theorem dX4_coldest_9 : decode cX4_coldest 9 = .ok (.getfield 44, 3) := by decide +kernel
theorem dX4_coldest_12 : decode cX4_coldest 12 = .ok (.if_icmp .ge 60, 3) := by decide +kernel
theorem dX4_coldest_15 : decode cX4_coldest 15 = .ok (.aload_n 0, 1) := by decide +kernel
theorem dX4_coldest_16 : decode cX4_coldest 16 = .ok (.getfield 9, 3) := by decide +kernel
theorem dX4_coldest_19 : decode cX4_coldest 19 = .ok (.iload_n 2, 1) := by decide +kernel
theorem dX4_coldest_20 : decode cX4_coldest 20 = .ok (.iaload, 1) := by decide +kernel
theorem dX4_coldest_21 : decode cX4_coldest 21 = .ok (.istore_n 3, 1) := by decide +kernel
theorem dX4_coldest_22 : decode cX4_coldest 22 = .ok (.iload_n 3, 1) := by decide +kernel
theorem dX4_coldest_23 : decode cX4_coldest 23 = .ok (.iconst (-1), 1) := by decide +kernel
theorem dX4_coldest_24 : decode cX4_coldest 24 = .ok (.if_icmp .eq 42, 3) := by decide +kernel
theorem dX4_coldest_27 : decode cX4_coldest 27 = .ok (.bipush 100, 2) := by decide +kernel
theorem dX4_coldest_29 : decode cX4_coldest 29 = .ok (.aload_n 0, 1) := by decide +kernel
theorem dX4_coldest_30 : decode cX4_coldest 30 = .ok (.getfield 15, 3) := by decide +kernel
theorem dX4_coldest_33 : decode cX4_coldest 33 = .ok (.iload_n 3, 1) := by decide +kernel
theorem dX4_coldest_34 : decode cX4_coldest 34 = .ok (.iaload, 1) := by decide +kernel
theorem dX4_coldest_35 : decode cX4_coldest 35 = .ok (.iadd, 1) := by decide +kernel
theorem dX4_coldest_36 : decode cX4_coldest 36 = .ok (.aload_n 0, 1) := by decide +kernel
theorem dX4_coldest_37 : decode cX4_coldest 37 = .ok (.getfield 18, 3) := by decide +kernel
theorem dX4_coldest_40 : decode cX4_coldest 40 = .ok (.getfield 51, 3) := by decide +kernel
theorem dX4_coldest_43 : decode cX4_coldest 43 = .ok (.iload_n 3, 1) := by decide +kernel
theorem dX4_coldest_44 : decode cX4_coldest 44 = .ok (.iaload, 1) := by decide +kernel
theorem dX4_coldest_45 : decode cX4_coldest 45 = .ok (.isub, 1) := by decide +kernel
theorem dX4_coldest_46 : decode cX4_coldest 46 = .ok (.istore 4, 2) := by decide +kernel
theorem dX4_coldest_48 : decode cX4_coldest 48 = .ok (.iload_n 1, 1) := by decide +kernel
theorem dX4_coldest_49 : decode cX4_coldest 49 = .ok (.iconst (-1), 1) := by decide +kernel
theorem dX4_coldest_50 : decode cX4_coldest 50 = .ok (.if_icmp .eq 9, 3) := by decide +kernel
theorem dX4_coldest_53 : decode cX4_coldest 53 = .ok (.iload 4, 2) := by decide +kernel
theorem dX4_coldest_55 : decode cX4_coldest 55 = .ok (.iload_n 1, 1) := by decide +kernel
theorem dX4_coldest_56 : decode cX4_coldest 56 = .ok (.if_icmp .ge 8, 3) := by decide +kernel
theorem dX4_coldest_59 : decode cX4_coldest 59 = .ok (.iload 4, 2) := by decide +kernel
theorem dX4_coldest_61 : decode cX4_coldest 61 = .ok (.goto 4, 3) := by decide +kernel
theorem dX4_coldest_64 : decode cX4_coldest 64 = .ok (.iload_n 1, 1) := by decide +kernel
theorem dX4_coldest_65 : decode cX4_coldest 65 = .ok (.istore_n 1, 1) := by decide +kernel
theorem dX4_coldest_66 : decode cX4_coldest 66 = .ok (.iinc 2 1, 3) := by decide +kernel
theorem dX4_coldest_69 : decode cX4_coldest 69 = .ok (.goto (-65), 3) := by decide +kernel
theorem dX4_coldest_72 : decode cX4_coldest 72 = .ok (.iload_n 1, 1) := by decide +kernel
theorem dX4_coldest_73 : decode cX4_coldest 73 = .ok (.ireturn, 1) := by decide +kernel
theorem dX4_placeOf_0 : decode cX4_placeOf 0 = .ok (.iconst 0, 1) := by decide +kernel
theorem dX4_placeOf_1 : decode cX4_placeOf 1 = .ok (.istore_n 2, 1) := by decide +kernel
theorem dX4_placeOf_2 : decode cX4_placeOf 2 = .ok (.iload_n 2, 1) := by decide +kernel
theorem dX4_placeOf_3 : decode cX4_placeOf 3 = .ok (.aload_n 0, 1) := by decide +kernel
theorem dX4_placeOf_4 : decode cX4_placeOf 4 = .ok (.getfield 18, 3) := by decide +kernel
theorem dX4_placeOf_7 : decode cX4_placeOf 7 = .ok (.getfield 44, 3) := by decide +kernel
theorem dX4_placeOf_10 : decode cX4_placeOf 10 = .ok (.if_icmp .ge 21, 3) := by decide +kernel
theorem dX4_placeOf_13 : decode cX4_placeOf 13 = .ok (.aload_n 0, 1) := by decide +kernel
theorem dX4_placeOf_14 : decode cX4_placeOf 14 = .ok (.getfield 9, 3) := by decide +kernel
theorem dX4_placeOf_17 : decode cX4_placeOf 17 = .ok (.iload_n 2, 1) := by decide +kernel
theorem dX4_placeOf_18 : decode cX4_placeOf 18 = .ok (.iaload, 1) := by decide +kernel
theorem dX4_placeOf_19 : decode cX4_placeOf 19 = .ok (.iload_n 1, 1) := by decide +kernel
theorem dX4_placeOf_20 : decode cX4_placeOf 20 = .ok (.if_icmp .ne 5, 3) := by decide +kernel
theorem dX4_placeOf_23 : decode cX4_placeOf 23 = .ok (.iload_n 2, 1) := by decide +kernel
theorem dX4_placeOf_24 : decode cX4_placeOf 24 = .ok (.ireturn, 1) := by decide +kernel
theorem dX4_placeOf_25 : decode cX4_placeOf 25 = .ok (.iinc 2 1, 3) := by decide +kernel
theorem dX4_placeOf_28 : decode cX4_placeOf 28 = .ok (.goto (-26), 3) := by decide +kernel
theorem dX4_placeOf_31 : decode cX4_placeOf 31 = .ok (.iconst (-1), 1) := by decide +kernel
theorem dX4_placeOf_32 : decode cX4_placeOf 32 = .ok (.ireturn, 1) := by decide +kernel
theorem dX4_lastEmpty_0 : decode cX4_lastEmpty 0 = .ok (.aload_n 0, 1) := by decide +kernel
theorem dX4_lastEmpty_1 : decode cX4_lastEmpty 1 = .ok (.getfield 18, 3) := by decide +kernel
theorem dX4_lastEmpty_4 : decode cX4_lastEmpty 4 = .ok (.getfield 44, 3) := by decide +kernel
theorem dX4_lastEmpty_7 : decode cX4_lastEmpty 7 = .ok (.iconst 1, 1) := by decide +kernel
theorem dX4_lastEmpty_8 : decode cX4_lastEmpty 8 = .ok (.isub, 1) := by decide +kernel
theorem dX4_lastEmpty_9 : decode cX4_lastEmpty 9 = .ok (.istore_n 1, 1) := by decide +kernel
theorem dX4_lastEmpty_10 : decode cX4_lastEmpty 10 = .ok (.iload_n 1, 1) := by decide +kernel
theorem dX4_lastEmpty_11 : decode cX4_lastEmpty 11 = .ok (.ifCond .lt 21, 3) := by decide +kernel
theorem dX4_lastEmpty_14 : decode cX4_lastEmpty 14 = .ok (.aload_n 0, 1) := by decide +kernel
theorem dX4_lastEmpty_15 : decode cX4_lastEmpty 15 = .ok (.getfield 9, 3) := by decide +kernel
theorem dX4_lastEmpty_18 : decode cX4_lastEmpty 18 = .ok (.iload_n 1, 1) := by decide +kernel
theorem dX4_lastEmpty_19 : decode cX4_lastEmpty 19 = .ok (.iaload, 1) := by decide +kernel
theorem dX4_lastEmpty_20 : decode cX4_lastEmpty 20 = .ok (.iconst (-1), 1) := by decide +kernel
theorem dX4_lastEmpty_21 : decode cX4_lastEmpty 21 = .ok (.if_icmp .ne 5, 3) := by decide +kernel
theorem dX4_lastEmpty_24 : decode cX4_lastEmpty 24 = .ok (.iload_n 1, 1) := by decide +kernel
theorem dX4_lastEmpty_25 : decode cX4_lastEmpty 25 = .ok (.ireturn, 1) := by decide +kernel
theorem dX4_lastEmpty_26 : decode cX4_lastEmpty 26 = .ok (.iinc 1 (-1), 3) := by decide +kernel
theorem dX4_lastEmpty_29 : decode cX4_lastEmpty 29 = .ok (.goto (-19), 3) := by decide +kernel
theorem dX4_lastEmpty_32 : decode cX4_lastEmpty 32 = .ok (.iconst (-1), 1) := by decide +kernel
theorem dX4_lastEmpty_33 : decode cX4_lastEmpty 33 = .ok (.ireturn, 1) := by decide +kernel
theorem dX4_leave_0 : decode cX4_leave 0 = .ok (.aload_n 0, 1) := by decide +kernel
theorem dX4_leave_1 : decode cX4_leave 1 = .ok (.getfield 18, 3) := by decide +kernel
theorem dX4_leave_4 : decode cX4_leave 4 = .ok (.iload_n 1, 1) := by decide +kernel
theorem dX4_leave_5 : decode cX4_leave 5 = .ok (.invokevirtual 54, 3) := by decide +kernel
theorem dX4_leave_8 : decode cX4_leave 8 = .ok (.ifCond .ne 4, 3) := by decide +kernel
theorem dX4_leave_11 : decode cX4_leave 11 = .ok (.return_, 1) := by decide +kernel
theorem dX4_leave_12 : decode cX4_leave 12 = .ok (.aload_n 0, 1) := by decide +kernel
theorem dX4_leave_13 : decode cX4_leave 13 = .ok (.getfield 18, 3) := by decide +kernel
theorem dX4_leave_16 : decode cX4_leave 16 = .ok (.getfield 44, 3) := by decide +kernel
theorem dX4_leave_19 : decode cX4_leave 19 = .ok (.iconst 1, 1) := by decide +kernel
theorem dX4_leave_20 : decode cX4_leave 20 = .ok (.isub, 1) := by decide +kernel
theorem dX4_leave_21 : decode cX4_leave 21 = .ok (.istore_n 2, 1) := by decide +kernel
theorem dX4_leave_22 : decode cX4_leave 22 = .ok (.iload_n 1, 1) := by decide +kernel
theorem dX4_leave_23 : decode cX4_leave 23 = .ok (.istore_n 3, 1) := by decide +kernel
theorem dX4_leave_24 : decode cX4_leave 24 = .ok (.iload_n 3, 1) := by decide +kernel
theorem dX4_leave_25 : decode cX4_leave 25 = .ok (.iload_n 2, 1) := by decide +kernel
theorem dX4_leave_26 : decode cX4_leave 26 = .ok (.if_icmp .ge 23, 3) := by decide +kernel
theorem dX4_leave_29 : decode cX4_leave 29 = .ok (.aload_n 0, 1) := by decide +kernel
theorem dX4_leave_30 : decode cX4_leave 30 = .ok (.getfield 9, 3) := by decide +kernel
theorem dX4_leave_33 : decode cX4_leave 33 = .ok (.iload_n 3, 1) := by decide +kernel
theorem dX4_leave_34 : decode cX4_leave 34 = .ok (.aload_n 0, 1) := by decide +kernel
theorem dX4_leave_35 : decode cX4_leave 35 = .ok (.getfield 9, 3) := by decide +kernel
theorem dX4_leave_38 : decode cX4_leave 38 = .ok (.iload_n 3, 1) := by decide +kernel
theorem dX4_leave_39 : decode cX4_leave 39 = .ok (.iconst 1, 1) := by decide +kernel
theorem dX4_leave_40 : decode cX4_leave 40 = .ok (.iadd, 1) := by decide +kernel
theorem dX4_leave_41 : decode cX4_leave 41 = .ok (.iaload, 1) := by decide +kernel
theorem dX4_leave_42 : decode cX4_leave 42 = .ok (.iastore, 1) := by decide +kernel
theorem dX4_leave_43 : decode cX4_leave 43 = .ok (.iinc 3 1, 3) := by decide +kernel
theorem dX4_leave_46 : decode cX4_leave 46 = .ok (.goto (-22), 3) := by decide +kernel
theorem dX4_leave_49 : decode cX4_leave 49 = .ok (.aload_n 0, 1) := by decide +kernel
theorem dX4_leave_50 : decode cX4_leave 50 = .ok (.getfield 9, 3) := by decide +kernel
theorem dX4_leave_53 : decode cX4_leave 53 = .ok (.iload_n 2, 1) := by decide +kernel
theorem dX4_leave_54 : decode cX4_leave 54 = .ok (.iconst (-1), 1) := by decide +kernel
theorem dX4_leave_55 : decode cX4_leave 55 = .ok (.iastore, 1) := by decide +kernel
theorem dX4_leave_56 : decode cX4_leave 56 = .ok (.return_, 1) := by decide +kernel
theorem dX4_passHour_0 : decode cX4_passHour 0 = .ok (.aload_n 0, 1) := by decide +kernel
theorem dX4_passHour_1 : decode cX4_passHour 1 = .ok (.iload_n 1, 1) := by decide +kernel
theorem dX4_passHour_2 : decode cX4_passHour 2 = .ok (.invokevirtual 58, 3) := by decide +kernel
theorem dX4_passHour_5 : decode cX4_passHour 5 = .ok (.aload_n 0, 1) := by decide +kernel
theorem dX4_passHour_6 : decode cX4_passHour 6 = .ok (.iconst 1, 1) := by decide +kernel
theorem dX4_passHour_7 : decode cX4_passHour 7 = .ok (.invokevirtual 62, 3) := by decide +kernel
theorem dX4_passHour_10 : decode cX4_passHour 10 = .ok (.aload_n 0, 1) := by decide +kernel
theorem dX4_passHour_11 : decode cX4_passHour 11 = .ok (.dup, 1) := by decide +kernel
theorem dX4_passHour_12 : decode cX4_passHour 12 = .ok (.getfield 31, 3) := by decide +kernel
theorem dX4_passHour_15 : decode cX4_passHour 15 = .ok (.iconst 1, 1) := by decide +kernel
theorem dX4_passHour_16 : decode cX4_passHour 16 = .ok (.iadd, 1) := by decide +kernel
theorem dX4_passHour_17 : decode cX4_passHour 17 = .ok (.putfield 31, 3) := by decide +kernel
theorem dX4_passHour_20 : decode cX4_passHour 20 = .ok (.return_, 1) := by decide +kernel
theorem dX4_passByLaw_0 : decode cX4_passByLaw 0 = .ok (.aload_n 0, 1) := by decide +kernel
theorem dX4_passByLaw_1 : decode cX4_passByLaw 1 = .ok (.aload_n 0, 1) := by decide +kernel
theorem dX4_passByLaw_2 : decode cX4_passByLaw 2 = .ok (.getfield 18, 3) := by decide +kernel
theorem dX4_passByLaw_5 : decode cX4_passByLaw 5 = .ok (.aload_n 0, 1) := by decide +kernel
theorem dX4_passByLaw_6 : decode cX4_passByLaw 6 = .ok (.getfield 31, 3) := by decide +kernel
theorem dX4_passByLaw_9 : decode cX4_passByLaw 9 = .ok (.invokevirtual 65, 3) := by decide +kernel
theorem dX4_passByLaw_12 : decode cX4_passByLaw 12 = .ok (.invokevirtual 69, 3) := by decide +kernel
theorem dX4_passByLaw_15 : decode cX4_passByLaw 15 = .ok (.return_, 1) := by decide +kernel
theorem dX4_turn_0 : decode cX4_turn 0 = .ok (.aload_n 0, 1) := by decide +kernel
theorem dX4_turn_1 : decode cX4_turn 1 = .ok (.getfield 18, 3) := by decide +kernel
theorem dX4_turn_4 : decode cX4_turn 4 = .ok (.getfield 44, 3) := by decide +kernel
theorem dX4_turn_7 : decode cX4_turn 7 = .ok (.iconst 1, 1) := by decide +kernel
theorem dX4_turn_8 : decode cX4_turn 8 = .ok (.isub, 1) := by decide +kernel
theorem dX4_turn_9 : decode cX4_turn 9 = .ok (.istore_n 2, 1) := by decide +kernel
theorem dX4_turn_10 : decode cX4_turn 10 = .ok (.iload_n 2, 1) := by decide +kernel
theorem dX4_turn_11 : decode cX4_turn 11 = .ok (.iconst 1, 1) := by decide +kernel
theorem dX4_turn_12 : decode cX4_turn 12 = .ok (.if_icmp .ge 4, 3) := by decide +kernel
theorem dX4_turn_15 : decode cX4_turn 15 = .ok (.return_, 1) := by decide +kernel
theorem dX4_turn_16 : decode cX4_turn 16 = .ok (.aload_n 0, 1) := by decide +kernel
theorem dX4_turn_17 : decode cX4_turn 17 = .ok (.getfield 9, 3) := by decide +kernel
theorem dX4_turn_20 : decode cX4_turn 20 = .ok (.iconst 0, 1) := by decide +kernel
theorem dX4_turn_21 : decode cX4_turn 21 = .ok (.iaload, 1) := by decide +kernel
theorem dX4_turn_22 : decode cX4_turn 22 = .ok (.istore_n 3, 1) := by decide +kernel
theorem dX4_turn_23 : decode cX4_turn 23 = .ok (.aload_n 0, 1) := by decide +kernel
theorem dX4_turn_24 : decode cX4_turn 24 = .ok (.getfield 9, 3) := by decide +kernel
theorem dX4_turn_27 : decode cX4_turn 27 = .ok (.iload_n 2, 1) := by decide +kernel
theorem dX4_turn_28 : decode cX4_turn 28 = .ok (.iaload, 1) := by decide +kernel
theorem dX4_turn_29 : decode cX4_turn 29 = .ok (.istore 4, 2) := by decide +kernel
theorem dX4_turn_31 : decode cX4_turn 31 = .ok (.iload_n 1, 1) := by decide +kernel
theorem dX4_turn_32 : decode cX4_turn 32 = .ok (.iconst 1, 1) := by decide +kernel
theorem dX4_turn_33 : decode cX4_turn 33 = .ok (.if_icmp .ne 44, 3) := by decide +kernel
theorem dX4_turn_36 : decode cX4_turn 36 = .ok (.iload_n 2, 1) := by decide +kernel
theorem dX4_turn_37 : decode cX4_turn 37 = .ok (.istore 5, 2) := by decide +kernel
theorem dX4_turn_39 : decode cX4_turn 39 = .ok (.iload 5, 2) := by decide +kernel
theorem dX4_turn_41 : decode cX4_turn 41 = .ok (.ifCond .le 25, 3) := by decide +kernel
theorem dX4_turn_44 : decode cX4_turn 44 = .ok (.aload_n 0, 1) := by decide +kernel
theorem dX4_turn_45 : decode cX4_turn 45 = .ok (.getfield 9, 3) := by decide +kernel
theorem dX4_turn_48 : decode cX4_turn 48 = .ok (.iload 5, 2) := by decide +kernel
theorem dX4_turn_50 : decode cX4_turn 50 = .ok (.aload_n 0, 1) := by decide +kernel
theorem dX4_turn_51 : decode cX4_turn 51 = .ok (.getfield 9, 3) := by decide +kernel
theorem dX4_turn_54 : decode cX4_turn 54 = .ok (.iload 5, 2) := by decide +kernel
theorem dX4_turn_56 : decode cX4_turn 56 = .ok (.iconst 1, 1) := by decide +kernel
theorem dX4_turn_57 : decode cX4_turn 57 = .ok (.isub, 1) := by decide +kernel
theorem dX4_turn_58 : decode cX4_turn 58 = .ok (.iaload, 1) := by decide +kernel
theorem dX4_turn_59 : decode cX4_turn 59 = .ok (.iastore, 1) := by decide +kernel
theorem dX4_turn_60 : decode cX4_turn 60 = .ok (.iinc 5 (-1), 3) := by decide +kernel
theorem dX4_turn_63 : decode cX4_turn 63 = .ok (.goto (-24), 3) := by decide +kernel
theorem dX4_turn_66 : decode cX4_turn 66 = .ok (.aload_n 0, 1) := by decide +kernel
theorem dX4_turn_67 : decode cX4_turn 67 = .ok (.getfield 9, 3) := by decide +kernel
theorem dX4_turn_70 : decode cX4_turn 70 = .ok (.iconst 0, 1) := by decide +kernel
theorem dX4_turn_71 : decode cX4_turn 71 = .ok (.iload 4, 2) := by decide +kernel
theorem dX4_turn_73 : decode cX4_turn 73 = .ok (.iastore, 1) := by decide +kernel
theorem dX4_turn_74 : decode cX4_turn 74 = .ok (.goto 69, 3) := by decide +kernel
theorem dX4_turn_77 : decode cX4_turn 77 = .ok (.iload_n 1, 1) := by decide +kernel
theorem dX4_turn_78 : decode cX4_turn 78 = .ok (.iconst 2, 1) := by decide +kernel
theorem dX4_turn_79 : decode cX4_turn 79 = .ok (.if_icmp .ne 44, 3) := by decide +kernel
theorem dX4_turn_82 : decode cX4_turn 82 = .ok (.iconst 0, 1) := by decide +kernel
theorem dX4_turn_83 : decode cX4_turn 83 = .ok (.istore 5, 2) := by decide +kernel
theorem dX4_turn_85 : decode cX4_turn 85 = .ok (.iload 5, 2) := by decide +kernel
theorem dX4_turn_87 : decode cX4_turn 87 = .ok (.iload_n 2, 1) := by decide +kernel
theorem dX4_turn_88 : decode cX4_turn 88 = .ok (.if_icmp .ge 25, 3) := by decide +kernel
theorem dX4_turn_91 : decode cX4_turn 91 = .ok (.aload_n 0, 1) := by decide +kernel
theorem dX4_turn_92 : decode cX4_turn 92 = .ok (.getfield 9, 3) := by decide +kernel
theorem dX4_turn_95 : decode cX4_turn 95 = .ok (.iload 5, 2) := by decide +kernel
theorem dX4_turn_97 : decode cX4_turn 97 = .ok (.aload_n 0, 1) := by decide +kernel
theorem dX4_turn_98 : decode cX4_turn 98 = .ok (.getfield 9, 3) := by decide +kernel
theorem dX4_turn_101 : decode cX4_turn 101 = .ok (.iload 5, 2) := by decide +kernel
theorem dX4_turn_103 : decode cX4_turn 103 = .ok (.iconst 1, 1) := by decide +kernel
theorem dX4_turn_104 : decode cX4_turn 104 = .ok (.iadd, 1) := by decide +kernel
theorem dX4_turn_105 : decode cX4_turn 105 = .ok (.iaload, 1) := by decide +kernel
theorem dX4_turn_106 : decode cX4_turn 106 = .ok (.iastore, 1) := by decide +kernel
theorem dX4_turn_107 : decode cX4_turn 107 = .ok (.iinc 5 1, 3) := by decide +kernel
theorem dX4_turn_110 : decode cX4_turn 110 = .ok (.goto (-25), 3) := by decide +kernel
theorem dX4_turn_113 : decode cX4_turn 113 = .ok (.aload_n 0, 1) := by decide +kernel
theorem dX4_turn_114 : decode cX4_turn 114 = .ok (.getfield 9, 3) := by decide +kernel
theorem dX4_turn_117 : decode cX4_turn 117 = .ok (.iload_n 2, 1) := by decide +kernel
theorem dX4_turn_118 : decode cX4_turn 118 = .ok (.iload_n 3, 1) := by decide +kernel
theorem dX4_turn_119 : decode cX4_turn 119 = .ok (.iastore, 1) := by decide +kernel
theorem dX4_turn_120 : decode cX4_turn 120 = .ok (.goto 23, 3) := by decide +kernel
theorem dX4_turn_123 : decode cX4_turn 123 = .ok (.iload_n 1, 1) := by decide +kernel
theorem dX4_turn_124 : decode cX4_turn 124 = .ok (.iconst 3, 1) := by decide +kernel
theorem dX4_turn_125 : decode cX4_turn 125 = .ok (.if_icmp .ne 18, 3) := by decide +kernel
theorem dX4_turn_128 : decode cX4_turn 128 = .ok (.aload_n 0, 1) := by decide +kernel
theorem dX4_turn_129 : decode cX4_turn 129 = .ok (.getfield 9, 3) := by decide +kernel
theorem dX4_turn_132 : decode cX4_turn 132 = .ok (.iconst 0, 1) := by decide +kernel
theorem dX4_turn_133 : decode cX4_turn 133 = .ok (.iload 4, 2) := by decide +kernel
theorem dX4_turn_135 : decode cX4_turn 135 = .ok (.iastore, 1) := by decide +kernel
theorem dX4_turn_136 : decode cX4_turn 136 = .ok (.aload_n 0, 1) := by decide +kernel
theorem dX4_turn_137 : decode cX4_turn 137 = .ok (.getfield 9, 3) := by decide +kernel
theorem dX4_turn_140 : decode cX4_turn 140 = .ok (.iload_n 2, 1) := by decide +kernel
theorem dX4_turn_141 : decode cX4_turn 141 = .ok (.iload_n 3, 1) := by decide +kernel
theorem dX4_turn_142 : decode cX4_turn 142 = .ok (.iastore, 1) := by decide +kernel
theorem dX4_turn_143 : decode cX4_turn 143 = .ok (.return_, 1) := by decide +kernel
theorem dX4_stay_0 : decode cX4_stay 0 = .ok (.iconst 0, 1) := by decide +kernel
theorem dX4_stay_1 : decode cX4_stay 1 = .ok (.istore_n 2, 1) := by decide +kernel
theorem dX4_stay_2 : decode cX4_stay 2 = .ok (.iconst 0, 1) := by decide +kernel
theorem dX4_stay_3 : decode cX4_stay 3 = .ok (.istore_n 3, 1) := by decide +kernel
theorem dX4_stay_4 : decode cX4_stay 4 = .ok (.iload_n 3, 1) := by decide +kernel
theorem dX4_stay_5 : decode cX4_stay 5 = .ok (.aload_n 0, 1) := by decide +kernel
theorem dX4_stay_6 : decode cX4_stay 6 = .ok (.getfield 18, 3) := by decide +kernel
theorem dX4_stay_9 : decode cX4_stay 9 = .ok (.getfield 44, 3) := by decide +kernel
theorem dX4_stay_12 : decode cX4_stay 12 = .ok (.if_icmp .ge 86, 3) := by decide +kernel
theorem dX4_stay_15 : decode cX4_stay 15 = .ok (.aload_n 0, 1) := by decide +kernel
theorem dX4_stay_16 : decode cX4_stay 16 = .ok (.getfield 9, 3) := by decide +kernel
theorem dX4_stay_19 : decode cX4_stay 19 = .ok (.iload_n 3, 1) := by decide +kernel
theorem dX4_stay_20 : decode cX4_stay 20 = .ok (.iaload, 1) := by decide +kernel
theorem dX4_stay_21 : decode cX4_stay 21 = .ok (.istore 4, 2) := by decide +kernel
theorem dX4_stay_23 : decode cX4_stay 23 = .ok (.iload 4, 2) := by decide +kernel
theorem dX4_stay_25 : decode cX4_stay 25 = .ok (.iconst (-1), 1) := by decide +kernel
theorem dX4_stay_26 : decode cX4_stay 26 = .ok (.if_icmp .eq 66, 3) := by decide +kernel
theorem dX4_stay_29 : decode cX4_stay 29 = .ok (.iload_n 2, 1) := by decide +kernel
theorem dX4_stay_30 : decode cX4_stay 30 = .ok (.iconst 1, 1) := by decide +kernel
theorem dX4_stay_31 : decode cX4_stay 31 = .ok (.iload 4, 2) := by decide +kernel
theorem dX4_stay_33 : decode cX4_stay 33 = .ok (.ishl, 1) := by decide +kernel
theorem dX4_stay_34 : decode cX4_stay 34 = .ok (.ior, 1) := by decide +kernel
theorem dX4_stay_35 : decode cX4_stay 35 = .ok (.istore_n 2, 1) := by decide +kernel
theorem dX4_stay_36 : decode cX4_stay 36 = .ok (.aload_n 0, 1) := by decide +kernel
theorem dX4_stay_37 : decode cX4_stay 37 = .ok (.getfield 18, 3) := by decide +kernel
theorem dX4_stay_40 : decode cX4_stay 40 = .ok (.getfield 72, 3) := by decide +kernel
theorem dX4_stay_43 : decode cX4_stay 43 = .ok (.iload_n 3, 1) := by decide +kernel
theorem dX4_stay_44 : decode cX4_stay 44 = .ok (.iaload, 1) := by decide +kernel
theorem dX4_stay_45 : decode cX4_stay 45 = .ok (.aload_n 0, 1) := by decide +kernel
theorem dX4_stay_46 : decode cX4_stay 46 = .ok (.iload_n 3, 1) := by decide +kernel
theorem dX4_stay_47 : decode cX4_stay 47 = .ok (.invokevirtual 75, 3) := by decide +kernel
theorem dX4_stay_50 : decode cX4_stay 50 = .ok (.iadd, 1) := by decide +kernel
theorem dX4_stay_51 : decode cX4_stay 51 = .ok (.aload_n 0, 1) := by decide +kernel
theorem dX4_stay_52 : decode cX4_stay 52 = .ok (.getfield 18, 3) := by decide +kernel
theorem dX4_stay_55 : decode cX4_stay 55 = .ok (.getfield 78, 3) := by decide +kernel
theorem dX4_stay_58 : decode cX4_stay 58 = .ok (.iload 4, 2) := by decide +kernel
theorem dX4_stay_60 : decode cX4_stay 60 = .ok (.iaload, 1) := by decide +kernel
theorem dX4_stay_61 : decode cX4_stay 61 = .ok (.isub, 1) := by decide +kernel
theorem dX4_stay_62 : decode cX4_stay 62 = .ok (.istore 5, 2) := by decide +kernel
theorem dX4_stay_64 : decode cX4_stay 64 = .ok (.aload_n 0, 1) := by decide +kernel
theorem dX4_stay_65 : decode cX4_stay 65 = .ok (.getfield 15, 3) := by decide +kernel
theorem dX4_stay_68 : decode cX4_stay 68 = .ok (.iload 4, 2) := by decide +kernel
theorem dX4_stay_70 : decode cX4_stay 70 = .ok (.iconst 0, 1) := by decide +kernel
theorem dX4_stay_71 : decode cX4_stay 71 = .ok (.bipush 99, 2) := by decide +kernel
theorem dX4_stay_73 : decode cX4_stay 73 = .ok (.aload_n 0, 1) := by decide +kernel
theorem dX4_stay_74 : decode cX4_stay 74 = .ok (.getfield 15, 3) := by decide +kernel
theorem dX4_stay_77 : decode cX4_stay 77 = .ok (.iload 4, 2) := by decide +kernel
theorem dX4_stay_79 : decode cX4_stay 79 = .ok (.iaload, 1) := by decide +kernel
theorem dX4_stay_80 : decode cX4_stay 80 = .ok (.iload_n 1, 1) := by decide +kernel
theorem dX4_stay_81 : decode cX4_stay 81 = .ok (.iload 5, 2) := by decide +kernel
theorem dX4_stay_83 : decode cX4_stay 83 = .ok (.imul, 1) := by decide +kernel
theorem dX4_stay_84 : decode cX4_stay 84 = .ok (.iadd, 1) := by decide +kernel
theorem dX4_stay_85 : decode cX4_stay 85 = .ok (.invokestatic 81, 3) := by decide +kernel
theorem dX4_stay_88 : decode cX4_stay 88 = .ok (.invokestatic 87, 3) := by decide +kernel
theorem dX4_stay_91 : decode cX4_stay 91 = .ok (.iastore, 1) := by decide +kernel
theorem dX4_stay_92 : decode cX4_stay 92 = .ok (.iinc 3 1, 3) := by decide +kernel
theorem dX4_stay_95 : decode cX4_stay 95 = .ok (.goto (-91), 3) := by decide +kernel
theorem dX4_stay_98 : decode cX4_stay 98 = .ok (.iconst 0, 1) := by decide +kernel
theorem dX4_stay_99 : decode cX4_stay 99 = .ok (.istore_n 3, 1) := by decide +kernel
theorem dX4_stay_100 : decode cX4_stay 100 = .ok (.iload_n 3, 1) := by decide +kernel
theorem dX4_stay_101 : decode cX4_stay 101 = .ok (.aload_n 0, 1) := by decide +kernel
theorem dX4_stay_102 : decode cX4_stay 102 = .ok (.getfield 18, 3) := by decide +kernel
theorem dX4_stay_105 : decode cX4_stay 105 = .ok (.getfield 22, 3) := by decide +kernel
theorem dX4_stay_108 : decode cX4_stay 108 = .ok (.if_icmp .ge 47, 3) := by decide +kernel
theorem dX4_stay_111 : decode cX4_stay 111 = .ok (.iload_n 2, 1) := by decide +kernel
theorem dX4_stay_112 : decode cX4_stay 112 = .ok (.iload_n 3, 1) := by decide +kernel
theorem dX4_stay_113 : decode cX4_stay 113 = .ok (.ishr, 1) := by decide +kernel
theorem dX4_stay_114 : decode cX4_stay 114 = .ok (.iconst 1, 1) := by decide +kernel
theorem dX4_stay_115 : decode cX4_stay 115 = .ok (.iand, 1) := by decide +kernel
theorem dX4_stay_116 : decode cX4_stay 116 = .ok (.ifCond .ne 33, 3) := by decide +kernel
theorem dX4_stay_119 : decode cX4_stay 119 = .ok (.aload_n 0, 1) := by decide +kernel
theorem dX4_stay_120 : decode cX4_stay 120 = .ok (.getfield 15, 3) := by decide +kernel
theorem dX4_stay_123 : decode cX4_stay 123 = .ok (.iload_n 3, 1) := by decide +kernel
theorem dX4_stay_124 : decode cX4_stay 124 = .ok (.iconst 0, 1) := by decide +kernel
theorem dX4_stay_125 : decode cX4_stay 125 = .ok (.aload_n 0, 1) := by decide +kernel
theorem dX4_stay_126 : decode cX4_stay 126 = .ok (.getfield 15, 3) := by decide +kernel
theorem dX4_stay_129 : decode cX4_stay 129 = .ok (.iload_n 3, 1) := by decide +kernel
theorem dX4_stay_130 : decode cX4_stay 130 = .ok (.iaload, 1) := by decide +kernel
theorem dX4_stay_131 : decode cX4_stay 131 = .ok (.iload_n 1, 1) := by decide +kernel
theorem dX4_stay_132 : decode cX4_stay 132 = .ok (.iconst 2, 1) := by decide +kernel
theorem dX4_stay_133 : decode cX4_stay 133 = .ok (.imul, 1) := by decide +kernel
theorem dX4_stay_134 : decode cX4_stay 134 = .ok (.aload_n 0, 1) := by decide +kernel
theorem dX4_stay_135 : decode cX4_stay 135 = .ok (.getfield 18, 3) := by decide +kernel
theorem dX4_stay_138 : decode cX4_stay 138 = .ok (.getfield 78, 3) := by decide +kernel
theorem dX4_stay_141 : decode cX4_stay 141 = .ok (.iload_n 3, 1) := by decide +kernel
theorem dX4_stay_142 : decode cX4_stay 142 = .ok (.iaload, 1) := by decide +kernel
theorem dX4_stay_143 : decode cX4_stay 143 = .ok (.imul, 1) := by decide +kernel
theorem dX4_stay_144 : decode cX4_stay 144 = .ok (.isub, 1) := by decide +kernel
theorem dX4_stay_145 : decode cX4_stay 145 = .ok (.invokestatic 87, 3) := by decide +kernel
theorem dX4_stay_148 : decode cX4_stay 148 = .ok (.iastore, 1) := by decide +kernel
theorem dX4_stay_149 : decode cX4_stay 149 = .ok (.iinc 3 1, 3) := by decide +kernel
theorem dX4_stay_152 : decode cX4_stay 152 = .ok (.goto (-52), 3) := by decide +kernel
theorem dX4_stay_155 : decode cX4_stay 155 = .ok (.return_, 1) := by decide +kernel
theorem dX4_givenTo_0 : decode cX4_givenTo 0 = .ok (.aload_n 0, 1) := by decide +kernel
theorem dX4_givenTo_1 : decode cX4_givenTo 1 = .ok (.getfield 18, 3) := by decide +kernel
theorem dX4_givenTo_4 : decode cX4_givenTo 4 = .ok (.getfield 44, 3) := by decide +kernel
theorem dX4_givenTo_7 : decode cX4_givenTo 7 = .ok (.iconst 1, 1) := by decide +kernel
theorem dX4_givenTo_8 : decode cX4_givenTo 8 = .ok (.isub, 1) := by decide +kernel
theorem dX4_givenTo_9 : decode cX4_givenTo 9 = .ok (.istore_n 2, 1) := by decide +kernel
theorem dX4_givenTo_10 : decode cX4_givenTo 10 = .ok (.aload_n 0, 1) := by decide +kernel
theorem dX4_givenTo_11 : decode cX4_givenTo 11 = .ok (.getfield 18, 3) := by decide +kernel
theorem dX4_givenTo_14 : decode cX4_givenTo 14 = .ok (.getfield 90, 3) := by decide +kernel
theorem dX4_givenTo_17 : decode cX4_givenTo 17 = .ok (.ifCond .eq 12, 3) := by decide +kernel
theorem dX4_givenTo_20 : decode cX4_givenTo 20 = .ok (.iload_n 2, 1) := by decide +kernel
theorem dX4_givenTo_21 : decode cX4_givenTo 21 = .ok (.iconst 1, 1) := by decide +kernel
theorem dX4_givenTo_22 : decode cX4_givenTo 22 = .ok (.if_icmp .le 7, 3) := by decide +kernel
theorem dX4_givenTo_25 : decode cX4_givenTo 25 = .ok (.iconst 1, 1) := by decide +kernel
theorem dX4_givenTo_26 : decode cX4_givenTo 26 = .ok (.goto 4, 3) := by decide +kernel
theorem dX4_givenTo_29 : decode cX4_givenTo 29 = .ok (.iconst 0, 1) := by decide +kernel
theorem dX4_givenTo_30 : decode cX4_givenTo 30 = .ok (.istore_n 3, 1) := by decide +kernel
theorem dX4_givenTo_31 : decode cX4_givenTo 31 = .ok (.iload_n 1, 1) := by decide +kernel
theorem dX4_givenTo_32 : decode cX4_givenTo 32 = .ok (.ifCond .le 9, 3) := by decide +kernel
theorem dX4_givenTo_35 : decode cX4_givenTo 35 = .ok (.iload_n 1, 1) := by decide +kernel
theorem dX4_givenTo_36 : decode cX4_givenTo 36 = .ok (.iconst 1, 1) := by decide +kernel
theorem dX4_givenTo_37 : decode cX4_givenTo 37 = .ok (.isub, 1) := by decide +kernel
theorem dX4_givenTo_38 : decode cX4_givenTo 38 = .ok (.goto 12, 3) := by decide +kernel
theorem dX4_givenTo_41 : decode cX4_givenTo 41 = .ok (.iload_n 3, 1) := by decide +kernel
theorem dX4_givenTo_42 : decode cX4_givenTo 42 = .ok (.ifCond .eq 7, 3) := by decide +kernel
theorem dX4_givenTo_45 : decode cX4_givenTo 45 = .ok (.iload_n 2, 1) := by decide +kernel
theorem dX4_givenTo_46 : decode cX4_givenTo 46 = .ok (.goto 4, 3) := by decide +kernel
theorem dX4_givenTo_49 : decode cX4_givenTo 49 = .ok (.iconst (-1), 1) := by decide +kernel
theorem dX4_givenTo_50 : decode cX4_givenTo 50 = .ok (.istore 4, 2) := by decide +kernel
theorem dX4_givenTo_52 : decode cX4_givenTo 52 = .ok (.iload_n 1, 1) := by decide +kernel
theorem dX4_givenTo_53 : decode cX4_givenTo 53 = .ok (.iload_n 2, 1) := by decide +kernel
theorem dX4_givenTo_54 : decode cX4_givenTo 54 = .ok (.if_icmp .ge 9, 3) := by decide +kernel
theorem dX4_givenTo_57 : decode cX4_givenTo 57 = .ok (.iload_n 1, 1) := by decide +kernel
theorem dX4_givenTo_58 : decode cX4_givenTo 58 = .ok (.iconst 1, 1) := by decide +kernel
theorem dX4_givenTo_59 : decode cX4_givenTo 59 = .ok (.iadd, 1) := by decide +kernel
theorem dX4_givenTo_60 : decode cX4_givenTo 60 = .ok (.goto 12, 3) := by decide +kernel
theorem dX4_givenTo_63 : decode cX4_givenTo 63 = .ok (.iload_n 3, 1) := by decide +kernel
theorem dX4_givenTo_64 : decode cX4_givenTo 64 = .ok (.ifCond .eq 7, 3) := by decide +kernel
theorem dX4_givenTo_67 : decode cX4_givenTo 67 = .ok (.iconst 0, 1) := by decide +kernel
theorem dX4_givenTo_68 : decode cX4_givenTo 68 = .ok (.goto 4, 3) := by decide +kernel
theorem dX4_givenTo_71 : decode cX4_givenTo 71 = .ok (.iconst (-1), 1) := by decide +kernel
theorem dX4_givenTo_72 : decode cX4_givenTo 72 = .ok (.istore 5, 2) := by decide +kernel
theorem dX4_givenTo_74 : decode cX4_givenTo 74 = .ok (.aload_n 0, 1) := by decide +kernel
theorem dX4_givenTo_75 : decode cX4_givenTo 75 = .ok (.iload 4, 2) := by decide +kernel
theorem dX4_givenTo_77 : decode cX4_givenTo 77 = .ok (.invokevirtual 94, 3) := by decide +kernel
theorem dX4_givenTo_80 : decode cX4_givenTo 80 = .ok (.aload_n 0, 1) := by decide +kernel
theorem dX4_givenTo_81 : decode cX4_givenTo 81 = .ok (.iload 5, 2) := by decide +kernel
theorem dX4_givenTo_83 : decode cX4_givenTo 83 = .ok (.invokevirtual 94, 3) := by decide +kernel
theorem dX4_givenTo_86 : decode cX4_givenTo 86 = .ok (.iadd, 1) := by decide +kernel
theorem dX4_givenTo_87 : decode cX4_givenTo 87 = .ok (.ireturn, 1) := by decide +kernel
theorem dX4_givenFrom_0 : decode cX4_givenFrom 0 = .ok (.iload_n 1, 1) := by decide +kernel
theorem dX4_givenFrom_1 : decode cX4_givenFrom 1 = .ok (.iconst (-1), 1) := by decide +kernel
theorem dX4_givenFrom_2 : decode cX4_givenFrom 2 = .ok (.if_icmp .eq 13, 3) := by decide +kernel
theorem dX4_givenFrom_5 : decode cX4_givenFrom 5 = .ok (.aload_n 0, 1) := by decide +kernel
theorem dX4_givenFrom_6 : decode cX4_givenFrom 6 = .ok (.getfield 9, 3) := by decide +kernel
theorem dX4_givenFrom_9 : decode cX4_givenFrom 9 = .ok (.iload_n 1, 1) := by decide +kernel
theorem dX4_givenFrom_10 : decode cX4_givenFrom 10 = .ok (.iaload, 1) := by decide +kernel
theorem dX4_givenFrom_11 : decode cX4_givenFrom 11 = .ok (.iconst (-1), 1) := by decide +kernel
theorem dX4_givenFrom_12 : decode cX4_givenFrom 12 = .ok (.if_icmp .ne 7, 3) := by decide +kernel
theorem dX4_givenFrom_15 : decode cX4_givenFrom 15 = .ok (.iconst 0, 1) := by decide +kernel
theorem dX4_givenFrom_16 : decode cX4_givenFrom 16 = .ok (.goto 17, 3) := by decide +kernel
theorem dX4_givenFrom_19 : decode cX4_givenFrom 19 = .ok (.aload_n 0, 1) := by decide +kernel
theorem dX4_givenFrom_20 : decode cX4_givenFrom 20 = .ok (.getfield 18, 3) := by decide +kernel
theorem dX4_givenFrom_23 : decode cX4_givenFrom 23 = .ok (.getfield 97, 3) := by decide +kernel
theorem dX4_givenFrom_26 : decode cX4_givenFrom 26 = .ok (.aload_n 0, 1) := by decide +kernel
theorem dX4_givenFrom_27 : decode cX4_givenFrom 27 = .ok (.getfield 9, 3) := by decide +kernel
theorem dX4_givenFrom_30 : decode cX4_givenFrom 30 = .ok (.iload_n 1, 1) := by decide +kernel
theorem dX4_givenFrom_31 : decode cX4_givenFrom 31 = .ok (.iaload, 1) := by decide +kernel
theorem dX4_givenFrom_32 : decode cX4_givenFrom 32 = .ok (.iaload, 1) := by decide +kernel
theorem dX4_givenFrom_33 : decode cX4_givenFrom 33 = .ok (.ireturn, 1) := by decide +kernel
theorem dX5_init_0 : decode cX5_init 0 = .ok (.aload_n 0, 1) := by decide +kernel
theorem dX5_init_1 : decode cX5_init 1 = .ok (.invokespecial 3, 3) := by decide +kernel
theorem dX5_init_4 : decode cX5_init 4 = .ok (.aload_n 0, 1) := by decide +kernel
theorem dX5_init_5 : decode cX5_init 5 = .ok (.bipush 30, 2) := by decide +kernel
theorem dX5_init_7 : decode cX5_init 7 = .ok (.newarray .long, 2) := by decide +kernel
theorem dX5_init_9 : decode cX5_init 9 = .ok (.putfield 9, 3) := by decide +kernel
theorem dX5_init_12 : decode cX5_init 12 = .ok (.aload_n 0, 1) := by decide +kernel
theorem dX5_init_13 : decode cX5_init 13 = .ok (.bipush 30, 2) := by decide +kernel
theorem dX5_init_15 : decode cX5_init 15 = .ok (.newarray .int, 2) := by decide +kernel
theorem dX5_init_17 : decode cX5_init 17 = .ok (.putfield 15, 3) := by decide +kernel
theorem dX5_init_20 : decode cX5_init 20 = .ok (.return_, 1) := by decide +kernel
theorem dX5_forget_0 : decode cX5_forget 0 = .ok (.aload_n 0, 1) := by decide +kernel
theorem dX5_forget_1 : decode cX5_forget 1 = .ok (.iconst 0, 1) := by decide +kernel
theorem dX5_forget_2 : decode cX5_forget 2 = .ok (.putfield 19, 3) := by decide +kernel
theorem dX5_forget_5 : decode cX5_forget 5 = .ok (.return_, 1) := by decide +kernel
theorem dX5_remember_0 : decode cX5_remember 0 = .ok (.aload_n 0, 1) := by decide +kernel
theorem dX5_remember_1 : decode cX5_remember 1 = .ok (.getfield 9, 3) := by decide +kernel
theorem dX5_remember_4 : decode cX5_remember 4 = .ok (.aload_n 0, 1) := by decide +kernel
theorem dX5_remember_5 : decode cX5_remember 5 = .ok (.getfield 23, 3) := by decide +kernel
theorem dX5_remember_8 : decode cX5_remember 8 = .ok (.aload_n 1, 1) := by decide +kernel
theorem dX5_remember_9 : decode cX5_remember 9 = .ok (.invokevirtual 26, 3) := by decide +kernel
theorem dX5_remember_12 : decode cX5_remember 12 = .ok (.lastore, 1) := by decide +kernel
theorem dX5_remember_13 : decode cX5_remember 13 = .ok (.aload_n 0, 1) := by decide +kernel
theorem dX5_remember_14 : decode cX5_remember 14 = .ok (.getfield 15, 3) := by decide +kernel
theorem dX5_remember_17 : decode cX5_remember 17 = .ok (.aload_n 0, 1) := by decide +kernel
theorem dX5_remember_18 : decode cX5_remember 18 = .ok (.getfield 23, 3) := by decide +kernel
theorem dX5_remember_21 : decode cX5_remember 21 = .ok (.aload_n 1, 1) := by decide +kernel
theorem dX5_remember_22 : decode cX5_remember 22 = .ok (.getfield 32, 3) := by decide +kernel
theorem dX5_remember_25 : decode cX5_remember 25 = .ok (.iastore, 1) := by decide +kernel
theorem dX5_remember_26 : decode cX5_remember 26 = .ok (.aload_n 0, 1) := by decide +kernel
theorem dX5_remember_27 : decode cX5_remember 27 = .ok (.aload_n 0, 1) := by decide +kernel
theorem dX5_remember_28 : decode cX5_remember 28 = .ok (.getfield 23, 3) := by decide +kernel
theorem dX5_remember_31 : decode cX5_remember 31 = .ok (.iconst 1, 1) := by decide +kernel
theorem dX5_remember_32 : decode cX5_remember 32 = .ok (.iadd, 1) := by decide +kernel
theorem dX5_remember_33 : decode cX5_remember 33 = .ok (.bipush 30, 2) := by decide +kernel
theorem dX5_remember_35 : decode cX5_remember 35 = .ok (.if_icmp .ge 12, 3) := by decide +kernel
theorem dX5_remember_38 : decode cX5_remember 38 = .ok (.aload_n 0, 1) := by decide +kernel
theorem dX5_remember_39 : decode cX5_remember 39 = .ok (.getfield 23, 3) := by decide +kernel
theorem dX5_remember_42 : decode cX5_remember 42 = .ok (.iconst 1, 1) := by decide +kernel
theorem dX5_remember_43 : decode cX5_remember 43 = .ok (.iadd, 1) := by decide +kernel
theorem dX5_remember_44 : decode cX5_remember 44 = .ok (.goto 4, 3) := by decide +kernel
theorem dX5_remember_47 : decode cX5_remember 47 = .ok (.iconst 0, 1) := by decide +kernel
theorem dX5_remember_48 : decode cX5_remember 48 = .ok (.putfield 23, 3) := by decide +kernel
theorem dX5_remember_51 : decode cX5_remember 51 = .ok (.aload_n 0, 1) := by decide +kernel
theorem dX5_remember_52 : decode cX5_remember 52 = .ok (.aload_n 0, 1) := by decide +kernel
theorem dX5_remember_53 : decode cX5_remember 53 = .ok (.getfield 19, 3) := by decide +kernel
theorem dX5_remember_56 : decode cX5_remember 56 = .ok (.iconst 1, 1) := by decide +kernel
theorem dX5_remember_57 : decode cX5_remember 57 = .ok (.iadd, 1) := by decide +kernel
theorem dX5_remember_58 : decode cX5_remember 58 = .ok (.bipush 30, 2) := by decide +kernel
theorem dX5_remember_60 : decode cX5_remember 60 = .ok (.invokestatic 34, 3) := by decide +kernel
theorem dX5_remember_63 : decode cX5_remember 63 = .ok (.putfield 19, 3) := by decide +kernel
theorem dX5_remember_66 : decode cX5_remember 66 = .ok (.return_, 1) := by decide +kernel
theorem dX5_bringBack_0 : decode cX5_bringBack 0 = .ok (.iload_n 1, 1) := by decide +kernel
theorem dX5_bringBack_1 : decode cX5_bringBack 1 = .ok (.iconst 1, 1) := by decide +kernel
theorem dX5_bringBack_2 : decode cX5_bringBack 2 = .ok (.if_icmp .lt 11, 3) := by decide +kernel
theorem dX5_bringBack_5 : decode cX5_bringBack 5 = .ok (.iload_n 1, 1) := by decide +kernel
theorem dX5_bringBack_6 : decode cX5_bringBack 6 = .ok (.aload_n 0, 1) := by decide +kernel
theorem dX5_bringBack_7 : decode cX5_bringBack 7 = .ok (.getfield 19, 3) := by decide +kernel
theorem dX5_bringBack_10 : decode cX5_bringBack 10 = .ok (.if_icmp .le 4, 3) := by decide +kernel
theorem dX5_bringBack_13 : decode cX5_bringBack 13 = .ok (.return_, 1) := by decide +kernel
theorem dX5_bringBack_14 : decode cX5_bringBack 14 = .ok (.aload_n 0, 1) := by decide +kernel
theorem dX5_bringBack_15 : decode cX5_bringBack 15 = .ok (.aload_n 0, 1) := by decide +kernel
theorem dX5_bringBack_16 : decode cX5_bringBack 16 = .ok (.getfield 23, 3) := by decide +kernel
theorem dX5_bringBack_19 : decode cX5_bringBack 19 = .ok (.iload_n 1, 1) := by decide +kernel
theorem dX5_bringBack_20 : decode cX5_bringBack 20 = .ok (.if_icmp .lt 12, 3) := by decide +kernel
theorem dX5_bringBack_23 : decode cX5_bringBack 23 = .ok (.aload_n 0, 1) := by decide +kernel
theorem dX5_bringBack_24 : decode cX5_bringBack 24 = .ok (.getfield 23, 3) := by decide +kernel
theorem dX5_bringBack_27 : decode cX5_bringBack 27 = .ok (.iload_n 1, 1) := by decide +kernel
theorem dX5_bringBack_28 : decode cX5_bringBack 28 = .ok (.isub, 1) := by decide +kernel
theorem dX5_bringBack_29 : decode cX5_bringBack 29 = .ok (.goto 12, 3) := by decide +kernel
theorem dX5_bringBack_32 : decode cX5_bringBack 32 = .ok (.aload_n 0, 1) := by decide +kernel
theorem dX5_bringBack_33 : decode cX5_bringBack 33 = .ok (.getfield 23, 3) := by decide +kernel
theorem dX5_bringBack_36 : decode cX5_bringBack 36 = .ok (.iload_n 1, 1) := by decide +kernel
theorem dX5_bringBack_37 : decode cX5_bringBack 37 = .ok (.isub, 1) := by decide +kernel
theorem dX5_bringBack_38 : decode cX5_bringBack 38 = .ok (.bipush 30, 2) := by decide +kernel
theorem dX5_bringBack_40 : decode cX5_bringBack 40 = .ok (.iadd, 1) := by decide +kernel
theorem dX5_bringBack_41 : decode cX5_bringBack 41 = .ok (.putfield 23, 3) := by decide +kernel
theorem dX5_bringBack_44 : decode cX5_bringBack 44 = .ok (.aload_n 0, 1) := by decide +kernel
theorem dX5_bringBack_45 : decode cX5_bringBack 45 = .ok (.dup, 1) := by decide +kernel
theorem dX5_bringBack_46 : decode cX5_bringBack 46 = .ok (.getfield 19, 3) := by decide +kernel
theorem dX5_bringBack_49 : decode cX5_bringBack 49 = .ok (.iload_n 1, 1) := by decide +kernel
theorem dX5_bringBack_50 : decode cX5_bringBack 50 = .ok (.isub, 1) := by decide +kernel
theorem dX5_bringBack_51 : decode cX5_bringBack 51 = .ok (.putfield 19, 3) := by decide +kernel
theorem dX5_bringBack_54 : decode cX5_bringBack 54 = .ok (.aload_n 2, 1) := by decide +kernel
theorem dX5_bringBack_55 : decode cX5_bringBack 55 = .ok (.aload_n 0, 1) := by decide +kernel
theorem dX5_bringBack_56 : decode cX5_bringBack 56 = .ok (.getfield 9, 3) := by decide +kernel
theorem dX5_bringBack_59 : decode cX5_bringBack 59 = .ok (.aload_n 0, 1) := by decide +kernel
theorem dX5_bringBack_60 : decode cX5_bringBack 60 = .ok (.getfield 23, 3) := by decide +kernel
theorem dX5_bringBack_63 : decode cX5_bringBack 63 = .ok (.laload, 1) := by decide +kernel
theorem dX5_bringBack_64 : decode cX5_bringBack 64 = .ok (.aload_n 0, 1) := by decide +kernel
theorem dX5_bringBack_65 : decode cX5_bringBack 65 = .ok (.getfield 15, 3) := by decide +kernel
theorem dX5_bringBack_68 : decode cX5_bringBack 68 = .ok (.aload_n 0, 1) := by decide +kernel
theorem dX5_bringBack_69 : decode cX5_bringBack 69 = .ok (.getfield 23, 3) := by decide +kernel
theorem dX5_bringBack_72 : decode cX5_bringBack 72 = .ok (.iaload, 1) := by decide +kernel
theorem dX5_bringBack_73 : decode cX5_bringBack 73 = .ok (.invokevirtual 40, 3) := by decide +kernel
theorem dX5_bringBack_76 : decode cX5_bringBack 76 = .ok (.return_, 1) := by decide +kernel
theorem dX6_init_0 : decode cX6_init 0 = .ok (.aload_n 0, 1) := by decide +kernel
theorem dX6_init_1 : decode cX6_init 1 = .ok (.invokespecial 3, 3) := by decide +kernel
theorem dX6_init_4 : decode cX6_init 4 = .ok (.aload_n 0, 1) := by decide +kernel
theorem dX6_init_5 : decode cX6_init 5 = .ok (.sipush 200, 3) := by decide +kernel
theorem dX6_init_8 : decode cX6_init 8 = .ok (.newarray .int, 2) := by decide +kernel
theorem dX6_init_10 : decode cX6_init 10 = .ok (.putfield 9, 3) := by decide +kernel
theorem dX6_init_13 : decode cX6_init 13 = .ok (.aload_n 0, 1) := by decide +kernel
theorem dX6_init_14 : decode cX6_init 14 = .ok (.new 15, 3) := by decide +kernel
theorem dX6_init_17 : decode cX6_init 17 = .ok (.dup, 1) := by decide +kernel
theorem dX6_init_18 : decode cX6_init 18 = .ok (.invokespecial 17, 3) := by decide +kernel
theorem dX6_init_21 : decode cX6_init 21 = .ok (.putfield 18, 3) := by decide +kernel
theorem dX6_init_24 : decode cX6_init 24 = .ok (.aload_n 0, 1) := by decide +kernel
theorem dX6_init_25 : decode cX6_init 25 = .ok (.iconst (-1), 1) := by decide +kernel
theorem dX6_init_26 : decode cX6_init 26 = .ok (.putfield 22, 3) := by decide +kernel
theorem dX6_init_29 : decode cX6_init 29 = .ok (.return_, 1) := by decide +kernel
theorem dX6_add_0 : decode cX6_add 0 = .ok (.aload_n 0, 1) := by decide +kernel
theorem dX6_add_1 : decode cX6_add 1 = .ok (.getfield 26, 3) := by decide +kernel
theorem dX6_add_4 : decode cX6_add 4 = .ok (.sipush 200, 3) := by decide +kernel
theorem dX6_add_7 : decode cX6_add 7 = .ok (.if_icmp .lt 5, 3) := by decide +kernel
theorem dX6_add_10 : decode cX6_add 10 = .ok (.iconst 0, 1) := by decide +kernel
theorem dX6_add_11 : decode cX6_add 11 = .ok (.ireturn, 1) := by decide +kernel
theorem dX6_add_12 : decode cX6_add 12 = .ok (.aload_n 0, 1) := by decide +kernel
theorem dX6_add_13 : decode cX6_add 13 = .ok (.getfield 9, 3) := by decide +kernel
theorem dX6_add_16 : decode cX6_add 16 = .ok (.aload_n 0, 1) := by decide +kernel
theorem dX6_add_17 : decode cX6_add 17 = .ok (.getfield 26, 3) := by decide +kernel
theorem dX6_add_20 : decode cX6_add 20 = .ok (.iload_n 1, 1) := by decide +kernel
theorem dX6_add_21 : decode cX6_add 21 = .ok (.iastore, 1) := by decide +kernel
theorem dX6_add_22 : decode cX6_add 22 = .ok (.aload_n 0, 1) := by decide +kernel
theorem dX6_add_23 : decode cX6_add 23 = .ok (.dup, 1) := by decide +kernel
theorem dX6_add_24 : decode cX6_add 24 = .ok (.getfield 26, 3) := by decide +kernel
theorem dX6_add_27 : decode cX6_add 27 = .ok (.iconst 1, 1) := by decide +kernel
theorem dX6_add_28 : decode cX6_add 28 = .ok (.iadd, 1) := by decide +kernel
theorem dX6_add_29 : decode cX6_add 29 = .ok (.putfield 26, 3) := by decide +kernel
theorem dX6_add_32 : decode cX6_add 32 = .ok (.iconst 1, 1) := by decide +kernel
theorem dX6_add_33 : decode cX6_add 33 = .ok (.ireturn, 1) := by decide +kernel
theorem dX6_readAll_0 : decode cX6_readAll 0 = .ok (.aload_n 0, 1) := by decide +kernel
theorem dX6_readAll_1 : decode cX6_readAll 1 = .ok (.getfield 18, 3) := by decide +kernel
theorem dX6_readAll_4 : decode cX6_readAll 4 = .ok (.invokevirtual 29, 3) := by decide +kernel
theorem dX6_readAll_7 : decode cX6_readAll 7 = .ok (.aload_n 0, 1) := by decide +kernel
theorem dX6_readAll_8 : decode cX6_readAll 8 = .ok (.iconst 0, 1) := by decide +kernel
theorem dX6_readAll_9 : decode cX6_readAll 9 = .ok (.putfield 32, 3) := by decide +kernel
theorem dX6_readAll_12 : decode cX6_readAll 12 = .ok (.aload_n 0, 1) := by decide +kernel
theorem dX6_readAll_13 : decode cX6_readAll 13 = .ok (.iconst 0, 1) := by decide +kernel
theorem dX6_readAll_14 : decode cX6_readAll 14 = .ok (.putfield 35, 3) := by decide +kernel
theorem dX6_readAll_17 : decode cX6_readAll 17 = .ok (.aload_n 0, 1) := by decide +kernel
theorem dX6_readAll_18 : decode cX6_readAll 18 = .ok (.iconst (-1), 1) := by decide +kernel
theorem dX6_readAll_19 : decode cX6_readAll 19 = .ok (.putfield 22, 3) := by decide +kernel
theorem dX6_readAll_22 : decode cX6_readAll 22 = .ok (.aload_n 0, 1) := by decide +kernel
theorem dX6_readAll_23 : decode cX6_readAll 23 = .ok (.iconst 0, 1) := by decide +kernel
theorem dX6_readAll_24 : decode cX6_readAll 24 = .ok (.putfield 38, 3) := by decide +kernel
theorem dX6_readAll_27 : decode cX6_readAll 27 = .ok (.aload_n 0, 1) := by decide +kernel
theorem dX6_readAll_28 : decode cX6_readAll 28 = .ok (.iconst 0, 1) := by decide +kernel
theorem dX6_readAll_29 : decode cX6_readAll 29 = .ok (.putfield 41, 3) := by decide +kernel
theorem dX6_readAll_32 : decode cX6_readAll 32 = .ok (.aload_n 0, 1) := by decide +kernel
theorem dX6_readAll_33 : decode cX6_readAll 33 = .ok (.invokevirtual 45, 3) := by decide +kernel
theorem dX6_readAll_36 : decode cX6_readAll 36 = .ok (.iconst 0, 1) := by decide +kernel
theorem dX6_readAll_37 : decode cX6_readAll 37 = .ok (.istore_n 1, 1) := by decide +kernel
theorem dX6_readAll_38 : decode cX6_readAll 38 = .ok (.iload_n 1, 1) := by decide +kernel
theorem dX6_readAll_39 : decode cX6_readAll 39 = .ok (.sipush 200, 3) := by decide +kernel
theorem dX6_readAll_42 : decode cX6_readAll 42 = .ok (.if_icmp .ge 35, 3) := by decide +kernel
theorem dX6_readAll_45 : decode cX6_readAll 45 = .ok (.aload_n 0, 1) := by decide +kernel
theorem dX6_readAll_46 : decode cX6_readAll 46 = .ok (.getfield 35, 3) := by decide +kernel
theorem dX6_readAll_49 : decode cX6_readAll 49 = .ok (.ifCond .ne 28, 3) := by decide +kernel
theorem dX6_readAll_52 : decode cX6_readAll 52 = .ok (.aload_n 0, 1) := by decide +kernel
theorem dX6_readAll_53 : decode cX6_readAll 53 = .ok (.getfield 32, 3) := by decide +kernel
theorem dX6_readAll_56 : decode cX6_readAll 56 = .ok (.aload_n 0, 1) := by decide +kernel
theorem dX6_readAll_57 : decode cX6_readAll 57 = .ok (.getfield 26, 3) := by decide +kernel
theorem dX6_readAll_60 : decode cX6_readAll 60 = .ok (.if_icmp .ge 17, 3) := by decide +kernel
theorem dX6_readAll_63 : decode cX6_readAll 63 = .ok (.aload_n 0, 1) := by decide +kernel
theorem dX6_readAll_64 : decode cX6_readAll 64 = .ok (.invokevirtual 48, 3) := by decide +kernel
theorem dX6_readAll_67 : decode cX6_readAll 67 = .ok (.aload_n 0, 1) := by decide +kernel
theorem dX6_readAll_68 : decode cX6_readAll 68 = .ok (.invokevirtual 45, 3) := by decide +kernel
theorem dX6_readAll_71 : decode cX6_readAll 71 = .ok (.iinc 1 1, 3) := by decide +kernel
theorem dX6_readAll_74 : decode cX6_readAll 74 = .ok (.goto (-36), 3) := by decide +kernel
theorem dX6_readAll_77 : decode cX6_readAll 77 = .ok (.aload_n 0, 1) := by decide +kernel
theorem dX6_readAll_78 : decode cX6_readAll 78 = .ok (.iconst 0, 1) := by decide +kernel
theorem dX6_readAll_79 : decode cX6_readAll 79 = .ok (.putfield 26, 3) := by decide +kernel
theorem dX6_readAll_82 : decode cX6_readAll 82 = .ok (.aload_n 0, 1) := by decide +kernel
theorem dX6_readAll_83 : decode cX6_readAll 83 = .ok (.getfield 35, 3) := by decide +kernel
theorem dX6_readAll_86 : decode cX6_readAll 86 = .ok (.ireturn, 1) := by decide +kernel
theorem dX6_readClause_0 : decode cX6_readClause 0 = .ok (.aload_n 0, 1) := by decide +kernel
theorem dX6_readClause_1 : decode cX6_readClause 1 = .ok (.getfield 9, 3) := by decide +kernel
theorem dX6_readClause_4 : decode cX6_readClause 4 = .ok (.aload_n 0, 1) := by decide +kernel
theorem dX6_readClause_5 : decode cX6_readClause 5 = .ok (.getfield 32, 3) := by decide +kernel
theorem dX6_readClause_8 : decode cX6_readClause 8 = .ok (.iaload, 1) := by decide +kernel
theorem dX6_readClause_9 : decode cX6_readClause 9 = .ok (.istore_n 1, 1) := by decide +kernel
theorem dX6_readClause_10 : decode cX6_readClause 10 = .ok (.aload_n 0, 1) := by decide +kernel
theorem dX6_readClause_11 : decode cX6_readClause 11 = .ok (.getfield 18, 3) := by decide +kernel
theorem dX6_readClause_14 : decode cX6_readClause 14 = .ok (.getfield 51, 3) := by decide +kernel
theorem dX6_readClause_17 : decode cX6_readClause 17 = .ok (.ifCond .ne 26, 3) := by decide +kernel
theorem dX6_readClause_20 : decode cX6_readClause 20 = .ok (.iload_n 1, 1) := by decide +kernel
theorem dX6_readClause_21 : decode cX6_readClause 21 = .ok (.bipush 98, 2) := by decide +kernel
theorem dX6_readClause_23 : decode cX6_readClause 23 = .ok (.if_icmp .ne 10, 3) := by decide +kernel
theorem dX6_readClause_26 : decode cX6_readClause 26 = .ok (.aload_n 0, 1) := by decide +kernel
theorem dX6_readClause_27 : decode cX6_readClause 27 = .ok (.invokevirtual 54, 3) := by decide +kernel
theorem dX6_readClause_30 : decode cX6_readClause 30 = .ok (.goto 12, 3) := by decide +kernel
theorem dX6_readClause_33 : decode cX6_readClause 33 = .ok (.aload_n 0, 1) := by decide +kernel
theorem dX6_readClause_34 : decode cX6_readClause 34 = .ok (.iconst 1, 1) := by decide +kernel
theorem dX6_readClause_35 : decode cX6_readClause 35 = .ok (.aload_n 0, 1) := by decide +kernel
theorem dX6_readClause_36 : decode cX6_readClause 36 = .ok (.getfield 32, 3) := by decide +kernel
theorem dX6_readClause_39 : decode cX6_readClause 39 = .ok (.invokevirtual 57, 3) := by decide +kernel
theorem dX6_readClause_42 : decode cX6_readClause 42 = .ok (.return_, 1) := by decide +kernel
theorem dX6_readClause_43 : decode cX6_readClause 43 = .ok (.iload_n 1, 1) := by decide +kernel
theorem dX6_readClause_44 : decode cX6_readClause 44 = .ok (.lookupswitch 77 #[(98, 44), (104, 56), (114, 70), (115, 63)], 44) := by decide +kernel
theorem dX6_readClause_88 : decode cX6_readClause 88 = .ok (.aload_n 0, 1) := by decide +kernel
theorem dX6_readClause_89 : decode cX6_readClause 89 = .ok (.iconst 3, 1) := by decide +kernel
theorem dX6_readClause_90 : decode cX6_readClause 90 = .ok (.aload_n 0, 1) := by decide +kernel
theorem dX6_readClause_91 : decode cX6_readClause 91 = .ok (.getfield 32, 3) := by decide +kernel
theorem dX6_readClause_94 : decode cX6_readClause 94 = .ok (.invokevirtual 57, 3) := by decide +kernel
theorem dX6_readClause_97 : decode cX6_readClause 97 = .ok (.goto 33, 3) := by decide +kernel
theorem dX6_readClause_100 : decode cX6_readClause 100 = .ok (.aload_n 0, 1) := by decide +kernel
theorem dX6_readClause_101 : decode cX6_readClause 101 = .ok (.invokevirtual 61, 3) := by decide +kernel
theorem dX6_readClause_104 : decode cX6_readClause 104 = .ok (.goto 26, 3) := by decide +kernel
theorem dX6_readClause_107 : decode cX6_readClause 107 = .ok (.aload_n 0, 1) := by decide +kernel
theorem dX6_readClause_108 : decode cX6_readClause 108 = .ok (.invokevirtual 64, 3) := by decide +kernel
theorem dX6_readClause_111 : decode cX6_readClause 111 = .ok (.goto 19, 3) := by decide +kernel
theorem dX6_readClause_114 : decode cX6_readClause 114 = .ok (.aload_n 0, 1) := by decide +kernel
theorem dX6_readClause_115 : decode cX6_readClause 115 = .ok (.invokevirtual 67, 3) := by decide +kernel
theorem dX6_readClause_118 : decode cX6_readClause 118 = .ok (.goto 12, 3) := by decide +kernel
theorem dX6_readClause_121 : decode cX6_readClause 121 = .ok (.aload_n 0, 1) := by decide +kernel
theorem dX6_readClause_122 : decode cX6_readClause 122 = .ok (.iconst 1, 1) := by decide +kernel
theorem dX6_readClause_123 : decode cX6_readClause 123 = .ok (.aload_n 0, 1) := by decide +kernel
theorem dX6_readClause_124 : decode cX6_readClause 124 = .ok (.getfield 32, 3) := by decide +kernel
theorem dX6_readClause_127 : decode cX6_readClause 127 = .ok (.invokevirtual 57, 3) := by decide +kernel
theorem dX6_readClause_130 : decode cX6_readClause 130 = .ok (.return_, 1) := by decide +kernel
theorem dX6_readPlaces_0 : decode cX6_readPlaces 0 = .ok (.aload_n 0, 1) := by decide +kernel
theorem dX6_readPlaces_1 : decode cX6_readPlaces 1 = .ok (.dup, 1) := by decide +kernel
theorem dX6_readPlaces_2 : decode cX6_readPlaces 2 = .ok (.getfield 32, 3) := by decide +kernel
theorem dX6_readPlaces_5 : decode cX6_readPlaces 5 = .ok (.iconst 1, 1) := by decide +kernel
theorem dX6_readPlaces_6 : decode cX6_readPlaces 6 = .ok (.iadd, 1) := by decide +kernel
theorem dX6_readPlaces_7 : decode cX6_readPlaces 7 = .ok (.putfield 32, 3) := by decide +kernel
theorem dX6_readPlaces_10 : decode cX6_readPlaces 10 = .ok (.aload_n 0, 1) := by decide +kernel
theorem dX6_readPlaces_11 : decode cX6_readPlaces 11 = .ok (.iconst 2, 1) := by decide +kernel
theorem dX6_readPlaces_12 : decode cX6_readPlaces 12 = .ok (.bipush 6, 2) := by decide +kernel
theorem dX6_readPlaces_14 : decode cX6_readPlaces 14 = .ok (.invokevirtual 70, 3) := by decide +kernel
theorem dX6_readPlaces_17 : decode cX6_readPlaces 17 = .ok (.istore_n 1, 1) := by decide +kernel
theorem dX6_readPlaces_18 : decode cX6_readPlaces 18 = .ok (.aload_n 0, 1) := by decide +kernel
theorem dX6_readPlaces_19 : decode cX6_readPlaces 19 = .ok (.iconst 0, 1) := by decide +kernel
theorem dX6_readPlaces_20 : decode cX6_readPlaces 20 = .ok (.iconst 1, 1) := by decide +kernel
theorem dX6_readPlaces_21 : decode cX6_readPlaces 21 = .ok (.invokevirtual 70, 3) := by decide +kernel
theorem dX6_readPlaces_24 : decode cX6_readPlaces 24 = .ok (.istore_n 2, 1) := by decide +kernel
theorem dX6_readPlaces_25 : decode cX6_readPlaces 25 = .ok (.aload_n 0, 1) := by decide +kernel
theorem dX6_readPlaces_26 : decode cX6_readPlaces 26 = .ok (.invokevirtual 74, 3) := by decide +kernel
theorem dX6_readPlaces_29 : decode cX6_readPlaces 29 = .ok (.aload_n 0, 1) := by decide +kernel
theorem dX6_readPlaces_30 : decode cX6_readPlaces 30 = .ok (.getfield 35, 3) := by decide +kernel
theorem dX6_readPlaces_33 : decode cX6_readPlaces 33 = .ok (.ifCond .ne 28, 3) := by decide +kernel
theorem dX6_readPlaces_36 : decode cX6_readPlaces 36 = .ok (.aload_n 0, 1) := by decide +kernel
theorem dX6_readPlaces_37 : decode cX6_readPlaces 37 = .ok (.getfield 18, 3) := by decide +kernel
theorem dX6_readPlaces_40 : decode cX6_readPlaces 40 = .ok (.iload_n 1, 1) := by decide +kernel
theorem dX6_readPlaces_41 : decode cX6_readPlaces 41 = .ok (.putfield 51, 3) := by decide +kernel
theorem dX6_readPlaces_44 : decode cX6_readPlaces 44 = .ok (.aload_n 0, 1) := by decide +kernel
theorem dX6_readPlaces_45 : decode cX6_readPlaces 45 = .ok (.getfield 18, 3) := by decide +kernel
theorem dX6_readPlaces_48 : decode cX6_readPlaces 48 = .ok (.iload_n 2, 1) := by decide +kernel
theorem dX6_readPlaces_49 : decode cX6_readPlaces 49 = .ok (.iconst 1, 1) := by decide +kernel
theorem dX6_readPlaces_50 : decode cX6_readPlaces 50 = .ok (.if_icmp .ne 7, 3) := by decide +kernel
theorem dX6_readPlaces_53 : decode cX6_readPlaces 53 = .ok (.iconst 1, 1) := by decide +kernel
theorem dX6_readPlaces_54 : decode cX6_readPlaces 54 = .ok (.goto 4, 3) := by decide +kernel
theorem dX6_readPlaces_57 : decode cX6_readPlaces 57 = .ok (.iconst 0, 1) := by decide +kernel
theorem dX6_readPlaces_58 : decode cX6_readPlaces 58 = .ok (.putfield 77, 3) := by decide +kernel
theorem dX6_readPlaces_61 : decode cX6_readPlaces 61 = .ok (.return_, 1) := by decide +kernel
theorem dX6_readHeat_0 : decode cX6_readHeat 0 = .ok (.aload_n 0, 1) := by decide +kernel
theorem dX6_readHeat_1 : decode cX6_readHeat 1 = .ok (.dup, 1) := by decide +kernel
theorem dX6_readHeat_2 : decode cX6_readHeat 2 = .ok (.getfield 32, 3) := by decide +kernel
theorem dX6_readHeat_5 : decode cX6_readHeat 5 = .ok (.iconst 1, 1) := by decide +kernel
theorem dX6_readHeat_6 : decode cX6_readHeat 6 = .ok (.iadd, 1) := by decide +kernel
theorem dX6_readHeat_7 : decode cX6_readHeat 7 = .ok (.putfield 32, 3) := by decide +kernel
theorem dX6_readHeat_10 : decode cX6_readHeat 10 = .ok (.aload_n 0, 1) := by decide +kernel
theorem dX6_readHeat_11 : decode cX6_readHeat 11 = .ok (.iconst 0, 1) := by decide +kernel
theorem dX6_readHeat_12 : decode cX6_readHeat 12 = .ok (.aload_n 0, 1) := by decide +kernel
theorem dX6_readHeat_13 : decode cX6_readHeat 13 = .ok (.getfield 18, 3) := by decide +kernel
theorem dX6_readHeat_16 : decode cX6_readHeat 16 = .ok (.getfield 51, 3) := by decide +kernel
theorem dX6_readHeat_19 : decode cX6_readHeat 19 = .ok (.iconst 1, 1) := by decide +kernel
theorem dX6_readHeat_20 : decode cX6_readHeat 20 = .ok (.isub, 1) := by decide +kernel
theorem dX6_readHeat_21 : decode cX6_readHeat 21 = .ok (.invokevirtual 70, 3) := by decide +kernel
theorem dX6_readHeat_24 : decode cX6_readHeat 24 = .ok (.istore_n 1, 1) := by decide +kernel
theorem dX6_readHeat_25 : decode cX6_readHeat 25 = .ok (.aload_n 0, 1) := by decide +kernel
theorem dX6_readHeat_26 : decode cX6_readHeat 26 = .ok (.getfield 35, 3) := by decide +kernel
theorem dX6_readHeat_29 : decode cX6_readHeat 29 = .ok (.ifCond .ne 24, 3) := by decide +kernel
theorem dX6_readHeat_32 : decode cX6_readHeat 32 = .ok (.aload_n 0, 1) := by decide +kernel
theorem dX6_readHeat_33 : decode cX6_readHeat 33 = .ok (.getfield 38, 3) := by decide +kernel
theorem dX6_readHeat_36 : decode cX6_readHeat 36 = .ok (.iload_n 1, 1) := by decide +kernel
theorem dX6_readHeat_37 : decode cX6_readHeat 37 = .ok (.ishr, 1) := by decide +kernel
theorem dX6_readHeat_38 : decode cX6_readHeat 38 = .ok (.iconst 1, 1) := by decide +kernel
theorem dX6_readHeat_39 : decode cX6_readHeat 39 = .ok (.iand, 1) := by decide +kernel
theorem dX6_readHeat_40 : decode cX6_readHeat 40 = .ok (.iconst 1, 1) := by decide +kernel
theorem dX6_readHeat_41 : decode cX6_readHeat 41 = .ok (.if_icmp .ne 12, 3) := by decide +kernel
theorem dX6_readHeat_44 : decode cX6_readHeat 44 = .ok (.aload_n 0, 1) := by decide +kernel
theorem dX6_readHeat_45 : decode cX6_readHeat 45 = .ok (.iconst 4, 1) := by decide +kernel
theorem dX6_readHeat_46 : decode cX6_readHeat 46 = .ok (.aload_n 0, 1) := by decide +kernel
theorem dX6_readHeat_47 : decode cX6_readHeat 47 = .ok (.getfield 80, 3) := by decide +kernel
theorem dX6_readHeat_50 : decode cX6_readHeat 50 = .ok (.invokevirtual 57, 3) := by decide +kernel
theorem dX6_readHeat_53 : decode cX6_readHeat 53 = .ok (.aload_n 0, 1) := by decide +kernel
theorem dX6_readHeat_54 : decode cX6_readHeat 54 = .ok (.iconst 0, 1) := by decide +kernel
theorem dX6_readHeat_55 : decode cX6_readHeat 55 = .ok (.bipush 9, 2) := by decide +kernel
theorem dX6_readHeat_57 : decode cX6_readHeat 57 = .ok (.invokevirtual 70, 3) := by decide +kernel
theorem dX6_readHeat_60 : decode cX6_readHeat 60 = .ok (.istore_n 2, 1) := by decide +kernel
theorem dX6_readHeat_61 : decode cX6_readHeat 61 = .ok (.aload_n 0, 1) := by decide +kernel
theorem dX6_readHeat_62 : decode cX6_readHeat 62 = .ok (.invokevirtual 74, 3) := by decide +kernel
theorem dX6_readHeat_65 : decode cX6_readHeat 65 = .ok (.aload_n 0, 1) := by decide +kernel
theorem dX6_readHeat_66 : decode cX6_readHeat 66 = .ok (.getfield 35, 3) := by decide +kernel
theorem dX6_readHeat_69 : decode cX6_readHeat 69 = .ok (.ifCond .ne 25, 3) := by decide +kernel
theorem dX6_readHeat_72 : decode cX6_readHeat 72 = .ok (.aload_n 0, 1) := by decide +kernel
theorem dX6_readHeat_73 : decode cX6_readHeat 73 = .ok (.getfield 18, 3) := by decide +kernel
theorem dX6_readHeat_76 : decode cX6_readHeat 76 = .ok (.getfield 83, 3) := by decide +kernel
theorem dX6_readHeat_79 : decode cX6_readHeat 79 = .ok (.iload_n 1, 1) := by decide +kernel
theorem dX6_readHeat_80 : decode cX6_readHeat 80 = .ok (.iload_n 2, 1) := by decide +kernel
theorem dX6_readHeat_81 : decode cX6_readHeat 81 = .ok (.iastore, 1) := by decide +kernel
theorem dX6_readHeat_82 : decode cX6_readHeat 82 = .ok (.aload_n 0, 1) := by decide +kernel
theorem dX6_readHeat_83 : decode cX6_readHeat 83 = .ok (.dup, 1) := by decide +kernel
theorem dX6_readHeat_84 : decode cX6_readHeat 84 = .ok (.getfield 38, 3) := by decide +kernel
theorem dX6_readHeat_87 : decode cX6_readHeat 87 = .ok (.iconst 1, 1) := by decide +kernel
theorem dX6_readHeat_88 : decode cX6_readHeat 88 = .ok (.iload_n 1, 1) := by decide +kernel
theorem dX6_readHeat_89 : decode cX6_readHeat 89 = .ok (.ishl, 1) := by decide +kernel
theorem dX6_readHeat_90 : decode cX6_readHeat 90 = .ok (.ior, 1) := by decide +kernel
theorem dX6_readHeat_91 : decode cX6_readHeat 91 = .ok (.putfield 38, 3) := by decide +kernel
theorem dX6_readHeat_94 : decode cX6_readHeat 94 = .ok (.return_, 1) := by decide +kernel
theorem dX6_readSleeper_0 : decode cX6_readSleeper 0 = .ok (.aload_n 0, 1) := by decide +kernel
theorem dX6_readSleeper_1 : decode cX6_readSleeper 1 = .ok (.getfield 18, 3) := by decide +kernel
theorem dX6_readSleeper_4 : decode cX6_readSleeper 4 = .ok (.getfield 86, 3) := by decide +kernel
theorem dX6_readSleeper_7 : decode cX6_readSleeper 7 = .ok (.aload_n 0, 1) := by decide +kernel
theorem dX6_readSleeper_8 : decode cX6_readSleeper 8 = .ok (.getfield 18, 3) := by decide +kernel
theorem dX6_readSleeper_11 : decode cX6_readSleeper 11 = .ok (.getfield 51, 3) := by decide +kernel
theorem dX6_readSleeper_14 : decode cX6_readSleeper 14 = .ok (.if_icmp .lt 13, 3) := by decide +kernel
theorem dX6_readSleeper_17 : decode cX6_readSleeper 17 = .ok (.aload_n 0, 1) := by decide +kernel
theorem dX6_readSleeper_18 : decode cX6_readSleeper 18 = .ok (.iconst 3, 1) := by decide +kernel
theorem dX6_readSleeper_19 : decode cX6_readSleeper 19 = .ok (.aload_n 0, 1) := by decide +kernel
theorem dX6_readSleeper_20 : decode cX6_readSleeper 20 = .ok (.getfield 32, 3) := by decide +kernel
theorem dX6_readSleeper_23 : decode cX6_readSleeper 23 = .ok (.invokevirtual 57, 3) := by decide +kernel
theorem dX6_readSleeper_26 : decode cX6_readSleeper 26 = .ok (.return_, 1) := by decide +kernel
theorem dX6_readSleeper_27 : decode cX6_readSleeper 27 = .ok (.aload_n 0, 1) := by decide +kernel
theorem dX6_readSleeper_28 : decode cX6_readSleeper 28 = .ok (.dup, 1) := by decide +kernel
theorem dX6_readSleeper_29 : decode cX6_readSleeper 29 = .ok (.getfield 32, 3) := by decide +kernel
theorem dX6_readSleeper_32 : decode cX6_readSleeper 32 = .ok (.iconst 1, 1) := by decide +kernel
theorem dX6_readSleeper_33 : decode cX6_readSleeper 33 = .ok (.iadd, 1) := by decide +kernel
theorem dX6_readSleeper_34 : decode cX6_readSleeper 34 = .ok (.putfield 32, 3) := by decide +kernel
theorem dX6_readSleeper_37 : decode cX6_readSleeper 37 = .ok (.aload_n 0, 1) := by decide +kernel
theorem dX6_readSleeper_38 : decode cX6_readSleeper 38 = .ok (.iconst 1, 1) := by decide +kernel
theorem dX6_readSleeper_39 : decode cX6_readSleeper 39 = .ok (.bipush 99, 2) := by decide +kernel
theorem dX6_readSleeper_41 : decode cX6_readSleeper 41 = .ok (.invokevirtual 70, 3) := by decide +kernel
theorem dX6_readSleeper_44 : decode cX6_readSleeper 44 = .ok (.istore_n 1, 1) := by decide +kernel
theorem dX6_readSleeper_45 : decode cX6_readSleeper 45 = .ok (.aload_n 0, 1) := by decide +kernel
theorem dX6_readSleeper_46 : decode cX6_readSleeper 46 = .ok (.iconst 0, 1) := by decide +kernel
theorem dX6_readSleeper_47 : decode cX6_readSleeper 47 = .ok (.bipush 9, 2) := by decide +kernel
theorem dX6_readSleeper_49 : decode cX6_readSleeper 49 = .ok (.invokevirtual 70, 3) := by decide +kernel
theorem dX6_readSleeper_52 : decode cX6_readSleeper 52 = .ok (.istore_n 2, 1) := by decide +kernel
theorem dX6_readSleeper_53 : decode cX6_readSleeper 53 = .ok (.aload_n 0, 1) := by decide +kernel
theorem dX6_readSleeper_54 : decode cX6_readSleeper 54 = .ok (.iconst 0, 1) := by decide +kernel
theorem dX6_readSleeper_55 : decode cX6_readSleeper 55 = .ok (.bipush 20, 2) := by decide +kernel
theorem dX6_readSleeper_57 : decode cX6_readSleeper 57 = .ok (.invokevirtual 70, 3) := by decide +kernel
theorem dX6_readSleeper_60 : decode cX6_readSleeper 60 = .ok (.istore_n 3, 1) := by decide +kernel
theorem dX6_readSleeper_61 : decode cX6_readSleeper 61 = .ok (.aload_n 0, 1) := by decide +kernel
theorem dX6_readSleeper_62 : decode cX6_readSleeper 62 = .ok (.iconst 0, 1) := by decide +kernel
theorem dX6_readSleeper_63 : decode cX6_readSleeper 63 = .ok (.bipush 98, 2) := by decide +kernel
theorem dX6_readSleeper_65 : decode cX6_readSleeper 65 = .ok (.invokevirtual 70, 3) := by decide +kernel
theorem dX6_readSleeper_68 : decode cX6_readSleeper 68 = .ok (.istore 4, 2) := by decide +kernel
theorem dX6_readSleeper_70 : decode cX6_readSleeper 70 = .ok (.aload_n 0, 1) := by decide +kernel
theorem dX6_readSleeper_71 : decode cX6_readSleeper 71 = .ok (.getfield 35, 3) := by decide +kernel
theorem dX6_readSleeper_74 : decode cX6_readSleeper 74 = .ok (.ifCond .ne 18, 3) := by decide +kernel
theorem dX6_readSleeper_77 : decode cX6_readSleeper 77 = .ok (.iload 4, 2) := by decide +kernel
theorem dX6_readSleeper_79 : decode cX6_readSleeper 79 = .ok (.iload_n 1, 1) := by decide +kernel
theorem dX6_readSleeper_80 : decode cX6_readSleeper 80 = .ok (.if_icmp .lt 12, 3) := by decide +kernel
theorem dX6_readSleeper_83 : decode cX6_readSleeper 83 = .ok (.aload_n 0, 1) := by decide +kernel
theorem dX6_readSleeper_84 : decode cX6_readSleeper 84 = .ok (.iconst 4, 1) := by decide +kernel
theorem dX6_readSleeper_85 : decode cX6_readSleeper 85 = .ok (.aload_n 0, 1) := by decide +kernel
theorem dX6_readSleeper_86 : decode cX6_readSleeper 86 = .ok (.getfield 80, 3) := by decide +kernel
theorem dX6_readSleeper_89 : decode cX6_readSleeper 89 = .ok (.invokevirtual 57, 3) := by decide +kernel
theorem dX6_readSleeper_92 : decode cX6_readSleeper 92 = .ok (.aload_n 0, 1) := by decide +kernel
theorem dX6_readSleeper_93 : decode cX6_readSleeper 93 = .ok (.invokevirtual 74, 3) := by decide +kernel
theorem dX6_readSleeper_96 : decode cX6_readSleeper 96 = .ok (.aload_n 0, 1) := by decide +kernel
theorem dX6_readSleeper_97 : decode cX6_readSleeper 97 = .ok (.getfield 35, 3) := by decide +kernel
theorem dX6_readSleeper_100 : decode cX6_readSleeper 100 = .ok (.ifCond .ne 68, 3) := by decide +kernel
theorem dX6_readSleeper_103 : decode cX6_readSleeper 103 = .ok (.aload_n 0, 1) := by decide +kernel
theorem dX6_readSleeper_104 : decode cX6_readSleeper 104 = .ok (.getfield 18, 3) := by decide +kernel
theorem dX6_readSleeper_107 : decode cX6_readSleeper 107 = .ok (.getfield 86, 3) := by decide +kernel
theorem dX6_readSleeper_110 : decode cX6_readSleeper 110 = .ok (.istore 5, 2) := by decide +kernel
theorem dX6_readSleeper_112 : decode cX6_readSleeper 112 = .ok (.aload_n 0, 1) := by decide +kernel
theorem dX6_readSleeper_113 : decode cX6_readSleeper 113 = .ok (.getfield 18, 3) := by decide +kernel
theorem dX6_readSleeper_116 : decode cX6_readSleeper 116 = .ok (.getfield 89, 3) := by decide +kernel
theorem dX6_readSleeper_119 : decode cX6_readSleeper 119 = .ok (.iload 5, 2) := by decide +kernel
theorem dX6_readSleeper_121 : decode cX6_readSleeper 121 = .ok (.iload_n 1, 1) := by decide +kernel
theorem dX6_readSleeper_122 : decode cX6_readSleeper 122 = .ok (.iastore, 1) := by decide +kernel
theorem dX6_readSleeper_123 : decode cX6_readSleeper 123 = .ok (.aload_n 0, 1) := by decide +kernel
theorem dX6_readSleeper_124 : decode cX6_readSleeper 124 = .ok (.getfield 18, 3) := by decide +kernel
theorem dX6_readSleeper_127 : decode cX6_readSleeper 127 = .ok (.getfield 92, 3) := by decide +kernel
theorem dX6_readSleeper_130 : decode cX6_readSleeper 130 = .ok (.iload 5, 2) := by decide +kernel
theorem dX6_readSleeper_132 : decode cX6_readSleeper 132 = .ok (.iload_n 2, 1) := by decide +kernel
theorem dX6_readSleeper_133 : decode cX6_readSleeper 133 = .ok (.iastore, 1) := by decide +kernel
theorem dX6_readSleeper_134 : decode cX6_readSleeper 134 = .ok (.aload_n 0, 1) := by decide +kernel
theorem dX6_readSleeper_135 : decode cX6_readSleeper 135 = .ok (.getfield 18, 3) := by decide +kernel
theorem dX6_readSleeper_138 : decode cX6_readSleeper 138 = .ok (.getfield 95, 3) := by decide +kernel
theorem dX6_readSleeper_141 : decode cX6_readSleeper 141 = .ok (.iload 5, 2) := by decide +kernel
theorem dX6_readSleeper_143 : decode cX6_readSleeper 143 = .ok (.iload_n 3, 1) := by decide +kernel
theorem dX6_readSleeper_144 : decode cX6_readSleeper 144 = .ok (.iastore, 1) := by decide +kernel
theorem dX6_readSleeper_145 : decode cX6_readSleeper 145 = .ok (.aload_n 0, 1) := by decide +kernel
theorem dX6_readSleeper_146 : decode cX6_readSleeper 146 = .ok (.getfield 18, 3) := by decide +kernel
theorem dX6_readSleeper_149 : decode cX6_readSleeper 149 = .ok (.getfield 98, 3) := by decide +kernel
theorem dX6_readSleeper_152 : decode cX6_readSleeper 152 = .ok (.iload 5, 2) := by decide +kernel
theorem dX6_readSleeper_154 : decode cX6_readSleeper 154 = .ok (.iload 4, 2) := by decide +kernel
theorem dX6_readSleeper_156 : decode cX6_readSleeper 156 = .ok (.iastore, 1) := by decide +kernel
theorem dX6_readSleeper_157 : decode cX6_readSleeper 157 = .ok (.aload_n 0, 1) := by decide +kernel
theorem dX6_readSleeper_158 : decode cX6_readSleeper 158 = .ok (.getfield 18, 3) := by decide +kernel
theorem dX6_readSleeper_161 : decode cX6_readSleeper 161 = .ok (.iload 5, 2) := by decide +kernel
theorem dX6_readSleeper_163 : decode cX6_readSleeper 163 = .ok (.iconst 1, 1) := by decide +kernel
theorem dX6_readSleeper_164 : decode cX6_readSleeper 164 = .ok (.iadd, 1) := by decide +kernel
theorem dX6_readSleeper_165 : decode cX6_readSleeper 165 = .ok (.putfield 86, 3) := by decide +kernel
theorem dX6_readSleeper_168 : decode cX6_readSleeper 168 = .ok (.return_, 1) := by decide +kernel
theorem dX6_readLaw_0 : decode cX6_readLaw 0 = .ok (.aload_n 0, 1) := by decide +kernel
theorem dX6_readLaw_1 : decode cX6_readLaw 1 = .ok (.getfield 41, 3) := by decide +kernel
theorem dX6_readLaw_4 : decode cX6_readLaw 4 = .ok (.ifCond .eq 13, 3) := by decide +kernel
theorem dX6_readLaw_7 : decode cX6_readLaw 7 = .ok (.aload_n 0, 1) := by decide +kernel
theorem dX6_readLaw_8 : decode cX6_readLaw 8 = .ok (.iconst 3, 1) := by decide +kernel
theorem dX6_readLaw_9 : decode cX6_readLaw 9 = .ok (.aload_n 0, 1) := by decide +kernel
theorem dX6_readLaw_10 : decode cX6_readLaw 10 = .ok (.getfield 32, 3) := by decide +kernel
theorem dX6_readLaw_13 : decode cX6_readLaw 13 = .ok (.invokevirtual 57, 3) := by decide +kernel
theorem dX6_readLaw_16 : decode cX6_readLaw 16 = .ok (.return_, 1) := by decide +kernel
theorem dX6_readLaw_17 : decode cX6_readLaw 17 = .ok (.aload_n 0, 1) := by decide +kernel
theorem dX6_readLaw_18 : decode cX6_readLaw 18 = .ok (.dup, 1) := by decide +kernel
theorem dX6_readLaw_19 : decode cX6_readLaw 19 = .ok (.getfield 32, 3) := by decide +kernel
theorem dX6_readLaw_22 : decode cX6_readLaw 22 = .ok (.iconst 1, 1) := by decide +kernel
theorem dX6_readLaw_23 : decode cX6_readLaw 23 = .ok (.iadd, 1) := by decide +kernel
theorem dX6_readLaw_24 : decode cX6_readLaw 24 = .ok (.putfield 32, 3) := by decide +kernel
theorem dX6_readLaw_27 : decode cX6_readLaw 27 = .ok (.aload_n 0, 1) := by decide +kernel
theorem dX6_readLaw_28 : decode cX6_readLaw 28 = .ok (.iconst 1, 1) := by decide +kernel
theorem dX6_readLaw_29 : decode cX6_readLaw 29 = .ok (.putfield 41, 3) := by decide +kernel
theorem dX6_readLaw_32 : decode cX6_readLaw 32 = .ok (.aload_n 0, 1) := by decide +kernel
theorem dX6_readLaw_33 : decode cX6_readLaw 33 = .ok (.getfield 18, 3) := by decide +kernel
theorem dX6_readLaw_36 : decode cX6_readLaw 36 = .ok (.getfield 101, 3) := by decide +kernel
theorem dX6_readLaw_39 : decode cX6_readLaw 39 = .ok (.iconst 0, 1) := by decide +kernel
theorem dX6_readLaw_40 : decode cX6_readLaw 40 = .ok (.aload_n 0, 1) := by decide +kernel
theorem dX6_readLaw_41 : decode cX6_readLaw 41 = .ok (.iconst 0, 1) := by decide +kernel
theorem dX6_readLaw_42 : decode cX6_readLaw 42 = .ok (.iconst 3, 1) := by decide +kernel
theorem dX6_readLaw_43 : decode cX6_readLaw 43 = .ok (.invokevirtual 70, 3) := by decide +kernel
theorem dX6_readLaw_46 : decode cX6_readLaw 46 = .ok (.iastore, 1) := by decide +kernel
theorem dX6_readLaw_47 : decode cX6_readLaw 47 = .ok (.iconst 1, 1) := by decide +kernel
theorem dX6_readLaw_48 : decode cX6_readLaw 48 = .ok (.istore_n 1, 1) := by decide +kernel
theorem dX6_readLaw_49 : decode cX6_readLaw 49 = .ok (.iconst 1, 1) := by decide +kernel
theorem dX6_readLaw_50 : decode cX6_readLaw 50 = .ok (.istore_n 2, 1) := by decide +kernel
theorem dX6_readLaw_51 : decode cX6_readLaw 51 = .ok (.iload_n 2, 1) := by decide +kernel
theorem dX6_readLaw_52 : decode cX6_readLaw 52 = .ok (.bipush 8, 2) := by decide +kernel
theorem dX6_readLaw_54 : decode cX6_readLaw 54 = .ok (.if_icmp .ge 46, 3) := by decide +kernel
theorem dX6_readLaw_57 : decode cX6_readLaw 57 = .ok (.aload_n 0, 1) := by decide +kernel
theorem dX6_readLaw_58 : decode cX6_readLaw 58 = .ok (.bipush 44, 2) := by decide +kernel
theorem dX6_readLaw_60 : decode cX6_readLaw 60 = .ok (.invokevirtual 104, 3) := by decide +kernel
theorem dX6_readLaw_63 : decode cX6_readLaw 63 = .ok (.ifCond .eq 37, 3) := by decide +kernel
theorem dX6_readLaw_66 : decode cX6_readLaw 66 = .ok (.aload_n 0, 1) := by decide +kernel
theorem dX6_readLaw_67 : decode cX6_readLaw 67 = .ok (.dup, 1) := by decide +kernel
theorem dX6_readLaw_68 : decode cX6_readLaw 68 = .ok (.getfield 32, 3) := by decide +kernel
theorem dX6_readLaw_71 : decode cX6_readLaw 71 = .ok (.iconst 1, 1) := by decide +kernel
theorem dX6_readLaw_72 : decode cX6_readLaw 72 = .ok (.iadd, 1) := by decide +kernel
theorem dX6_readLaw_73 : decode cX6_readLaw 73 = .ok (.putfield 32, 3) := by decide +kernel
theorem dX6_readLaw_76 : decode cX6_readLaw 76 = .ok (.aload_n 0, 1) := by decide +kernel
theorem dX6_readLaw_77 : decode cX6_readLaw 77 = .ok (.getfield 18, 3) := by decide +kernel
theorem dX6_readLaw_80 : decode cX6_readLaw 80 = .ok (.getfield 101, 3) := by decide +kernel
theorem dX6_readLaw_83 : decode cX6_readLaw 83 = .ok (.iload_n 2, 1) := by decide +kernel
theorem dX6_readLaw_84 : decode cX6_readLaw 84 = .ok (.aload_n 0, 1) := by decide +kernel
theorem dX6_readLaw_85 : decode cX6_readLaw 85 = .ok (.iconst 0, 1) := by decide +kernel
theorem dX6_readLaw_86 : decode cX6_readLaw 86 = .ok (.iconst 3, 1) := by decide +kernel
theorem dX6_readLaw_87 : decode cX6_readLaw 87 = .ok (.invokevirtual 70, 3) := by decide +kernel
theorem dX6_readLaw_90 : decode cX6_readLaw 90 = .ok (.iastore, 1) := by decide +kernel
theorem dX6_readLaw_91 : decode cX6_readLaw 91 = .ok (.iinc 1 1, 3) := by decide +kernel
theorem dX6_readLaw_94 : decode cX6_readLaw 94 = .ok (.iinc 2 1, 3) := by decide +kernel
theorem dX6_readLaw_97 : decode cX6_readLaw 97 = .ok (.goto (-46), 3) := by decide +kernel
theorem dX6_readLaw_100 : decode cX6_readLaw 100 = .ok (.aload_n 0, 1) := by decide +kernel
theorem dX6_readLaw_101 : decode cX6_readLaw 101 = .ok (.getfield 18, 3) := by decide +kernel
theorem dX6_readLaw_104 : decode cX6_readLaw 104 = .ok (.iload_n 1, 1) := by decide +kernel
theorem dX6_readLaw_105 : decode cX6_readLaw 105 = .ok (.putfield 108, 3) := by decide +kernel
theorem dX6_readLaw_108 : decode cX6_readLaw 108 = .ok (.aload_n 0, 1) := by decide +kernel
theorem dX6_readLaw_109 : decode cX6_readLaw 109 = .ok (.invokevirtual 74, 3) := by decide +kernel
theorem dX6_readLaw_112 : decode cX6_readLaw 112 = .ok (.return_, 1) := by decide +kernel
theorem dX6_nextIs_0 : decode cX6_nextIs 0 = .ok (.aload_n 0, 1) := by decide +kernel
theorem dX6_nextIs_1 : decode cX6_nextIs 1 = .ok (.getfield 35, 3) := by decide +kernel
theorem dX6_nextIs_4 : decode cX6_nextIs 4 = .ok (.ifCond .eq 5, 3) := by decide +kernel
theorem dX6_nextIs_7 : decode cX6_nextIs 7 = .ok (.iconst 0, 1) := by decide +kernel
theorem dX6_nextIs_8 : decode cX6_nextIs 8 = .ok (.ireturn, 1) := by decide +kernel
theorem dX6_nextIs_9 : decode cX6_nextIs 9 = .ok (.aload_n 0, 1) := by decide +kernel
theorem dX6_nextIs_10 : decode cX6_nextIs 10 = .ok (.invokevirtual 45, 3) := by decide +kernel
theorem dX6_nextIs_13 : decode cX6_nextIs 13 = .ok (.aload_n 0, 1) := by decide +kernel
theorem dX6_nextIs_14 : decode cX6_nextIs 14 = .ok (.getfield 32, 3) := by decide +kernel
theorem dX6_nextIs_17 : decode cX6_nextIs 17 = .ok (.aload_n 0, 1) := by decide +kernel
theorem dX6_nextIs_18 : decode cX6_nextIs 18 = .ok (.getfield 26, 3) := by decide +kernel
theorem dX6_nextIs_21 : decode cX6_nextIs 21 = .ok (.if_icmp .ge 20, 3) := by decide +kernel
theorem dX6_nextIs_24 : decode cX6_nextIs 24 = .ok (.aload_n 0, 1) := by decide +kernel
theorem dX6_nextIs_25 : decode cX6_nextIs 25 = .ok (.getfield 9, 3) := by decide +kernel
theorem dX6_nextIs_28 : decode cX6_nextIs 28 = .ok (.aload_n 0, 1) := by decide +kernel
theorem dX6_nextIs_29 : decode cX6_nextIs 29 = .ok (.getfield 32, 3) := by decide +kernel
theorem dX6_nextIs_32 : decode cX6_nextIs 32 = .ok (.iaload, 1) := by decide +kernel
theorem dX6_nextIs_33 : decode cX6_nextIs 33 = .ok (.iload_n 1, 1) := by decide +kernel
theorem dX6_nextIs_34 : decode cX6_nextIs 34 = .ok (.if_icmp .ne 7, 3) := by decide +kernel
theorem dX6_nextIs_37 : decode cX6_nextIs 37 = .ok (.iconst 1, 1) := by decide +kernel
theorem dX6_nextIs_38 : decode cX6_nextIs 38 = .ok (.goto 4, 3) := by decide +kernel
theorem dX6_nextIs_41 : decode cX6_nextIs 41 = .ok (.iconst 0, 1) := by decide +kernel
theorem dX6_nextIs_42 : decode cX6_nextIs 42 = .ok (.ireturn, 1) := by decide +kernel
theorem dX6_readEnd_0 : decode cX6_readEnd 0 = .ok (.aload_n 0, 1) := by decide +kernel
theorem dX6_readEnd_1 : decode cX6_readEnd 1 = .ok (.bipush 59, 2) := by decide +kernel
theorem dX6_readEnd_3 : decode cX6_readEnd 3 = .ok (.invokevirtual 104, 3) := by decide +kernel
theorem dX6_readEnd_6 : decode cX6_readEnd 6 = .ok (.ifCond .eq 16, 3) := by decide +kernel
theorem dX6_readEnd_9 : decode cX6_readEnd 9 = .ok (.aload_n 0, 1) := by decide +kernel
theorem dX6_readEnd_10 : decode cX6_readEnd 10 = .ok (.dup, 1) := by decide +kernel
theorem dX6_readEnd_11 : decode cX6_readEnd 11 = .ok (.getfield 32, 3) := by decide +kernel
theorem dX6_readEnd_14 : decode cX6_readEnd 14 = .ok (.iconst 1, 1) := by decide +kernel
theorem dX6_readEnd_15 : decode cX6_readEnd 15 = .ok (.iadd, 1) := by decide +kernel
theorem dX6_readEnd_16 : decode cX6_readEnd 16 = .ok (.putfield 32, 3) := by decide +kernel
theorem dX6_readEnd_19 : decode cX6_readEnd 19 = .ok (.goto 12, 3) := by decide +kernel
theorem dX6_readEnd_22 : decode cX6_readEnd 22 = .ok (.aload_n 0, 1) := by decide +kernel
theorem dX6_readEnd_23 : decode cX6_readEnd 23 = .ok (.iconst 1, 1) := by decide +kernel
theorem dX6_readEnd_24 : decode cX6_readEnd 24 = .ok (.aload_n 0, 1) := by decide +kernel
theorem dX6_readEnd_25 : decode cX6_readEnd 25 = .ok (.getfield 32, 3) := by decide +kernel
theorem dX6_readEnd_28 : decode cX6_readEnd 28 = .ok (.invokevirtual 57, 3) := by decide +kernel
theorem dX6_readEnd_31 : decode cX6_readEnd 31 = .ok (.return_, 1) := by decide +kernel
theorem dX6_readNumber_0 : decode cX6_readNumber 0 = .ok (.aload_n 0, 1) := by decide +kernel
theorem dX6_readNumber_1 : decode cX6_readNumber 1 = .ok (.getfield 35, 3) := by decide +kernel
theorem dX6_readNumber_4 : decode cX6_readNumber 4 = .ok (.ifCond .eq 5, 3) := by decide +kernel
theorem dX6_readNumber_7 : decode cX6_readNumber 7 = .ok (.iconst 0, 1) := by decide +kernel
theorem dX6_readNumber_8 : decode cX6_readNumber 8 = .ok (.ireturn, 1) := by decide +kernel
theorem dX6_readNumber_9 : decode cX6_readNumber 9 = .ok (.aload_n 0, 1) := by decide +kernel
theorem dX6_readNumber_10 : decode cX6_readNumber 10 = .ok (.invokevirtual 45, 3) := by decide +kernel
theorem dX6_readNumber_13 : decode cX6_readNumber 13 = .ok (.aload_n 0, 1) := by decide +kernel
theorem dX6_readNumber_14 : decode cX6_readNumber 14 = .ok (.aload_n 0, 1) := by decide +kernel
theorem dX6_readNumber_15 : decode cX6_readNumber 15 = .ok (.getfield 32, 3) := by decide +kernel
theorem dX6_readNumber_18 : decode cX6_readNumber 18 = .ok (.putfield 80, 3) := by decide +kernel
theorem dX6_readNumber_21 : decode cX6_readNumber 21 = .ok (.iconst 0, 1) := by decide +kernel
theorem dX6_readNumber_22 : decode cX6_readNumber 22 = .ok (.istore_n 3, 1) := by decide +kernel
theorem dX6_readNumber_23 : decode cX6_readNumber 23 = .ok (.aload_n 0, 1) := by decide +kernel
theorem dX6_readNumber_24 : decode cX6_readNumber 24 = .ok (.getfield 32, 3) := by decide +kernel
theorem dX6_readNumber_27 : decode cX6_readNumber 27 = .ok (.aload_n 0, 1) := by decide +kernel
theorem dX6_readNumber_28 : decode cX6_readNumber 28 = .ok (.getfield 26, 3) := by decide +kernel
theorem dX6_readNumber_31 : decode cX6_readNumber 31 = .ok (.if_icmp .ge 75, 3) := by decide +kernel
theorem dX6_readNumber_34 : decode cX6_readNumber 34 = .ok (.aload_n 0, 1) := by decide +kernel
theorem dX6_readNumber_35 : decode cX6_readNumber 35 = .ok (.getfield 9, 3) := by decide +kernel
theorem dX6_readNumber_38 : decode cX6_readNumber 38 = .ok (.aload_n 0, 1) := by decide +kernel
theorem dX6_readNumber_39 : decode cX6_readNumber 39 = .ok (.getfield 32, 3) := by decide +kernel
theorem dX6_readNumber_42 : decode cX6_readNumber 42 = .ok (.iaload, 1) := by decide +kernel
theorem dX6_readNumber_43 : decode cX6_readNumber 43 = .ok (.bipush 48, 2) := by decide +kernel
theorem dX6_readNumber_45 : decode cX6_readNumber 45 = .ok (.if_icmp .lt 61, 3) := by decide +kernel
theorem dX6_readNumber_48 : decode cX6_readNumber 48 = .ok (.aload_n 0, 1) := by decide +kernel
theorem dX6_readNumber_49 : decode cX6_readNumber 49 = .ok (.getfield 9, 3) := by decide +kernel
theorem dX6_readNumber_52 : decode cX6_readNumber 52 = .ok (.aload_n 0, 1) := by decide +kernel
theorem dX6_readNumber_53 : decode cX6_readNumber 53 = .ok (.getfield 32, 3) := by decide +kernel
theorem dX6_readNumber_56 : decode cX6_readNumber 56 = .ok (.iaload, 1) := by decide +kernel
theorem dX6_readNumber_57 : decode cX6_readNumber 57 = .ok (.bipush 57, 2) := by decide +kernel
theorem dX6_readNumber_59 : decode cX6_readNumber 59 = .ok (.if_icmp .gt 47, 3) := by decide +kernel
theorem dX6_readNumber_62 : decode cX6_readNumber 62 = .ok (.aload_n 0, 1) := by decide +kernel
theorem dX6_readNumber_63 : decode cX6_readNumber 63 = .ok (.getfield 32, 3) := by decide +kernel
theorem dX6_readNumber_66 : decode cX6_readNumber 66 = .ok (.aload_n 0, 1) := by decide +kernel
theorem dX6_readNumber_67 : decode cX6_readNumber 67 = .ok (.getfield 80, 3) := by decide +kernel
theorem dX6_readNumber_70 : decode cX6_readNumber 70 = .ok (.isub, 1) := by decide +kernel
theorem dX6_readNumber_71 : decode cX6_readNumber 71 = .ok (.iconst 3, 1) := by decide +kernel
theorem dX6_readNumber_72 : decode cX6_readNumber 72 = .ok (.if_icmp .ge 21, 3) := by decide +kernel
theorem dX6_readNumber_75 : decode cX6_readNumber 75 = .ok (.iload_n 3, 1) := by decide +kernel
theorem dX6_readNumber_76 : decode cX6_readNumber 76 = .ok (.bipush 10, 2) := by decide +kernel
theorem dX6_readNumber_78 : decode cX6_readNumber 78 = .ok (.imul, 1) := by decide +kernel
theorem dX6_readNumber_79 : decode cX6_readNumber 79 = .ok (.aload_n 0, 1) := by decide +kernel
theorem dX6_readNumber_80 : decode cX6_readNumber 80 = .ok (.getfield 9, 3) := by decide +kernel
theorem dX6_readNumber_83 : decode cX6_readNumber 83 = .ok (.aload_n 0, 1) := by decide +kernel
theorem dX6_readNumber_84 : decode cX6_readNumber 84 = .ok (.getfield 32, 3) := by decide +kernel
theorem dX6_readNumber_87 : decode cX6_readNumber 87 = .ok (.iaload, 1) := by decide +kernel
theorem dX6_readNumber_88 : decode cX6_readNumber 88 = .ok (.iadd, 1) := by decide +kernel
theorem dX6_readNumber_89 : decode cX6_readNumber 89 = .ok (.bipush 48, 2) := by decide +kernel
theorem dX6_readNumber_91 : decode cX6_readNumber 91 = .ok (.isub, 1) := by decide +kernel
theorem dX6_readNumber_92 : decode cX6_readNumber 92 = .ok (.istore_n 3, 1) := by decide +kernel
theorem dX6_readNumber_93 : decode cX6_readNumber 93 = .ok (.aload_n 0, 1) := by decide +kernel
theorem dX6_readNumber_94 : decode cX6_readNumber 94 = .ok (.dup, 1) := by decide +kernel
theorem dX6_readNumber_95 : decode cX6_readNumber 95 = .ok (.getfield 32, 3) := by decide +kernel
theorem dX6_readNumber_98 : decode cX6_readNumber 98 = .ok (.iconst 1, 1) := by decide +kernel
theorem dX6_readNumber_99 : decode cX6_readNumber 99 = .ok (.iadd, 1) := by decide +kernel
theorem dX6_readNumber_100 : decode cX6_readNumber 100 = .ok (.putfield 32, 3) := by decide +kernel
theorem dX6_readNumber_103 : decode cX6_readNumber 103 = .ok (.goto (-80), 3) := by decide +kernel
theorem dX6_readNumber_106 : decode cX6_readNumber 106 = .ok (.aload_n 0, 1) := by decide +kernel
theorem dX6_readNumber_107 : decode cX6_readNumber 107 = .ok (.getfield 32, 3) := by decide +kernel
theorem dX6_readNumber_110 : decode cX6_readNumber 110 = .ok (.aload_n 0, 1) := by decide +kernel
theorem dX6_readNumber_111 : decode cX6_readNumber 111 = .ok (.getfield 80, 3) := by decide +kernel
theorem dX6_readNumber_114 : decode cX6_readNumber 114 = .ok (.if_icmp .ne 15, 3) := by decide +kernel
theorem dX6_readNumber_117 : decode cX6_readNumber 117 = .ok (.aload_n 0, 1) := by decide +kernel
theorem dX6_readNumber_118 : decode cX6_readNumber 118 = .ok (.iconst 1, 1) := by decide +kernel
theorem dX6_readNumber_119 : decode cX6_readNumber 119 = .ok (.aload_n 0, 1) := by decide +kernel
theorem dX6_readNumber_120 : decode cX6_readNumber 120 = .ok (.getfield 32, 3) := by decide +kernel
theorem dX6_readNumber_123 : decode cX6_readNumber 123 = .ok (.invokevirtual 57, 3) := by decide +kernel
theorem dX6_readNumber_126 : decode cX6_readNumber 126 = .ok (.goto 35, 3) := by decide +kernel
theorem dX6_readNumber_129 : decode cX6_readNumber 129 = .ok (.aload_n 0, 1) := by decide +kernel
theorem dX6_readNumber_130 : decode cX6_readNumber 130 = .ok (.getfield 32, 3) := by decide +kernel
theorem dX6_readNumber_133 : decode cX6_readNumber 133 = .ok (.aload_n 0, 1) := by decide +kernel
theorem dX6_readNumber_134 : decode cX6_readNumber 134 = .ok (.getfield 80, 3) := by decide +kernel
theorem dX6_readNumber_137 : decode cX6_readNumber 137 = .ok (.isub, 1) := by decide +kernel
theorem dX6_readNumber_138 : decode cX6_readNumber 138 = .ok (.iconst 3, 1) := by decide +kernel
theorem dX6_readNumber_139 : decode cX6_readNumber 139 = .ok (.if_icmp .gt 13, 3) := by decide +kernel
theorem dX6_readNumber_142 : decode cX6_readNumber 142 = .ok (.iload_n 3, 1) := by decide +kernel
theorem dX6_readNumber_143 : decode cX6_readNumber 143 = .ok (.iload_n 1, 1) := by decide +kernel
theorem dX6_readNumber_144 : decode cX6_readNumber 144 = .ok (.if_icmp .lt 8, 3) := by decide +kernel
theorem dX6_readNumber_147 : decode cX6_readNumber 147 = .ok (.iload_n 3, 1) := by decide +kernel
theorem dX6_readNumber_148 : decode cX6_readNumber 148 = .ok (.iload_n 2, 1) := by decide +kernel
theorem dX6_readNumber_149 : decode cX6_readNumber 149 = .ok (.if_icmp .le 12, 3) := by decide +kernel
theorem dX6_readNumber_152 : decode cX6_readNumber 152 = .ok (.aload_n 0, 1) := by decide +kernel
theorem dX6_readNumber_153 : decode cX6_readNumber 153 = .ok (.iconst 2, 1) := by decide +kernel
theorem dX6_readNumber_154 : decode cX6_readNumber 154 = .ok (.aload_n 0, 1) := by decide +kernel
theorem dX6_readNumber_155 : decode cX6_readNumber 155 = .ok (.getfield 80, 3) := by decide +kernel
theorem dX6_readNumber_158 : decode cX6_readNumber 158 = .ok (.invokevirtual 57, 3) := by decide +kernel
theorem dX6_readNumber_161 : decode cX6_readNumber 161 = .ok (.iload_n 3, 1) := by decide +kernel
theorem dX6_readNumber_162 : decode cX6_readNumber 162 = .ok (.ireturn, 1) := by decide +kernel
theorem dX6_skipBlanks_0 : decode cX6_skipBlanks 0 = .ok (.aload_n 0, 1) := by decide +kernel
theorem dX6_skipBlanks_1 : decode cX6_skipBlanks 1 = .ok (.getfield 32, 3) := by decide +kernel
theorem dX6_skipBlanks_4 : decode cX6_skipBlanks 4 = .ok (.aload_n 0, 1) := by decide +kernel
theorem dX6_skipBlanks_5 : decode cX6_skipBlanks 5 = .ok (.getfield 26, 3) := by decide +kernel
theorem dX6_skipBlanks_8 : decode cX6_skipBlanks 8 = .ok (.if_icmp .ge 30, 3) := by decide +kernel
theorem dX6_skipBlanks_11 : decode cX6_skipBlanks 11 = .ok (.aload_n 0, 1) := by decide +kernel
theorem dX6_skipBlanks_12 : decode cX6_skipBlanks 12 = .ok (.getfield 9, 3) := by decide +kernel
theorem dX6_skipBlanks_15 : decode cX6_skipBlanks 15 = .ok (.aload_n 0, 1) := by decide +kernel
theorem dX6_skipBlanks_16 : decode cX6_skipBlanks 16 = .ok (.getfield 32, 3) := by decide +kernel
theorem dX6_skipBlanks_19 : decode cX6_skipBlanks 19 = .ok (.iaload, 1) := by decide +kernel
theorem dX6_skipBlanks_20 : decode cX6_skipBlanks 20 = .ok (.bipush 32, 2) := by decide +kernel
theorem dX6_skipBlanks_22 : decode cX6_skipBlanks 22 = .ok (.if_icmp .ne 16, 3) := by decide +kernel
theorem dX6_skipBlanks_25 : decode cX6_skipBlanks 25 = .ok (.aload_n 0, 1) := by decide +kernel
theorem dX6_skipBlanks_26 : decode cX6_skipBlanks 26 = .ok (.dup, 1) := by decide +kernel
theorem dX6_skipBlanks_27 : decode cX6_skipBlanks 27 = .ok (.getfield 32, 3) := by decide +kernel
theorem dX6_skipBlanks_30 : decode cX6_skipBlanks 30 = .ok (.iconst 1, 1) := by decide +kernel
theorem dX6_skipBlanks_31 : decode cX6_skipBlanks 31 = .ok (.iadd, 1) := by decide +kernel
theorem dX6_skipBlanks_32 : decode cX6_skipBlanks 32 = .ok (.putfield 32, 3) := by decide +kernel
theorem dX6_skipBlanks_35 : decode cX6_skipBlanks 35 = .ok (.goto (-35), 3) := by decide +kernel
theorem dX6_skipBlanks_38 : decode cX6_skipBlanks 38 = .ok (.return_, 1) := by decide +kernel
theorem dX6_blame_0 : decode cX6_blame 0 = .ok (.aload_n 0, 1) := by decide +kernel
theorem dX6_blame_1 : decode cX6_blame 1 = .ok (.getfield 35, 3) := by decide +kernel
theorem dX6_blame_4 : decode cX6_blame 4 = .ok (.ifCond .ne 13, 3) := by decide +kernel
theorem dX6_blame_7 : decode cX6_blame 7 = .ok (.aload_n 0, 1) := by decide +kernel
theorem dX6_blame_8 : decode cX6_blame 8 = .ok (.iload_n 1, 1) := by decide +kernel
theorem dX6_blame_9 : decode cX6_blame 9 = .ok (.putfield 35, 3) := by decide +kernel
theorem dX6_blame_12 : decode cX6_blame 12 = .ok (.aload_n 0, 1) := by decide +kernel
theorem dX6_blame_13 : decode cX6_blame 13 = .ok (.iload_n 2, 1) := by decide +kernel
theorem dX6_blame_14 : decode cX6_blame 14 = .ok (.putfield 22, 3) := by decide +kernel
theorem dX6_blame_17 : decode cX6_blame 17 = .ok (.return_, 1) := by decide +kernel
theorem dX7_init_0 : decode cX7_init 0 = .ok (.aload_n 0, 1) := by decide +kernel
theorem dX7_init_1 : decode cX7_init 1 = .ok (.invokespecial 3, 3) := by decide +kernel
theorem dX7_init_4 : decode cX7_init 4 = .ok (.aload_n 0, 1) := by decide +kernel
theorem dX7_init_5 : decode cX7_init 5 = .ok (.aload_n 1, 1) := by decide +kernel
theorem dX7_init_6 : decode cX7_init 6 = .ok (.putfield 9, 3) := by decide +kernel
theorem dX7_init_9 : decode cX7_init 9 = .ok (.return_, 1) := by decide +kernel
theorem dX7_seek_0 : decode cX7_seek 0 = .ok (.iconst 1, 1) := by decide +kernel
theorem dX7_seek_1 : decode cX7_seek 1 = .ok (.istore_n 3, 1) := by decide +kernel
theorem dX7_seek_2 : decode cX7_seek 2 = .ok (.iload_n 3, 1) := by decide +kernel
theorem dX7_seek_3 : decode cX7_seek 3 = .ok (.iconst 4, 1) := by decide +kernel
theorem dX7_seek_4 : decode cX7_seek 4 = .ok (.if_icmp .gt 52, 3) := by decide +kernel
theorem dX7_seek_7 : decode cX7_seek 7 = .ok (.iconst 0, 1) := by decide +kernel
theorem dX7_seek_8 : decode cX7_seek 8 = .ok (.istore 4, 2) := by decide +kernel
theorem dX7_seek_10 : decode cX7_seek 10 = .ok (.iload 4, 2) := by decide +kernel
theorem dX7_seek_12 : decode cX7_seek 12 = .ok (.iconst 1, 1) := by decide +kernel
theorem dX7_seek_13 : decode cX7_seek 13 = .ok (.iconst 2, 1) := by decide +kernel
theorem dX7_seek_14 : decode cX7_seek 14 = .ok (.iload_n 3, 1) := by decide +kernel
theorem dX7_seek_15 : decode cX7_seek 15 = .ok (.imul, 1) := by decide +kernel
theorem dX7_seek_16 : decode cX7_seek 16 = .ok (.ishl, 1) := by decide +kernel
theorem dX7_seek_17 : decode cX7_seek 17 = .ok (.if_icmp .ge 33, 3) := by decide +kernel
theorem dX7_seek_20 : decode cX7_seek 20 = .ok (.aload_n 0, 1) := by decide +kernel
theorem dX7_seek_21 : decode cX7_seek 21 = .ok (.aload_n 1, 1) := by decide +kernel
theorem dX7_seek_22 : decode cX7_seek 22 = .ok (.iload_n 2, 1) := by decide +kernel
theorem dX7_seek_23 : decode cX7_seek 23 = .ok (.iload 4, 2) := by decide +kernel
theorem dX7_seek_25 : decode cX7_seek 25 = .ok (.iload_n 3, 1) := by decide +kernel
theorem dX7_seek_26 : decode cX7_seek 26 = .ok (.invokevirtual 15, 3) := by decide +kernel
theorem dX7_seek_29 : decode cX7_seek 29 = .ok (.ifCond .eq 15, 3) := by decide +kernel
theorem dX7_seek_32 : decode cX7_seek 32 = .ok (.aload_n 0, 1) := by decide +kernel
theorem dX7_seek_33 : decode cX7_seek 33 = .ok (.iload_n 3, 1) := by decide +kernel
theorem dX7_seek_34 : decode cX7_seek 34 = .ok (.putfield 19, 3) := by decide +kernel
theorem dX7_seek_37 : decode cX7_seek 37 = .ok (.aload_n 0, 1) := by decide +kernel
theorem dX7_seek_38 : decode cX7_seek 38 = .ok (.iload 4, 2) := by decide +kernel
theorem dX7_seek_40 : decode cX7_seek 40 = .ok (.putfield 23, 3) := by decide +kernel
theorem dX7_seek_43 : decode cX7_seek 43 = .ok (.return_, 1) := by decide +kernel
theorem dX7_seek_44 : decode cX7_seek 44 = .ok (.iinc 4 1, 3) := by decide +kernel
theorem dX7_seek_47 : decode cX7_seek 47 = .ok (.goto (-37), 3) := by decide +kernel
theorem dX7_seek_50 : decode cX7_seek 50 = .ok (.iinc 3 1, 3) := by decide +kernel
theorem dX7_seek_53 : decode cX7_seek 53 = .ok (.goto (-51), 3) := by decide +kernel
theorem dX7_seek_56 : decode cX7_seek 56 = .ok (.aload_n 0, 1) := by decide +kernel
theorem dX7_seek_57 : decode cX7_seek 57 = .ok (.iconst (-1), 1) := by decide +kernel
theorem dX7_seek_58 : decode cX7_seek 58 = .ok (.putfield 19, 3) := by decide +kernel
theorem dX7_seek_61 : decode cX7_seek 61 = .ok (.aload_n 0, 1) := by decide +kernel
theorem dX7_seek_62 : decode cX7_seek 62 = .ok (.iconst 0, 1) := by decide +kernel
theorem dX7_seek_63 : decode cX7_seek 63 = .ok (.putfield 23, 3) := by decide +kernel
theorem dX7_seek_66 : decode cX7_seek 66 = .ok (.return_, 1) := by decide +kernel
theorem dX7_nobodyWakes_0 : decode cX7_nobodyWakes 0 = .ok (.aload_n 0, 1) := by decide +kernel
theorem dX7_nobodyWakes_1 : decode cX7_nobodyWakes 1 = .ok (.getfield 9, 3) := by decide +kernel
theorem dX7_nobodyWakes_4 : decode cX7_nobodyWakes 4 = .ok (.aload_n 1, 1) := by decide +kernel
theorem dX7_nobodyWakes_5 : decode cX7_nobodyWakes 5 = .ok (.invokevirtual 26, 3) := by decide +kernel
theorem dX7_nobodyWakes_8 : decode cX7_nobodyWakes 8 = .ok (.iconst 0, 1) := by decide +kernel
theorem dX7_nobodyWakes_9 : decode cX7_nobodyWakes 9 = .ok (.istore 5, 2) := by decide +kernel
theorem dX7_nobodyWakes_11 : decode cX7_nobodyWakes 11 = .ok (.iconst 0, 1) := by decide +kernel
theorem dX7_nobodyWakes_12 : decode cX7_nobodyWakes 12 = .ok (.istore 6, 2) := by decide +kernel
theorem dX7_nobodyWakes_14 : decode cX7_nobodyWakes 14 = .ok (.iload 6, 2) := by decide +kernel
theorem dX7_nobodyWakes_16 : decode cX7_nobodyWakes 16 = .ok (.iload_n 2, 1) := by decide +kernel
theorem dX7_nobodyWakes_17 : decode cX7_nobodyWakes 17 = .ok (.if_icmp .ge 55, 3) := by decide +kernel
theorem dX7_nobodyWakes_20 : decode cX7_nobodyWakes 20 = .ok (.aload_n 0, 1) := by decide +kernel
theorem dX7_nobodyWakes_21 : decode cX7_nobodyWakes 21 = .ok (.getfield 9, 3) := by decide +kernel
theorem dX7_nobodyWakes_24 : decode cX7_nobodyWakes 24 = .ok (.iload_n 3, 1) := by decide +kernel
theorem dX7_nobodyWakes_25 : decode cX7_nobodyWakes 25 = .ok (.iload 4, 2) := by decide +kernel
theorem dX7_nobodyWakes_27 : decode cX7_nobodyWakes 27 = .ok (.iload 5, 2) := by decide +kernel
theorem dX7_nobodyWakes_29 : decode cX7_nobodyWakes 29 = .ok (.invokestatic 32, 3) := by decide +kernel
theorem dX7_nobodyWakes_32 : decode cX7_nobodyWakes 32 = .ok (.invokevirtual 36, 3) := by decide +kernel
theorem dX7_nobodyWakes_35 : decode cX7_nobodyWakes 35 = .ok (.aload_n 0, 1) := by decide +kernel
theorem dX7_nobodyWakes_36 : decode cX7_nobodyWakes 36 = .ok (.getfield 9, 3) := by decide +kernel
theorem dX7_nobodyWakes_39 : decode cX7_nobodyWakes 39 = .ok (.invokevirtual 40, 3) := by decide +kernel
theorem dX7_nobodyWakes_42 : decode cX7_nobodyWakes 42 = .ok (.ifCond .eq 5, 3) := by decide +kernel
theorem dX7_nobodyWakes_45 : decode cX7_nobodyWakes 45 = .ok (.iconst 0, 1) := by decide +kernel
theorem dX7_nobodyWakes_46 : decode cX7_nobodyWakes 46 = .ok (.ireturn, 1) := by decide +kernel
theorem dX7_nobodyWakes_47 : decode cX7_nobodyWakes 47 = .ok (.iload 5, 2) := by decide +kernel
theorem dX7_nobodyWakes_49 : decode cX7_nobodyWakes 49 = .ok (.iconst 1, 1) := by decide +kernel
theorem dX7_nobodyWakes_50 : decode cX7_nobodyWakes 50 = .ok (.iadd, 1) := by decide +kernel
theorem dX7_nobodyWakes_51 : decode cX7_nobodyWakes 51 = .ok (.iload 4, 2) := by decide +kernel
theorem dX7_nobodyWakes_53 : decode cX7_nobodyWakes 53 = .ok (.if_icmp .ge 10, 3) := by decide +kernel
theorem dX7_nobodyWakes_56 : decode cX7_nobodyWakes 56 = .ok (.iload 5, 2) := by decide +kernel
theorem dX7_nobodyWakes_58 : decode cX7_nobodyWakes 58 = .ok (.iconst 1, 1) := by decide +kernel
theorem dX7_nobodyWakes_59 : decode cX7_nobodyWakes 59 = .ok (.iadd, 1) := by decide +kernel
theorem dX7_nobodyWakes_60 : decode cX7_nobodyWakes 60 = .ok (.goto 4, 3) := by decide +kernel
theorem dX7_nobodyWakes_63 : decode cX7_nobodyWakes 63 = .ok (.iconst 0, 1) := by decide +kernel
theorem dX7_nobodyWakes_64 : decode cX7_nobodyWakes 64 = .ok (.istore 5, 2) := by decide +kernel
theorem dX7_nobodyWakes_66 : decode cX7_nobodyWakes 66 = .ok (.iinc 6 1, 3) := by decide +kernel
theorem dX7_nobodyWakes_69 : decode cX7_nobodyWakes 69 = .ok (.goto (-55), 3) := by decide +kernel
theorem dX7_nobodyWakes_72 : decode cX7_nobodyWakes 72 = .ok (.iconst 1, 1) := by decide +kernel
theorem dX7_nobodyWakes_73 : decode cX7_nobodyWakes 73 = .ok (.ireturn, 1) := by decide +kernel
theorem dX8_init_0 : decode cX8_init 0 = .ok (.aload_n 0, 1) := by decide +kernel
theorem dX8_init_1 : decode cX8_init 1 = .ok (.invokespecial 3, 3) := by decide +kernel
theorem dX8_init_4 : decode cX8_init 4 = .ok (.aload_n 0, 1) := by decide +kernel
theorem dX8_init_5 : decode cX8_init 5 = .ok (.sipush 201, 3) := by decide +kernel
theorem dX8_init_8 : decode cX8_init 8 = .ok (.newarray .long, 2) := by decide +kernel
theorem dX8_init_10 : decode cX8_init 10 = .ok (.putfield 9, 3) := by decide +kernel
theorem dX8_init_13 : decode cX8_init 13 = .ok (.aload_n 0, 1) := by decide +kernel
theorem dX8_init_14 : decode cX8_init 14 = .ok (.aload_n 1, 1) := by decide +kernel
theorem dX8_init_15 : decode cX8_init 15 = .ok (.putfield 15, 3) := by decide +kernel
theorem dX8_init_18 : decode cX8_init 18 = .ok (.return_, 1) := by decide +kernel
theorem dX8_seek_0 : decode cX8_seek 0 = .ok (.aload_n 0, 1) := by decide +kernel
theorem dX8_seek_1 : decode cX8_seek 1 = .ok (.iconst (-1), 1) := by decide +kernel
theorem dX8_seek_2 : decode cX8_seek 2 = .ok (.putfield 19, 3) := by decide +kernel
theorem dX8_seek_5 : decode cX8_seek 5 = .ok (.aload_n 0, 1) := by decide +kernel
theorem dX8_seek_6 : decode cX8_seek 6 = .ok (.iconst 0, 1) := by decide +kernel
theorem dX8_seek_7 : decode cX8_seek 7 = .ok (.putfield 23, 3) := by decide +kernel
theorem dX8_seek_10 : decode cX8_seek 10 = .ok (.aload_n 0, 1) := by decide +kernel
theorem dX8_seek_11 : decode cX8_seek 11 = .ok (.getfield 15, 3) := by decide +kernel
theorem dX8_seek_14 : decode cX8_seek 14 = .ok (.aload_n 1, 1) := by decide +kernel
theorem dX8_seek_15 : decode cX8_seek 15 = .ok (.invokevirtual 26, 3) := by decide +kernel
theorem dX8_seek_18 : decode cX8_seek 18 = .ok (.aload_n 0, 1) := by decide +kernel
theorem dX8_seek_19 : decode cX8_seek 19 = .ok (.getfield 9, 3) := by decide +kernel
theorem dX8_seek_22 : decode cX8_seek 22 = .ok (.iconst 0, 1) := by decide +kernel
theorem dX8_seek_23 : decode cX8_seek 23 = .ok (.aload_n 0, 1) := by decide +kernel
theorem dX8_seek_24 : decode cX8_seek 24 = .ok (.getfield 15, 3) := by decide +kernel
theorem dX8_seek_27 : decode cX8_seek 27 = .ok (.invokevirtual 32, 3) := by decide +kernel
theorem dX8_seek_30 : decode cX8_seek 30 = .ok (.lastore, 1) := by decide +kernel
theorem dX8_seek_31 : decode cX8_seek 31 = .ok (.iconst 1, 1) := by decide +kernel
theorem dX8_seek_32 : decode cX8_seek 32 = .ok (.istore_n 2, 1) := by decide +kernel
theorem dX8_seek_33 : decode cX8_seek 33 = .ok (.iload_n 2, 1) := by decide +kernel
theorem dX8_seek_34 : decode cX8_seek 34 = .ok (.sipush 200, 3) := by decide +kernel
theorem dX8_seek_37 : decode cX8_seek 37 = .ok (.if_icmp .gt 72, 3) := by decide +kernel
theorem dX8_seek_40 : decode cX8_seek 40 = .ok (.iconst 0, 1) := by decide +kernel
theorem dX8_seek_41 : decode cX8_seek 41 = .ok (.istore_n 3, 1) := by decide +kernel
theorem dX8_seek_42 : decode cX8_seek 42 = .ok (.iload_n 3, 1) := by decide +kernel
theorem dX8_seek_43 : decode cX8_seek 43 = .ok (.aload_n 1, 1) := by decide +kernel
theorem dX8_seek_44 : decode cX8_seek 44 = .ok (.getfield 36, 3) := by decide +kernel
theorem dX8_seek_47 : decode cX8_seek 47 = .ok (.getfield 40, 3) := by decide +kernel
theorem dX8_seek_50 : decode cX8_seek 50 = .ok (.if_icmp .ge 16, 3) := by decide +kernel
theorem dX8_seek_53 : decode cX8_seek 53 = .ok (.aload_n 0, 1) := by decide +kernel
theorem dX8_seek_54 : decode cX8_seek 54 = .ok (.getfield 15, 3) := by decide +kernel
theorem dX8_seek_57 : decode cX8_seek 57 = .ok (.invokevirtual 45, 3) := by decide +kernel
theorem dX8_seek_60 : decode cX8_seek 60 = .ok (.iinc 3 1, 3) := by decide +kernel
theorem dX8_seek_63 : decode cX8_seek 63 = .ok (.goto (-21), 3) := by decide +kernel
theorem dX8_seek_66 : decode cX8_seek 66 = .ok (.aload_n 0, 1) := by decide +kernel
theorem dX8_seek_67 : decode cX8_seek 67 = .ok (.getfield 9, 3) := by decide +kernel
theorem dX8_seek_70 : decode cX8_seek 70 = .ok (.iload_n 2, 1) := by decide +kernel
theorem dX8_seek_71 : decode cX8_seek 71 = .ok (.aload_n 0, 1) := by decide +kernel
theorem dX8_seek_72 : decode cX8_seek 72 = .ok (.getfield 15, 3) := by decide +kernel
theorem dX8_seek_75 : decode cX8_seek 75 = .ok (.invokevirtual 32, 3) := by decide +kernel
theorem dX8_seek_78 : decode cX8_seek 78 = .ok (.lastore, 1) := by decide +kernel
theorem dX8_seek_79 : decode cX8_seek 79 = .ok (.aload_n 0, 1) := by decide +kernel
theorem dX8_seek_80 : decode cX8_seek 80 = .ok (.iload_n 2, 1) := by decide +kernel
theorem dX8_seek_81 : decode cX8_seek 81 = .ok (.invokevirtual 48, 3) := by decide +kernel
theorem dX8_seek_84 : decode cX8_seek 84 = .ok (.istore_n 3, 1) := by decide +kernel
theorem dX8_seek_85 : decode cX8_seek 85 = .ok (.iload_n 3, 1) := by decide +kernel
theorem dX8_seek_86 : decode cX8_seek 86 = .ok (.iconst (-1), 1) := by decide +kernel
theorem dX8_seek_87 : decode cX8_seek 87 = .ok (.if_icmp .eq 16, 3) := by decide +kernel
theorem dX8_seek_90 : decode cX8_seek 90 = .ok (.aload_n 0, 1) := by decide +kernel
theorem dX8_seek_91 : decode cX8_seek 91 = .ok (.iload_n 3, 1) := by decide +kernel
theorem dX8_seek_92 : decode cX8_seek 92 = .ok (.putfield 23, 3) := by decide +kernel
theorem dX8_seek_95 : decode cX8_seek 95 = .ok (.aload_n 0, 1) := by decide +kernel
theorem dX8_seek_96 : decode cX8_seek 96 = .ok (.iload_n 2, 1) := by decide +kernel
theorem dX8_seek_97 : decode cX8_seek 97 = .ok (.iload_n 3, 1) := by decide +kernel
theorem dX8_seek_98 : decode cX8_seek 98 = .ok (.isub, 1) := by decide +kernel
theorem dX8_seek_99 : decode cX8_seek 99 = .ok (.putfield 19, 3) := by decide +kernel
theorem dX8_seek_102 : decode cX8_seek 102 = .ok (.return_, 1) := by decide +kernel
theorem dX8_seek_103 : decode cX8_seek 103 = .ok (.iinc 2 1, 3) := by decide +kernel
theorem dX8_seek_106 : decode cX8_seek 106 = .ok (.goto (-73), 3) := by decide +kernel
theorem dX8_seek_109 : decode cX8_seek 109 = .ok (.return_, 1) := by decide +kernel
theorem dX8_likeBefore_0 : decode cX8_likeBefore 0 = .ok (.iconst 0, 1) := by decide +kernel
theorem dX8_likeBefore_1 : decode cX8_likeBefore 1 = .ok (.istore_n 2, 1) := by decide +kernel
theorem dX8_likeBefore_2 : decode cX8_likeBefore 2 = .ok (.iload_n 2, 1) := by decide +kernel
theorem dX8_likeBefore_3 : decode cX8_likeBefore 3 = .ok (.iload_n 1, 1) := by decide +kernel
theorem dX8_likeBefore_4 : decode cX8_likeBefore 4 = .ok (.if_icmp .ge 27, 3) := by decide +kernel
theorem dX8_likeBefore_7 : decode cX8_likeBefore 7 = .ok (.aload_n 0, 1) := by decide +kernel
theorem dX8_likeBefore_8 : decode cX8_likeBefore 8 = .ok (.getfield 9, 3) := by decide +kernel
theorem dX8_likeBefore_11 : decode cX8_likeBefore 11 = .ok (.iload_n 2, 1) := by decide +kernel
theorem dX8_likeBefore_12 : decode cX8_likeBefore 12 = .ok (.laload, 1) := by decide +kernel
theorem dX8_likeBefore_13 : decode cX8_likeBefore 13 = .ok (.aload_n 0, 1) := by decide +kernel
theorem dX8_likeBefore_14 : decode cX8_likeBefore 14 = .ok (.getfield 9, 3) := by decide +kernel
theorem dX8_likeBefore_17 : decode cX8_likeBefore 17 = .ok (.iload_n 1, 1) := by decide +kernel
theorem dX8_likeBefore_18 : decode cX8_likeBefore 18 = .ok (.laload, 1) := by decide +kernel
theorem dX8_likeBefore_19 : decode cX8_likeBefore 19 = .ok (.lcmp, 1) := by decide +kernel
theorem dX8_likeBefore_20 : decode cX8_likeBefore 20 = .ok (.ifCond .ne 5, 3) := by decide +kernel
theorem dX8_likeBefore_23 : decode cX8_likeBefore 23 = .ok (.iload_n 2, 1) := by decide +kernel
theorem dX8_likeBefore_24 : decode cX8_likeBefore 24 = .ok (.ireturn, 1) := by decide +kernel
theorem dX8_likeBefore_25 : decode cX8_likeBefore 25 = .ok (.iinc 2 1, 3) := by decide +kernel
theorem dX8_likeBefore_28 : decode cX8_likeBefore 28 = .ok (.goto (-26), 3) := by decide +kernel
theorem dX8_likeBefore_31 : decode cX8_likeBefore 31 = .ok (.iconst (-1), 1) := by decide +kernel
theorem dX8_likeBefore_32 : decode cX8_likeBefore 32 = .ok (.ireturn, 1) := by decide +kernel
theorem dX8_hoursInWarmest_0 : decode cX8_hoursInWarmest 0 = .ok (.aload_n 1, 1) := by decide +kernel
theorem dX8_hoursInWarmest_1 : decode cX8_hoursInWarmest 1 = .ok (.getfield 36, 3) := by decide +kernel
theorem dX8_hoursInWarmest_4 : decode cX8_hoursInWarmest 4 = .ok (.invokevirtual 52, 3) := by decide +kernel
theorem dX8_hoursInWarmest_7 : decode cX8_hoursInWarmest 7 = .ok (.istore_n 3, 1) := by decide +kernel
theorem dX8_hoursInWarmest_8 : decode cX8_hoursInWarmest 8 = .ok (.aload_n 1, 1) := by decide +kernel
theorem dX8_hoursInWarmest_9 : decode cX8_hoursInWarmest 9 = .ok (.getfield 36, 3) := by decide +kernel
theorem dX8_hoursInWarmest_12 : decode cX8_hoursInWarmest 12 = .ok (.getfield 40, 3) := by decide +kernel
theorem dX8_hoursInWarmest_15 : decode cX8_hoursInWarmest 15 = .ok (.istore 4, 2) := by decide +kernel
theorem dX8_hoursInWarmest_17 : decode cX8_hoursInWarmest 17 = .ok (.aload_n 0, 1) := by decide +kernel
theorem dX8_hoursInWarmest_18 : decode cX8_hoursInWarmest 18 = .ok (.getfield 15, 3) := by decide +kernel
theorem dX8_hoursInWarmest_21 : decode cX8_hoursInWarmest 21 = .ok (.aload_n 1, 1) := by decide +kernel
theorem dX8_hoursInWarmest_22 : decode cX8_hoursInWarmest 22 = .ok (.invokevirtual 26, 3) := by decide +kernel
theorem dX8_hoursInWarmest_25 : decode cX8_hoursInWarmest 25 = .ok (.iconst 0, 1) := by decide +kernel
theorem dX8_hoursInWarmest_26 : decode cX8_hoursInWarmest 26 = .ok (.istore 5, 2) := by decide +kernel
theorem dX8_hoursInWarmest_28 : decode cX8_hoursInWarmest 28 = .ok (.iload 5, 2) := by decide +kernel
theorem dX8_hoursInWarmest_30 : decode cX8_hoursInWarmest 30 = .ok (.aload_n 0, 1) := by decide +kernel
theorem dX8_hoursInWarmest_31 : decode cX8_hoursInWarmest 31 = .ok (.getfield 23, 3) := by decide +kernel
theorem dX8_hoursInWarmest_34 : decode cX8_hoursInWarmest 34 = .ok (.iload 4, 2) := by decide +kernel
theorem dX8_hoursInWarmest_36 : decode cX8_hoursInWarmest 36 = .ok (.imul, 1) := by decide +kernel
theorem dX8_hoursInWarmest_37 : decode cX8_hoursInWarmest 37 = .ok (.if_icmp .ge 16, 3) := by decide +kernel
theorem dX8_hoursInWarmest_40 : decode cX8_hoursInWarmest 40 = .ok (.aload_n 0, 1) := by decide +kernel
theorem dX8_hoursInWarmest_41 : decode cX8_hoursInWarmest 41 = .ok (.getfield 15, 3) := by decide +kernel
theorem dX8_hoursInWarmest_44 : decode cX8_hoursInWarmest 44 = .ok (.invokevirtual 45, 3) := by decide +kernel
theorem dX8_hoursInWarmest_47 : decode cX8_hoursInWarmest 47 = .ok (.iinc 5 1, 3) := by decide +kernel
theorem dX8_hoursInWarmest_50 : decode cX8_hoursInWarmest 50 = .ok (.goto (-22), 3) := by decide +kernel
theorem dX8_hoursInWarmest_53 : decode cX8_hoursInWarmest 53 = .ok (.iconst 0, 1) := by decide +kernel
theorem dX8_hoursInWarmest_54 : decode cX8_hoursInWarmest 54 = .ok (.istore 5, 2) := by decide +kernel
theorem dX8_hoursInWarmest_56 : decode cX8_hoursInWarmest 56 = .ok (.iconst 0, 1) := by decide +kernel
theorem dX8_hoursInWarmest_57 : decode cX8_hoursInWarmest 57 = .ok (.istore 6, 2) := by decide +kernel
theorem dX8_hoursInWarmest_59 : decode cX8_hoursInWarmest 59 = .ok (.iload 6, 2) := by decide +kernel
theorem dX8_hoursInWarmest_61 : decode cX8_hoursInWarmest 61 = .ok (.aload_n 0, 1) := by decide +kernel
theorem dX8_hoursInWarmest_62 : decode cX8_hoursInWarmest 62 = .ok (.getfield 19, 3) := by decide +kernel
theorem dX8_hoursInWarmest_65 : decode cX8_hoursInWarmest 65 = .ok (.iload 4, 2) := by decide +kernel
theorem dX8_hoursInWarmest_67 : decode cX8_hoursInWarmest 67 = .ok (.imul, 1) := by decide +kernel
theorem dX8_hoursInWarmest_68 : decode cX8_hoursInWarmest 68 = .ok (.if_icmp .ge 32, 3) := by decide +kernel
theorem dX8_hoursInWarmest_71 : decode cX8_hoursInWarmest 71 = .ok (.aload_n 0, 1) := by decide +kernel
theorem dX8_hoursInWarmest_72 : decode cX8_hoursInWarmest 72 = .ok (.getfield 15, 3) := by decide +kernel
theorem dX8_hoursInWarmest_75 : decode cX8_hoursInWarmest 75 = .ok (.invokevirtual 45, 3) := by decide +kernel
theorem dX8_hoursInWarmest_78 : decode cX8_hoursInWarmest 78 = .ok (.aload_n 0, 1) := by decide +kernel
theorem dX8_hoursInWarmest_79 : decode cX8_hoursInWarmest 79 = .ok (.getfield 15, 3) := by decide +kernel
theorem dX8_hoursInWarmest_82 : decode cX8_hoursInWarmest 82 = .ok (.getfield 56, 3) := by decide +kernel
theorem dX8_hoursInWarmest_85 : decode cX8_hoursInWarmest 85 = .ok (.iload_n 3, 1) := by decide +kernel
theorem dX8_hoursInWarmest_86 : decode cX8_hoursInWarmest 86 = .ok (.iaload, 1) := by decide +kernel
theorem dX8_hoursInWarmest_87 : decode cX8_hoursInWarmest 87 = .ok (.iload_n 2, 1) := by decide +kernel
theorem dX8_hoursInWarmest_88 : decode cX8_hoursInWarmest 88 = .ok (.if_icmp .ne 6, 3) := by decide +kernel
theorem dX8_hoursInWarmest_91 : decode cX8_hoursInWarmest 91 = .ok (.iinc 5 1, 3) := by decide +kernel
theorem dX8_hoursInWarmest_94 : decode cX8_hoursInWarmest 94 = .ok (.iinc 6 1, 3) := by decide +kernel
theorem dX8_hoursInWarmest_97 : decode cX8_hoursInWarmest 97 = .ok (.goto (-38), 3) := by decide +kernel
theorem dX8_hoursInWarmest_100 : decode cX8_hoursInWarmest 100 = .ok (.iload 5, 2) := by decide +kernel
theorem dX8_hoursInWarmest_102 : decode cX8_hoursInWarmest 102 = .ok (.ireturn, 1) := by decide +kernel
theorem dX9_init_0 : decode cX9_init 0 = .ok (.aload_n 0, 1) := by decide +kernel
theorem dX9_init_1 : decode cX9_init 1 = .ok (.invokespecial 3, 3) := by decide +kernel
theorem dX9_init_4 : decode cX9_init 4 = .ok (.aload_n 0, 1) := by decide +kernel
theorem dX9_init_5 : decode cX9_init 5 = .ok (.bipush 6, 2) := by decide +kernel
theorem dX9_init_7 : decode cX9_init 7 = .ok (.newarray .int, 2) := by decide +kernel
theorem dX9_init_9 : decode cX9_init 9 = .ok (.putfield 9, 3) := by decide +kernel
theorem dX9_init_12 : decode cX9_init 12 = .ok (.aload_n 0, 1) := by decide +kernel
theorem dX9_init_13 : decode cX9_init 13 = .ok (.bipush 6, 2) := by decide +kernel
theorem dX9_init_15 : decode cX9_init 15 = .ok (.newarray .int, 2) := by decide +kernel
theorem dX9_init_17 : decode cX9_init 17 = .ok (.putfield 15, 3) := by decide +kernel
theorem dX9_init_20 : decode cX9_init 20 = .ok (.return_, 1) := by decide +kernel
theorem dX9_empty_0 : decode cX9_empty 0 = .ok (.aload_n 0, 1) := by decide +kernel
theorem dX9_empty_1 : decode cX9_empty 1 = .ok (.iconst 0, 1) := by decide +kernel
theorem dX9_empty_2 : decode cX9_empty 2 = .ok (.putfield 18, 3) := by decide +kernel
theorem dX9_empty_5 : decode cX9_empty 5 = .ok (.return_, 1) := by decide +kernel
theorem dX9_add_0 : decode cX9_add 0 = .ok (.aload_n 0, 1) := by decide +kernel
theorem dX9_add_1 : decode cX9_add 1 = .ok (.getfield 18, 3) := by decide +kernel
theorem dX9_add_4 : decode cX9_add 4 = .ok (.bipush 6, 2) := by decide +kernel
theorem dX9_add_6 : decode cX9_add 6 = .ok (.if_icmp .lt 5, 3) := by decide +kernel
theorem dX9_add_9 : decode cX9_add 9 = .ok (.iconst 0, 1) := by decide +kernel
theorem dX9_add_10 : decode cX9_add 10 = .ok (.ireturn, 1) := by decide +kernel
theorem dX9_add_11 : decode cX9_add 11 = .ok (.aload_n 0, 1) := by decide +kernel
theorem dX9_add_12 : decode cX9_add 12 = .ok (.getfield 9, 3) := by decide +kernel
theorem dX9_add_15 : decode cX9_add 15 = .ok (.aload_n 0, 1) := by decide +kernel
theorem dX9_add_16 : decode cX9_add 16 = .ok (.getfield 18, 3) := by decide +kernel
theorem dX9_add_19 : decode cX9_add 19 = .ok (.iload_n 1, 1) := by decide +kernel
theorem dX9_add_20 : decode cX9_add 20 = .ok (.iastore, 1) := by decide +kernel
theorem dX9_add_21 : decode cX9_add 21 = .ok (.aload_n 0, 1) := by decide +kernel
theorem dX9_add_22 : decode cX9_add 22 = .ok (.getfield 15, 3) := by decide +kernel
theorem dX9_add_25 : decode cX9_add 25 = .ok (.aload_n 0, 1) := by decide +kernel
theorem dX9_add_26 : decode cX9_add 26 = .ok (.getfield 18, 3) := by decide +kernel
theorem dX9_add_29 : decode cX9_add 29 = .ok (.iload_n 2, 1) := by decide +kernel
theorem dX9_add_30 : decode cX9_add 30 = .ok (.iastore, 1) := by decide +kernel
theorem dX9_add_31 : decode cX9_add 31 = .ok (.aload_n 0, 1) := by decide +kernel
theorem dX9_add_32 : decode cX9_add 32 = .ok (.dup, 1) := by decide +kernel
theorem dX9_add_33 : decode cX9_add 33 = .ok (.getfield 18, 3) := by decide +kernel
theorem dX9_add_36 : decode cX9_add 36 = .ok (.iconst 1, 1) := by decide +kernel
theorem dX9_add_37 : decode cX9_add 37 = .ok (.iadd, 1) := by decide +kernel
theorem dX9_add_38 : decode cX9_add 38 = .ok (.putfield 18, 3) := by decide +kernel
theorem dX9_add_41 : decode cX9_add 41 = .ok (.iconst 1, 1) := by decide +kernel
theorem dX9_add_42 : decode cX9_add 42 = .ok (.ireturn, 1) := by decide +kernel
theorem dX9_seek_0 : decode cX9_seek 0 = .ok (.aload_n 0, 1) := by decide +kernel
theorem dX9_seek_1 : decode cX9_seek 1 = .ok (.iconst 0, 1) := by decide +kernel
theorem dX9_seek_2 : decode cX9_seek 2 = .ok (.putfield 22, 3) := by decide +kernel
theorem dX9_seek_5 : decode cX9_seek 5 = .ok (.aload_n 0, 1) := by decide +kernel
theorem dX9_seek_6 : decode cX9_seek 6 = .ok (.iconst 0, 1) := by decide +kernel
theorem dX9_seek_7 : decode cX9_seek 7 = .ok (.putfield 25, 3) := by decide +kernel
theorem dX9_seek_10 : decode cX9_seek 10 = .ok (.aload_n 0, 1) := by decide +kernel
theorem dX9_seek_11 : decode cX9_seek 11 = .ok (.iconst 0, 1) := by decide +kernel
theorem dX9_seek_12 : decode cX9_seek 12 = .ok (.putfield 28, 3) := by decide +kernel
theorem dX9_seek_15 : decode cX9_seek 15 = .ok (.iconst 0, 1) := by decide +kernel
theorem dX9_seek_16 : decode cX9_seek 16 = .ok (.istore_n 3, 1) := by decide +kernel
theorem dX9_seek_17 : decode cX9_seek 17 = .ok (.iload_n 3, 1) := by decide +kernel
theorem dX9_seek_18 : decode cX9_seek 18 = .ok (.iconst 1, 1) := by decide +kernel
theorem dX9_seek_19 : decode cX9_seek 19 = .ok (.iconst 2, 1) := by decide +kernel
theorem dX9_seek_20 : decode cX9_seek 20 = .ok (.iload_n 2, 1) := by decide +kernel
theorem dX9_seek_21 : decode cX9_seek 21 = .ok (.imul, 1) := by decide +kernel
theorem dX9_seek_22 : decode cX9_seek 22 = .ok (.ishl, 1) := by decide +kernel
theorem dX9_seek_23 : decode cX9_seek 23 = .ok (.if_icmp .ge 78, 3) := by decide +kernel
theorem dX9_seek_26 : decode cX9_seek 26 = .ok (.aload_n 0, 1) := by decide +kernel
theorem dX9_seek_27 : decode cX9_seek 27 = .ok (.aload_n 1, 1) := by decide +kernel
theorem dX9_seek_28 : decode cX9_seek 28 = .ok (.iload_n 3, 1) := by decide +kernel
theorem dX9_seek_29 : decode cX9_seek 29 = .ok (.iload_n 2, 1) := by decide +kernel
theorem dX9_seek_30 : decode cX9_seek 30 = .ok (.invokevirtual 31, 3) := by decide +kernel
theorem dX9_seek_33 : decode cX9_seek 33 = .ok (.ifCond .eq 62, 3) := by decide +kernel
theorem dX9_seek_36 : decode cX9_seek 36 = .ok (.iload_n 3, 1) := by decide +kernel
theorem dX9_seek_37 : decode cX9_seek 37 = .ok (.iload_n 2, 1) := by decide +kernel
theorem dX9_seek_38 : decode cX9_seek 38 = .ok (.invokestatic 35, 3) := by decide +kernel
theorem dX9_seek_41 : decode cX9_seek 41 = .ok (.istore 4, 2) := by decide +kernel
theorem dX9_seek_43 : decode cX9_seek 43 = .ok (.aload_n 0, 1) := by decide +kernel
theorem dX9_seek_44 : decode cX9_seek 44 = .ok (.aload_n 0, 1) := by decide +kernel
theorem dX9_seek_45 : decode cX9_seek 45 = .ok (.getfield 22, 3) := by decide +kernel
theorem dX9_seek_48 : decode cX9_seek 48 = .ok (.ifCond .ne 7, 3) := by decide +kernel
theorem dX9_seek_51 : decode cX9_seek 51 = .ok (.iload_n 3, 1) := by decide +kernel
theorem dX9_seek_52 : decode cX9_seek 52 = .ok (.goto 7, 3) := by decide +kernel
theorem dX9_seek_55 : decode cX9_seek 55 = .ok (.aload_n 0, 1) := by decide +kernel
theorem dX9_seek_56 : decode cX9_seek 56 = .ok (.getfield 25, 3) := by decide +kernel
theorem dX9_seek_59 : decode cX9_seek 59 = .ok (.putfield 25, 3) := by decide +kernel
theorem dX9_seek_62 : decode cX9_seek 62 = .ok (.aload_n 0, 1) := by decide +kernel
theorem dX9_seek_63 : decode cX9_seek 63 = .ok (.aload_n 0, 1) := by decide +kernel
theorem dX9_seek_64 : decode cX9_seek 64 = .ok (.getfield 22, 3) := by decide +kernel
theorem dX9_seek_67 : decode cX9_seek 67 = .ok (.ifCond .ne 8, 3) := by decide +kernel
theorem dX9_seek_70 : decode cX9_seek 70 = .ok (.iload 4, 2) := by decide +kernel
theorem dX9_seek_72 : decode cX9_seek 72 = .ok (.goto 10, 3) := by decide +kernel
theorem dX9_seek_75 : decode cX9_seek 75 = .ok (.aload_n 0, 1) := by decide +kernel
theorem dX9_seek_76 : decode cX9_seek 76 = .ok (.getfield 28, 3) := by decide +kernel
theorem dX9_seek_79 : decode cX9_seek 79 = .ok (.iload 4, 2) := by decide +kernel
theorem dX9_seek_81 : decode cX9_seek 81 = .ok (.iand, 1) := by decide +kernel
theorem dX9_seek_82 : decode cX9_seek 82 = .ok (.putfield 28, 3) := by decide +kernel
theorem dX9_seek_85 : decode cX9_seek 85 = .ok (.aload_n 0, 1) := by decide +kernel
theorem dX9_seek_86 : decode cX9_seek 86 = .ok (.dup, 1) := by decide +kernel
theorem dX9_seek_87 : decode cX9_seek 87 = .ok (.getfield 22, 3) := by decide +kernel
theorem dX9_seek_90 : decode cX9_seek 90 = .ok (.iconst 1, 1) := by decide +kernel
theorem dX9_seek_91 : decode cX9_seek 91 = .ok (.iadd, 1) := by decide +kernel
theorem dX9_seek_92 : decode cX9_seek 92 = .ok (.putfield 22, 3) := by decide +kernel
theorem dX9_seek_95 : decode cX9_seek 95 = .ok (.iinc 3 1, 3) := by decide +kernel
theorem dX9_seek_98 : decode cX9_seek 98 = .ok (.goto (-81), 3) := by decide +kernel
theorem dX9_seek_101 : decode cX9_seek 101 = .ok (.return_, 1) := by decide +kernel
theorem dX9_fits_0 : decode cX9_fits 0 = .ok (.iconst 0, 1) := by decide +kernel
theorem dX9_fits_1 : decode cX9_fits 1 = .ok (.istore 4, 2) := by decide +kernel
theorem dX9_fits_3 : decode cX9_fits 3 = .ok (.iload 4, 2) := by decide +kernel
theorem dX9_fits_5 : decode cX9_fits 5 = .ok (.aload_n 0, 1) := by decide +kernel
theorem dX9_fits_6 : decode cX9_fits 6 = .ok (.getfield 18, 3) := by decide +kernel
theorem dX9_fits_9 : decode cX9_fits 9 = .ok (.if_icmp .ge 77, 3) := by decide +kernel
theorem dX9_fits_12 : decode cX9_fits 12 = .ok (.aload_n 1, 1) := by decide +kernel
theorem dX9_fits_13 : decode cX9_fits 13 = .ok (.aload_n 0, 1) := by decide +kernel
theorem dX9_fits_14 : decode cX9_fits 14 = .ok (.getfield 9, 3) := by decide +kernel
theorem dX9_fits_17 : decode cX9_fits 17 = .ok (.iload 4, 2) := by decide +kernel
theorem dX9_fits_19 : decode cX9_fits 19 = .ok (.iaload, 1) := by decide +kernel
theorem dX9_fits_20 : decode cX9_fits 20 = .ok (.invokevirtual 39, 3) := by decide +kernel
theorem dX9_fits_23 : decode cX9_fits 23 = .ok (.istore 5, 2) := by decide +kernel
theorem dX9_fits_25 : decode cX9_fits 25 = .ok (.iload 5, 2) := by decide +kernel
theorem dX9_fits_27 : decode cX9_fits 27 = .ok (.iconst (-1), 1) := by decide +kernel
theorem dX9_fits_28 : decode cX9_fits 28 = .ok (.if_icmp .ne 5, 3) := by decide +kernel
theorem dX9_fits_31 : decode cX9_fits 31 = .ok (.iconst 0, 1) := by decide +kernel
theorem dX9_fits_32 : decode cX9_fits 32 = .ok (.ireturn, 1) := by decide +kernel
theorem dX9_fits_33 : decode cX9_fits 33 = .ok (.iconst 0, 1) := by decide +kernel
theorem dX9_fits_34 : decode cX9_fits 34 = .ok (.istore 6, 2) := by decide +kernel
theorem dX9_fits_36 : decode cX9_fits 36 = .ok (.iload 6, 2) := by decide +kernel
theorem dX9_fits_38 : decode cX9_fits 38 = .ok (.iload_n 3, 1) := by decide +kernel
theorem dX9_fits_39 : decode cX9_fits 39 = .ok (.if_icmp .ge 27, 3) := by decide +kernel
theorem dX9_fits_42 : decode cX9_fits 42 = .ok (.aload_n 1, 1) := by decide +kernel
theorem dX9_fits_43 : decode cX9_fits 43 = .ok (.getfield 45, 3) := by decide +kernel
theorem dX9_fits_46 : decode cX9_fits 46 = .ok (.iload 5, 2) := by decide +kernel
theorem dX9_fits_48 : decode cX9_fits 48 = .ok (.iload_n 2, 1) := by decide +kernel
theorem dX9_fits_49 : decode cX9_fits 49 = .ok (.iload_n 3, 1) := by decide +kernel
theorem dX9_fits_50 : decode cX9_fits 50 = .ok (.iload 6, 2) := by decide +kernel
theorem dX9_fits_52 : decode cX9_fits 52 = .ok (.invokestatic 49, 3) := by decide +kernel
theorem dX9_fits_55 : decode cX9_fits 55 = .ok (.invokevirtual 53, 3) := by decide +kernel
theorem dX9_fits_58 : decode cX9_fits 58 = .ok (.istore 5, 2) := by decide +kernel
theorem dX9_fits_60 : decode cX9_fits 60 = .ok (.iinc 6 1, 3) := by decide +kernel
theorem dX9_fits_63 : decode cX9_fits 63 = .ok (.goto (-27), 3) := by decide +kernel
theorem dX9_fits_66 : decode cX9_fits 66 = .ok (.iload 5, 2) := by decide +kernel
theorem dX9_fits_68 : decode cX9_fits 68 = .ok (.aload_n 0, 1) := by decide +kernel
theorem dX9_fits_69 : decode cX9_fits 69 = .ok (.getfield 15, 3) := by decide +kernel
theorem dX9_fits_72 : decode cX9_fits 72 = .ok (.iload 4, 2) := by decide +kernel
theorem dX9_fits_74 : decode cX9_fits 74 = .ok (.iaload, 1) := by decide +kernel
theorem dX9_fits_75 : decode cX9_fits 75 = .ok (.if_icmp .eq 5, 3) := by decide +kernel
theorem dX9_fits_78 : decode cX9_fits 78 = .ok (.iconst 0, 1) := by decide +kernel
theorem dX9_fits_79 : decode cX9_fits 79 = .ok (.ireturn, 1) := by decide +kernel
theorem dX9_fits_80 : decode cX9_fits 80 = .ok (.iinc 4 1, 3) := by decide +kernel
theorem dX9_fits_83 : decode cX9_fits 83 = .ok (.goto (-80), 3) := by decide +kernel
theorem dX9_fits_86 : decode cX9_fits 86 = .ok (.iconst 1, 1) := by decide +kernel
theorem dX9_fits_87 : decode cX9_fits 87 = .ok (.ireturn, 1) := by decide +kernel
theorem dX9_wordsIn_0 : decode cX9_wordsIn 0 = .ok (.iconst 0, 1) := by decide +kernel
theorem dX9_wordsIn_1 : decode cX9_wordsIn 1 = .ok (.istore_n 2, 1) := by decide +kernel
theorem dX9_wordsIn_2 : decode cX9_wordsIn 2 = .ok (.iconst 0, 1) := by decide +kernel
theorem dX9_wordsIn_3 : decode cX9_wordsIn 3 = .ok (.istore_n 3, 1) := by decide +kernel
theorem dX9_wordsIn_4 : decode cX9_wordsIn 4 = .ok (.iload_n 3, 1) := by decide +kernel
theorem dX9_wordsIn_5 : decode cX9_wordsIn 5 = .ok (.iload_n 1, 1) := by decide +kernel
theorem dX9_wordsIn_6 : decode cX9_wordsIn 6 = .ok (.if_icmp .ge 20, 3) := by decide +kernel
theorem dX9_wordsIn_9 : decode cX9_wordsIn 9 = .ok (.iload_n 2, 1) := by decide +kernel
theorem dX9_wordsIn_10 : decode cX9_wordsIn 10 = .ok (.iconst 1, 1) := by decide +kernel
theorem dX9_wordsIn_11 : decode cX9_wordsIn 11 = .ok (.iload_n 0, 1) := by decide +kernel
theorem dX9_wordsIn_12 : decode cX9_wordsIn 12 = .ok (.iload_n 1, 1) := by decide +kernel
theorem dX9_wordsIn_13 : decode cX9_wordsIn 13 = .ok (.iload_n 3, 1) := by decide +kernel
theorem dX9_wordsIn_14 : decode cX9_wordsIn 14 = .ok (.invokestatic 49, 3) := by decide +kernel
theorem dX9_wordsIn_17 : decode cX9_wordsIn 17 = .ok (.ishl, 1) := by decide +kernel
theorem dX9_wordsIn_18 : decode cX9_wordsIn 18 = .ok (.ior, 1) := by decide +kernel
theorem dX9_wordsIn_19 : decode cX9_wordsIn 19 = .ok (.istore_n 2, 1) := by decide +kernel
theorem dX9_wordsIn_20 : decode cX9_wordsIn 20 = .ok (.iinc 3 1, 3) := by decide +kernel
theorem dX9_wordsIn_23 : decode cX9_wordsIn 23 = .ok (.goto (-19), 3) := by decide +kernel
theorem dX9_wordsIn_26 : decode cX9_wordsIn 26 = .ok (.iload_n 2, 1) := by decide +kernel
theorem dX9_wordsIn_27 : decode cX9_wordsIn 27 = .ok (.ireturn, 1) := by decide +kernel
theorem dX10_init_0 : decode cX10_init 0 = .ok (.aload_n 0, 1) := by decide +kernel
theorem dX10_init_1 : decode cX10_init 1 = .ok (.invokespecial 3, 3) := by decide +kernel
theorem dX10_init_4 : decode cX10_init 4 = .ok (.aload_n 0, 1) := by decide +kernel
theorem dX10_init_5 : decode cX10_init 5 = .ok (.bipush 6, 2) := by decide +kernel
theorem dX10_init_7 : decode cX10_init 7 = .ok (.anewarray 9, 3) := by decide +kernel
theorem dX10_init_10 : decode cX10_init 10 = .ok (.putfield 11, 3) := by decide +kernel
theorem dX10_init_13 : decode cX10_init 13 = .ok (.aload_n 0, 1) := by decide +kernel
theorem dX10_init_14 : decode cX10_init 14 = .ok (.iconst 5, 1) := by decide +kernel
theorem dX10_init_15 : decode cX10_init 15 = .ok (.newarray .int, 2) := by decide +kernel
theorem dX10_init_17 : decode cX10_init 17 = .ok (.putfield 17, 3) := by decide +kernel
theorem dX10_init_20 : decode cX10_init 20 = .ok (.aload_n 0, 1) := by decide +kernel
theorem dX10_init_21 : decode cX10_init 21 = .ok (.iconst 5, 1) := by decide +kernel
theorem dX10_init_22 : decode cX10_init 22 = .ok (.newarray .int, 2) := by decide +kernel
theorem dX10_init_24 : decode cX10_init 24 = .ok (.putfield 21, 3) := by decide +kernel
theorem dX10_init_27 : decode cX10_init 27 = .ok (.iconst 0, 1) := by decide +kernel
theorem dX10_init_28 : decode cX10_init 28 = .ok (.istore_n 2, 1) := by decide +kernel
theorem dX10_init_29 : decode cX10_init 29 = .ok (.iload_n 2, 1) := by decide +kernel
theorem dX10_init_30 : decode cX10_init 30 = .ok (.iconst 5, 1) := by decide +kernel
theorem dX10_init_31 : decode cX10_init 31 = .ok (.if_icmp .gt 23, 3) := by decide +kernel
theorem dX10_init_34 : decode cX10_init 34 = .ok (.aload_n 0, 1) := by decide +kernel
theorem dX10_init_35 : decode cX10_init 35 = .ok (.getfield 11, 3) := by decide +kernel
theorem dX10_init_38 : decode cX10_init 38 = .ok (.iload_n 2, 1) := by decide +kernel
theorem dX10_init_39 : decode cX10_init 39 = .ok (.new 9, 3) := by decide +kernel
theorem dX10_init_42 : decode cX10_init 42 = .ok (.dup, 1) := by decide +kernel
theorem dX10_init_43 : decode cX10_init 43 = .ok (.aload_n 1, 1) := by decide +kernel
theorem dX10_init_44 : decode cX10_init 44 = .ok (.invokespecial 24, 3) := by decide +kernel
theorem dX10_init_47 : decode cX10_init 47 = .ok (.aastore, 1) := by decide +kernel
theorem dX10_init_48 : decode cX10_init 48 = .ok (.iinc 2 1, 3) := by decide +kernel
theorem dX10_init_51 : decode cX10_init 51 = .ok (.goto (-22), 3) := by decide +kernel
theorem dX10_init_54 : decode cX10_init 54 = .ok (.return_, 1) := by decide +kernel
theorem dX10_seek_0 : decode cX10_seek 0 = .ok (.aload_n 0, 1) := by decide +kernel
theorem dX10_seek_1 : decode cX10_seek 1 = .ok (.iconst (-1), 1) := by decide +kernel
theorem dX10_seek_2 : decode cX10_seek 2 = .ok (.putfield 27, 3) := by decide +kernel
theorem dX10_seek_5 : decode cX10_seek 5 = .ok (.aload_n 0, 1) := by decide +kernel
theorem dX10_seek_6 : decode cX10_seek 6 = .ok (.iconst 0, 1) := by decide +kernel
theorem dX10_seek_7 : decode cX10_seek 7 = .ok (.putfield 31, 3) := by decide +kernel
theorem dX10_seek_10 : decode cX10_seek 10 = .ok (.aload_n 0, 1) := by decide +kernel
theorem dX10_seek_11 : decode cX10_seek 11 = .ok (.getfield 11, 3) := by decide +kernel
theorem dX10_seek_14 : decode cX10_seek 14 = .ok (.iconst 0, 1) := by decide +kernel
theorem dX10_seek_15 : decode cX10_seek 15 = .ok (.aaload, 1) := by decide +kernel
theorem dX10_seek_16 : decode cX10_seek 16 = .ok (.aload_n 1, 1) := by decide +kernel
theorem dX10_seek_17 : decode cX10_seek 17 = .ok (.invokevirtual 34, 3) := by decide +kernel
theorem dX10_seek_20 : decode cX10_seek 20 = .ok (.aload_n 0, 1) := by decide +kernel
theorem dX10_seek_21 : decode cX10_seek 21 = .ok (.iconst 0, 1) := by decide +kernel
theorem dX10_seek_22 : decode cX10_seek 22 = .ok (.iload_n 2, 1) := by decide +kernel
theorem dX10_seek_23 : decode cX10_seek 23 = .ok (.iconst 0, 1) := by decide +kernel
theorem dX10_seek_24 : decode cX10_seek 24 = .ok (.invokestatic 38, 3) := by decide +kernel
theorem dX10_seek_27 : decode cX10_seek 27 = .ok (.return_, 1) := by decide +kernel
theorem dX10_tryWords_0 : decode cX10_tryWords 0 = .ok (.iload_n 1, 1) := by decide +kernel
theorem dX10_tryWords_1 : decode cX10_tryWords 1 = .ok (.iload_n 2, 1) := by decide +kernel
theorem dX10_tryWords_2 : decode cX10_tryWords 2 = .ok (.if_icmp .ge 8, 3) := by decide +kernel
theorem dX10_tryWords_5 : decode cX10_tryWords 5 = .ok (.iload_n 1, 1) := by decide +kernel
theorem dX10_tryWords_6 : decode cX10_tryWords 6 = .ok (.iconst 5, 1) := by decide +kernel
theorem dX10_tryWords_7 : decode cX10_tryWords 7 = .ok (.if_icmp .lt 10, 3) := by decide +kernel
theorem dX10_tryWords_10 : decode cX10_tryWords 10 = .ok (.aload_n 0, 1) := by decide +kernel
theorem dX10_tryWords_11 : decode cX10_tryWords 11 = .ok (.iload_n 1, 1) := by decide +kernel
theorem dX10_tryWords_12 : decode cX10_tryWords 12 = .ok (.iload_n 3, 1) := by decide +kernel
theorem dX10_tryWords_13 : decode cX10_tryWords 13 = .ok (.invokevirtual 42, 3) := by decide +kernel
theorem dX10_tryWords_16 : decode cX10_tryWords 16 = .ok (.return_, 1) := by decide +kernel
theorem dX10_tryWords_17 : decode cX10_tryWords 17 = .ok (.aload_n 0, 1) := by decide +kernel
theorem dX10_tryWords_18 : decode cX10_tryWords 18 = .ok (.getfield 11, 3) := by decide +kernel
theorem dX10_tryWords_21 : decode cX10_tryWords 21 = .ok (.iload_n 1, 1) := by decide +kernel
theorem dX10_tryWords_22 : decode cX10_tryWords 22 = .ok (.iconst 1, 1) := by decide +kernel
theorem dX10_tryWords_23 : decode cX10_tryWords 23 = .ok (.iadd, 1) := by decide +kernel
theorem dX10_tryWords_24 : decode cX10_tryWords 24 = .ok (.aaload, 1) := by decide +kernel
theorem dX10_tryWords_25 : decode cX10_tryWords 25 = .ok (.astore 4, 2) := by decide +kernel
theorem dX10_tryWords_27 : decode cX10_tryWords 27 = .ok (.iconst 0, 1) := by decide +kernel
theorem dX10_tryWords_28 : decode cX10_tryWords 28 = .ok (.istore 5, 2) := by decide +kernel
theorem dX10_tryWords_30 : decode cX10_tryWords 30 = .ok (.iload 5, 2) := by decide +kernel
theorem dX10_tryWords_32 : decode cX10_tryWords 32 = .ok (.iconst 4, 1) := by decide +kernel
theorem dX10_tryWords_33 : decode cX10_tryWords 33 = .ok (.if_icmp .ge 63, 3) := by decide +kernel
theorem dX10_tryWords_36 : decode cX10_tryWords 36 = .ok (.aload 4, 2) := by decide +kernel
theorem dX10_tryWords_38 : decode cX10_tryWords 38 = .ok (.aload_n 0, 1) := by decide +kernel
theorem dX10_tryWords_39 : decode cX10_tryWords 39 = .ok (.getfield 11, 3) := by decide +kernel
theorem dX10_tryWords_42 : decode cX10_tryWords 42 = .ok (.iload_n 1, 1) := by decide +kernel
theorem dX10_tryWords_43 : decode cX10_tryWords 43 = .ok (.aaload, 1) := by decide +kernel
theorem dX10_tryWords_44 : decode cX10_tryWords 44 = .ok (.invokevirtual 34, 3) := by decide +kernel
theorem dX10_tryWords_47 : decode cX10_tryWords 47 = .ok (.aload 4, 2) := by decide +kernel
theorem dX10_tryWords_49 : decode cX10_tryWords 49 = .ok (.iload 5, 2) := by decide +kernel
theorem dX10_tryWords_51 : decode cX10_tryWords 51 = .ok (.invokevirtual 46, 3) := by decide +kernel
theorem dX10_tryWords_54 : decode cX10_tryWords 54 = .ok (.aload 4, 2) := by decide +kernel
theorem dX10_tryWords_56 : decode cX10_tryWords 56 = .ok (.invokevirtual 50, 3) := by decide +kernel
theorem dX10_tryWords_59 : decode cX10_tryWords 59 = .ok (.ifCond .ne 31, 3) := by decide +kernel
theorem dX10_tryWords_62 : decode cX10_tryWords 62 = .ok (.aload_n 0, 1) := by decide +kernel
theorem dX10_tryWords_63 : decode cX10_tryWords 63 = .ok (.getfield 17, 3) := by decide +kernel
theorem dX10_tryWords_66 : decode cX10_tryWords 66 = .ok (.iload_n 1, 1) := by decide +kernel
theorem dX10_tryWords_67 : decode cX10_tryWords 67 = .ok (.iload 5, 2) := by decide +kernel
theorem dX10_tryWords_69 : decode cX10_tryWords 69 = .ok (.iastore, 1) := by decide +kernel
theorem dX10_tryWords_70 : decode cX10_tryWords 70 = .ok (.aload_n 0, 1) := by decide +kernel
theorem dX10_tryWords_71 : decode cX10_tryWords 71 = .ok (.iload_n 1, 1) := by decide +kernel
theorem dX10_tryWords_72 : decode cX10_tryWords 72 = .ok (.iconst 1, 1) := by decide +kernel
theorem dX10_tryWords_73 : decode cX10_tryWords 73 = .ok (.iadd, 1) := by decide +kernel
theorem dX10_tryWords_74 : decode cX10_tryWords 74 = .ok (.iload_n 2, 1) := by decide +kernel
theorem dX10_tryWords_75 : decode cX10_tryWords 75 = .ok (.iload 5, 2) := by decide +kernel
theorem dX10_tryWords_77 : decode cX10_tryWords 77 = .ok (.ifCond .ne 7, 3) := by decide +kernel
theorem dX10_tryWords_80 : decode cX10_tryWords 80 = .ok (.iload_n 3, 1) := by decide +kernel
theorem dX10_tryWords_81 : decode cX10_tryWords 81 = .ok (.goto 6, 3) := by decide +kernel
theorem dX10_tryWords_84 : decode cX10_tryWords 84 = .ok (.iload_n 3, 1) := by decide +kernel
theorem dX10_tryWords_85 : decode cX10_tryWords 85 = .ok (.iconst 1, 1) := by decide +kernel
theorem dX10_tryWords_86 : decode cX10_tryWords 86 = .ok (.iadd, 1) := by decide +kernel
theorem dX10_tryWords_87 : decode cX10_tryWords 87 = .ok (.invokestatic 38, 3) := by decide +kernel
theorem dX10_tryWords_90 : decode cX10_tryWords 90 = .ok (.iinc 5 1, 3) := by decide +kernel
theorem dX10_tryWords_93 : decode cX10_tryWords 93 = .ok (.goto (-63), 3) := by decide +kernel
theorem dX10_tryWords_96 : decode cX10_tryWords 96 = .ok (.return_, 1) := by decide +kernel
theorem dX10_compare_0 : decode cX10_compare 0 = .ok (.aload_n 0, 1) := by decide +kernel
theorem dX10_compare_1 : decode cX10_compare 1 = .ok (.getfield 11, 3) := by decide +kernel
theorem dX10_compare_4 : decode cX10_compare 4 = .ok (.iload_n 1, 1) := by decide +kernel
theorem dX10_compare_5 : decode cX10_compare 5 = .ok (.aaload, 1) := by decide +kernel
theorem dX10_compare_6 : decode cX10_compare 6 = .ok (.invokevirtual 54, 3) := by decide +kernel
theorem dX10_compare_9 : decode cX10_compare 9 = .ok (.istore_n 3, 1) := by decide +kernel
theorem dX10_compare_10 : decode cX10_compare 10 = .ok (.iload_n 3, 1) := by decide +kernel
theorem dX10_compare_11 : decode cX10_compare 11 = .ok (.aload_n 0, 1) := by decide +kernel
theorem dX10_compare_12 : decode cX10_compare 12 = .ok (.getfield 27, 3) := by decide +kernel
theorem dX10_compare_15 : decode cX10_compare 15 = .ok (.if_icmp .gt 19, 3) := by decide +kernel
theorem dX10_compare_18 : decode cX10_compare 18 = .ok (.iload_n 3, 1) := by decide +kernel
theorem dX10_compare_19 : decode cX10_compare 19 = .ok (.aload_n 0, 1) := by decide +kernel
theorem dX10_compare_20 : decode cX10_compare 20 = .ok (.getfield 27, 3) := by decide +kernel
theorem dX10_compare_23 : decode cX10_compare 23 = .ok (.if_icmp .ne 35, 3) := by decide +kernel
theorem dX10_compare_26 : decode cX10_compare 26 = .ok (.iload_n 2, 1) := by decide +kernel
theorem dX10_compare_27 : decode cX10_compare 27 = .ok (.aload_n 0, 1) := by decide +kernel
theorem dX10_compare_28 : decode cX10_compare 28 = .ok (.getfield 31, 3) := by decide +kernel
theorem dX10_compare_31 : decode cX10_compare 31 = .ok (.if_icmp .ge 27, 3) := by decide +kernel
theorem dX10_compare_34 : decode cX10_compare 34 = .ok (.aload_n 0, 1) := by decide +kernel
theorem dX10_compare_35 : decode cX10_compare 35 = .ok (.iload_n 3, 1) := by decide +kernel
theorem dX10_compare_36 : decode cX10_compare 36 = .ok (.putfield 27, 3) := by decide +kernel
theorem dX10_compare_39 : decode cX10_compare 39 = .ok (.aload_n 0, 1) := by decide +kernel
theorem dX10_compare_40 : decode cX10_compare 40 = .ok (.iload_n 2, 1) := by decide +kernel
theorem dX10_compare_41 : decode cX10_compare 41 = .ok (.putfield 31, 3) := by decide +kernel
theorem dX10_compare_44 : decode cX10_compare 44 = .ok (.aload_n 0, 1) := by decide +kernel
theorem dX10_compare_45 : decode cX10_compare 45 = .ok (.getfield 17, 3) := by decide +kernel
theorem dX10_compare_48 : decode cX10_compare 48 = .ok (.iconst 0, 1) := by decide +kernel
theorem dX10_compare_49 : decode cX10_compare 49 = .ok (.aload_n 0, 1) := by decide +kernel
theorem dX10_compare_50 : decode cX10_compare 50 = .ok (.getfield 21, 3) := by decide +kernel
theorem dX10_compare_53 : decode cX10_compare 53 = .ok (.iconst 0, 1) := by decide +kernel
theorem dX10_compare_54 : decode cX10_compare 54 = .ok (.iconst 5, 1) := by decide +kernel
theorem dX10_compare_55 : decode cX10_compare 55 = .ok (.invokestatic 56, 3) := by decide +kernel
theorem dX10_compare_58 : decode cX10_compare 58 = .ok (.return_, 1) := by decide +kernel
theorem dJ6_numberOfTrailingZeros_0f7a4_0 : decode cJ6_numberOfTrailingZeros_0f7a4 0 = .ok (.iload_n 0, 1) := by decide +kernel
theorem dJ6_numberOfTrailingZeros_0f7a4_1 : decode cJ6_numberOfTrailingZeros_0f7a4 1 = .ok (.iconst (-1), 1) := by decide +kernel
theorem dJ6_numberOfTrailingZeros_0f7a4_2 : decode cJ6_numberOfTrailingZeros_0f7a4 2 = .ok (.ixor, 1) := by decide +kernel
theorem dJ6_numberOfTrailingZeros_0f7a4_3 : decode cJ6_numberOfTrailingZeros_0f7a4 3 = .ok (.iload_n 0, 1) := by decide +kernel
theorem dJ6_numberOfTrailingZeros_0f7a4_4 : decode cJ6_numberOfTrailingZeros_0f7a4 4 = .ok (.iconst 1, 1) := by decide +kernel
theorem dJ6_numberOfTrailingZeros_0f7a4_5 : decode cJ6_numberOfTrailingZeros_0f7a4 5 = .ok (.isub, 1) := by decide +kernel
theorem dJ6_numberOfTrailingZeros_0f7a4_6 : decode cJ6_numberOfTrailingZeros_0f7a4 6 = .ok (.iand, 1) := by decide +kernel
theorem dJ6_numberOfTrailingZeros_0f7a4_7 : decode cJ6_numberOfTrailingZeros_0f7a4 7 = .ok (.istore_n 0, 1) := by decide +kernel
theorem dJ6_numberOfTrailingZeros_0f7a4_8 : decode cJ6_numberOfTrailingZeros_0f7a4 8 = .ok (.iload_n 0, 1) := by decide +kernel
theorem dJ6_numberOfTrailingZeros_0f7a4_9 : decode cJ6_numberOfTrailingZeros_0f7a4 9 = .ok (.ifCond .gt 8, 3) := by decide +kernel
theorem dJ6_numberOfTrailingZeros_0f7a4_12 : decode cJ6_numberOfTrailingZeros_0f7a4 12 = .ok (.iload_n 0, 1) := by decide +kernel
theorem dJ6_numberOfTrailingZeros_0f7a4_13 : decode cJ6_numberOfTrailingZeros_0f7a4 13 = .ok (.bipush 32, 2) := by decide +kernel
theorem dJ6_numberOfTrailingZeros_0f7a4_15 : decode cJ6_numberOfTrailingZeros_0f7a4 15 = .ok (.iand, 1) := by decide +kernel
theorem dJ6_numberOfTrailingZeros_0f7a4_16 : decode cJ6_numberOfTrailingZeros_0f7a4 16 = .ok (.ireturn, 1) := by decide +kernel
theorem dJ6_numberOfTrailingZeros_0f7a4_17 : decode cJ6_numberOfTrailingZeros_0f7a4 17 = .ok (.iconst 1, 1) := by decide +kernel
theorem dJ6_numberOfTrailingZeros_0f7a4_18 : decode cJ6_numberOfTrailingZeros_0f7a4 18 = .ok (.istore_n 1, 1) := by decide +kernel
theorem dJ6_numberOfTrailingZeros_0f7a4_19 : decode cJ6_numberOfTrailingZeros_0f7a4 19 = .ok (.iload_n 0, 1) := by decide +kernel
theorem dJ6_numberOfTrailingZeros_0f7a4_20 : decode cJ6_numberOfTrailingZeros_0f7a4 20 = .ok (.ldc_w 264, 3) := by decide +kernel
theorem dJ6_numberOfTrailingZeros_0f7a4_23 : decode cJ6_numberOfTrailingZeros_0f7a4 23 = .ok (.if_icmp .le 11, 3) := by decide +kernel
theorem dJ6_numberOfTrailingZeros_0f7a4_26 : decode cJ6_numberOfTrailingZeros_0f7a4 26 = .ok (.iinc 1 16, 3) := by decide +kernel
theorem dJ6_numberOfTrailingZeros_0f7a4_29 : decode cJ6_numberOfTrailingZeros_0f7a4 29 = .ok (.iload_n 0, 1) := by decide +kernel
theorem dJ6_numberOfTrailingZeros_0f7a4_30 : decode cJ6_numberOfTrailingZeros_0f7a4 30 = .ok (.bipush 16, 2) := by decide +kernel
theorem dJ6_numberOfTrailingZeros_0f7a4_32 : decode cJ6_numberOfTrailingZeros_0f7a4 32 = .ok (.iushr, 1) := by decide +kernel
theorem dJ6_numberOfTrailingZeros_0f7a4_33 : decode cJ6_numberOfTrailingZeros_0f7a4 33 = .ok (.istore_n 0, 1) := by decide +kernel
theorem dJ6_numberOfTrailingZeros_0f7a4_34 : decode cJ6_numberOfTrailingZeros_0f7a4 34 = .ok (.iload_n 0, 1) := by decide +kernel
theorem dJ6_numberOfTrailingZeros_0f7a4_35 : decode cJ6_numberOfTrailingZeros_0f7a4 35 = .ok (.sipush 256, 3) := by decide +kernel
theorem dJ6_numberOfTrailingZeros_0f7a4_38 : decode cJ6_numberOfTrailingZeros_0f7a4 38 = .ok (.if_icmp .le 11, 3) := by decide +kernel
theorem dJ6_numberOfTrailingZeros_0f7a4_41 : decode cJ6_numberOfTrailingZeros_0f7a4 41 = .ok (.iinc 1 8, 3) := by decide +kernel
theorem dJ6_numberOfTrailingZeros_0f7a4_44 : decode cJ6_numberOfTrailingZeros_0f7a4 44 = .ok (.iload_n 0, 1) := by decide +kernel
theorem dJ6_numberOfTrailingZeros_0f7a4_45 : decode cJ6_numberOfTrailingZeros_0f7a4 45 = .ok (.bipush 8, 2) := by decide +kernel
theorem dJ6_numberOfTrailingZeros_0f7a4_47 : decode cJ6_numberOfTrailingZeros_0f7a4 47 = .ok (.iushr, 1) := by decide +kernel
theorem dJ6_numberOfTrailingZeros_0f7a4_48 : decode cJ6_numberOfTrailingZeros_0f7a4 48 = .ok (.istore_n 0, 1) := by decide +kernel
theorem dJ6_numberOfTrailingZeros_0f7a4_49 : decode cJ6_numberOfTrailingZeros_0f7a4 49 = .ok (.iload_n 0, 1) := by decide +kernel
theorem dJ6_numberOfTrailingZeros_0f7a4_50 : decode cJ6_numberOfTrailingZeros_0f7a4 50 = .ok (.bipush 16, 2) := by decide +kernel
theorem dJ6_numberOfTrailingZeros_0f7a4_52 : decode cJ6_numberOfTrailingZeros_0f7a4 52 = .ok (.if_icmp .le 10, 3) := by decide +kernel
theorem dJ6_numberOfTrailingZeros_0f7a4_55 : decode cJ6_numberOfTrailingZeros_0f7a4 55 = .ok (.iinc 1 4, 3) := by decide +kernel
theorem dJ6_numberOfTrailingZeros_0f7a4_58 : decode cJ6_numberOfTrailingZeros_0f7a4 58 = .ok (.iload_n 0, 1) := by decide +kernel
theorem dJ6_numberOfTrailingZeros_0f7a4_59 : decode cJ6_numberOfTrailingZeros_0f7a4 59 = .ok (.iconst 4, 1) := by decide +kernel
theorem dJ6_numberOfTrailingZeros_0f7a4_60 : decode cJ6_numberOfTrailingZeros_0f7a4 60 = .ok (.iushr, 1) := by decide +kernel
theorem dJ6_numberOfTrailingZeros_0f7a4_61 : decode cJ6_numberOfTrailingZeros_0f7a4 61 = .ok (.istore_n 0, 1) := by decide +kernel
theorem dJ6_numberOfTrailingZeros_0f7a4_62 : decode cJ6_numberOfTrailingZeros_0f7a4 62 = .ok (.iload_n 0, 1) := by decide +kernel
theorem dJ6_numberOfTrailingZeros_0f7a4_63 : decode cJ6_numberOfTrailingZeros_0f7a4 63 = .ok (.iconst 4, 1) := by decide +kernel
theorem dJ6_numberOfTrailingZeros_0f7a4_64 : decode cJ6_numberOfTrailingZeros_0f7a4 64 = .ok (.if_icmp .le 10, 3) := by decide +kernel
theorem dJ6_numberOfTrailingZeros_0f7a4_67 : decode cJ6_numberOfTrailingZeros_0f7a4 67 = .ok (.iinc 1 2, 3) := by decide +kernel
theorem dJ6_numberOfTrailingZeros_0f7a4_70 : decode cJ6_numberOfTrailingZeros_0f7a4 70 = .ok (.iload_n 0, 1) := by decide +kernel
theorem dJ6_numberOfTrailingZeros_0f7a4_71 : decode cJ6_numberOfTrailingZeros_0f7a4 71 = .ok (.iconst 2, 1) := by decide +kernel
theorem dJ6_numberOfTrailingZeros_0f7a4_72 : decode cJ6_numberOfTrailingZeros_0f7a4 72 = .ok (.iushr, 1) := by decide +kernel
theorem dJ6_numberOfTrailingZeros_0f7a4_73 : decode cJ6_numberOfTrailingZeros_0f7a4 73 = .ok (.istore_n 0, 1) := by decide +kernel
theorem dJ6_numberOfTrailingZeros_0f7a4_74 : decode cJ6_numberOfTrailingZeros_0f7a4 74 = .ok (.iload_n 1, 1) := by decide +kernel
theorem dJ6_numberOfTrailingZeros_0f7a4_75 : decode cJ6_numberOfTrailingZeros_0f7a4 75 = .ok (.iload_n 0, 1) := by decide +kernel
theorem dJ6_numberOfTrailingZeros_0f7a4_76 : decode cJ6_numberOfTrailingZeros_0f7a4 76 = .ok (.iconst 1, 1) := by decide +kernel
theorem dJ6_numberOfTrailingZeros_0f7a4_77 : decode cJ6_numberOfTrailingZeros_0f7a4 77 = .ok (.iushr, 1) := by decide +kernel
theorem dJ6_numberOfTrailingZeros_0f7a4_78 : decode cJ6_numberOfTrailingZeros_0f7a4 78 = .ok (.iadd, 1) := by decide +kernel
theorem dJ6_numberOfTrailingZeros_0f7a4_79 : decode cJ6_numberOfTrailingZeros_0f7a4 79 = .ok (.ireturn, 1) := by decide +kernel
theorem dJ6_bitCount_0f7a4_0 : decode cJ6_bitCount_0f7a4 0 = .ok (.iload_n 0, 1) := by decide +kernel
theorem dJ6_bitCount_0f7a4_1 : decode cJ6_bitCount_0f7a4 1 = .ok (.iload_n 0, 1) := by decide +kernel
theorem dJ6_bitCount_0f7a4_2 : decode cJ6_bitCount_0f7a4 2 = .ok (.iconst 1, 1) := by decide +kernel
theorem dJ6_bitCount_0f7a4_3 : decode cJ6_bitCount_0f7a4 3 = .ok (.iushr, 1) := by decide +kernel
theorem dJ6_bitCount_0f7a4_4 : decode cJ6_bitCount_0f7a4 4 = .ok (.ldc_w 265, 3) := by decide +kernel
theorem dJ6_bitCount_0f7a4_7 : decode cJ6_bitCount_0f7a4 7 = .ok (.iand, 1) := by decide +kernel
theorem dJ6_bitCount_0f7a4_8 : decode cJ6_bitCount_0f7a4 8 = .ok (.isub, 1) := by decide +kernel
theorem dJ6_bitCount_0f7a4_9 : decode cJ6_bitCount_0f7a4 9 = .ok (.istore_n 0, 1) := by decide +kernel
theorem dJ6_bitCount_0f7a4_10 : decode cJ6_bitCount_0f7a4 10 = .ok (.iload_n 0, 1) := by decide +kernel
theorem dJ6_bitCount_0f7a4_11 : decode cJ6_bitCount_0f7a4 11 = .ok (.ldc_w 266, 3) := by decide +kernel
theorem dJ6_bitCount_0f7a4_14 : decode cJ6_bitCount_0f7a4 14 = .ok (.iand, 1) := by decide +kernel
theorem dJ6_bitCount_0f7a4_15 : decode cJ6_bitCount_0f7a4 15 = .ok (.iload_n 0, 1) := by decide +kernel
theorem dJ6_bitCount_0f7a4_16 : decode cJ6_bitCount_0f7a4 16 = .ok (.iconst 2, 1) := by decide +kernel
theorem dJ6_bitCount_0f7a4_17 : decode cJ6_bitCount_0f7a4 17 = .ok (.iushr, 1) := by decide +kernel
theorem dJ6_bitCount_0f7a4_18 : decode cJ6_bitCount_0f7a4 18 = .ok (.ldc_w 266, 3) := by decide +kernel
theorem dJ6_bitCount_0f7a4_21 : decode cJ6_bitCount_0f7a4 21 = .ok (.iand, 1) := by decide +kernel
theorem dJ6_bitCount_0f7a4_22 : decode cJ6_bitCount_0f7a4 22 = .ok (.iadd, 1) := by decide +kernel
theorem dJ6_bitCount_0f7a4_23 : decode cJ6_bitCount_0f7a4 23 = .ok (.istore_n 0, 1) := by decide +kernel
theorem dJ6_bitCount_0f7a4_24 : decode cJ6_bitCount_0f7a4 24 = .ok (.iload_n 0, 1) := by decide +kernel
theorem dJ6_bitCount_0f7a4_25 : decode cJ6_bitCount_0f7a4 25 = .ok (.iload_n 0, 1) := by decide +kernel
theorem dJ6_bitCount_0f7a4_26 : decode cJ6_bitCount_0f7a4 26 = .ok (.iconst 4, 1) := by decide +kernel
theorem dJ6_bitCount_0f7a4_27 : decode cJ6_bitCount_0f7a4 27 = .ok (.iushr, 1) := by decide +kernel
theorem dJ6_bitCount_0f7a4_28 : decode cJ6_bitCount_0f7a4 28 = .ok (.iadd, 1) := by decide +kernel
theorem dJ6_bitCount_0f7a4_29 : decode cJ6_bitCount_0f7a4 29 = .ok (.ldc_w 267, 3) := by decide +kernel
theorem dJ6_bitCount_0f7a4_32 : decode cJ6_bitCount_0f7a4 32 = .ok (.iand, 1) := by decide +kernel
theorem dJ6_bitCount_0f7a4_33 : decode cJ6_bitCount_0f7a4 33 = .ok (.istore_n 0, 1) := by decide +kernel
theorem dJ6_bitCount_0f7a4_34 : decode cJ6_bitCount_0f7a4 34 = .ok (.iload_n 0, 1) := by decide +kernel
theorem dJ6_bitCount_0f7a4_35 : decode cJ6_bitCount_0f7a4 35 = .ok (.iload_n 0, 1) := by decide +kernel
theorem dJ6_bitCount_0f7a4_36 : decode cJ6_bitCount_0f7a4 36 = .ok (.bipush 8, 2) := by decide +kernel
theorem dJ6_bitCount_0f7a4_38 : decode cJ6_bitCount_0f7a4 38 = .ok (.iushr, 1) := by decide +kernel
theorem dJ6_bitCount_0f7a4_39 : decode cJ6_bitCount_0f7a4 39 = .ok (.iadd, 1) := by decide +kernel
theorem dJ6_bitCount_0f7a4_40 : decode cJ6_bitCount_0f7a4 40 = .ok (.istore_n 0, 1) := by decide +kernel
theorem dJ6_bitCount_0f7a4_41 : decode cJ6_bitCount_0f7a4 41 = .ok (.iload_n 0, 1) := by decide +kernel
theorem dJ6_bitCount_0f7a4_42 : decode cJ6_bitCount_0f7a4 42 = .ok (.iload_n 0, 1) := by decide +kernel
theorem dJ6_bitCount_0f7a4_43 : decode cJ6_bitCount_0f7a4 43 = .ok (.bipush 16, 2) := by decide +kernel
theorem dJ6_bitCount_0f7a4_45 : decode cJ6_bitCount_0f7a4 45 = .ok (.iushr, 1) := by decide +kernel
theorem dJ6_bitCount_0f7a4_46 : decode cJ6_bitCount_0f7a4 46 = .ok (.iadd, 1) := by decide +kernel
theorem dJ6_bitCount_0f7a4_47 : decode cJ6_bitCount_0f7a4 47 = .ok (.istore_n 0, 1) := by decide +kernel
theorem dJ6_bitCount_0f7a4_48 : decode cJ6_bitCount_0f7a4 48 = .ok (.iload_n 0, 1) := by decide +kernel
theorem dJ6_bitCount_0f7a4_49 : decode cJ6_bitCount_0f7a4 49 = .ok (.bipush 63, 2) := by decide +kernel
theorem dJ6_bitCount_0f7a4_51 : decode cJ6_bitCount_0f7a4 51 = .ok (.iand, 1) := by decide +kernel
theorem dJ6_bitCount_0f7a4_52 : decode cJ6_bitCount_0f7a4 52 = .ok (.ireturn, 1) := by decide +kernel
theorem dJ9_abs_0f7a4_0 : decode cJ9_abs_0f7a4 0 = .ok (.iload_n 0, 1) := by decide +kernel
theorem dJ9_abs_0f7a4_1 : decode cJ9_abs_0f7a4 1 = .ok (.ifCond .ge 8, 3) := by decide +kernel
theorem dJ9_abs_0f7a4_4 : decode cJ9_abs_0f7a4 4 = .ok (.iload_n 0, 1) := by decide +kernel
theorem dJ9_abs_0f7a4_5 : decode cJ9_abs_0f7a4 5 = .ok (.ineg, 1) := by decide +kernel
theorem dJ9_abs_0f7a4_6 : decode cJ9_abs_0f7a4 6 = .ok (.goto 4, 3) := by decide +kernel
theorem dJ9_abs_0f7a4_9 : decode cJ9_abs_0f7a4 9 = .ok (.iload_n 0, 1) := by decide +kernel
theorem dJ9_abs_0f7a4_10 : decode cJ9_abs_0f7a4 10 = .ok (.ireturn, 1) := by decide +kernel
theorem dJ9_max_7cf53_0 : decode cJ9_max_7cf53 0 = .ok (.iload_n 0, 1) := by decide +kernel
theorem dJ9_max_7cf53_1 : decode cJ9_max_7cf53 1 = .ok (.iload_n 1, 1) := by decide +kernel
theorem dJ9_max_7cf53_2 : decode cJ9_max_7cf53 2 = .ok (.if_icmp .lt 7, 3) := by decide +kernel
theorem dJ9_max_7cf53_5 : decode cJ9_max_7cf53 5 = .ok (.iload_n 0, 1) := by decide +kernel
theorem dJ9_max_7cf53_6 : decode cJ9_max_7cf53 6 = .ok (.goto 4, 3) := by decide +kernel
theorem dJ9_max_7cf53_9 : decode cJ9_max_7cf53 9 = .ok (.iload_n 1, 1) := by decide +kernel
theorem dJ9_max_7cf53_10 : decode cJ9_max_7cf53 10 = .ok (.ireturn, 1) := by decide +kernel
theorem dJ9_min_7cf53_0 : decode cJ9_min_7cf53 0 = .ok (.iload_n 0, 1) := by decide +kernel
theorem dJ9_min_7cf53_1 : decode cJ9_min_7cf53 1 = .ok (.iload_n 1, 1) := by decide +kernel
theorem dJ9_min_7cf53_2 : decode cJ9_min_7cf53 2 = .ok (.if_icmp .gt 7, 3) := by decide +kernel
theorem dJ9_min_7cf53_5 : decode cJ9_min_7cf53 5 = .ok (.iload_n 0, 1) := by decide +kernel
theorem dJ9_min_7cf53_6 : decode cJ9_min_7cf53 6 = .ok (.goto 4, 3) := by decide +kernel
theorem dJ9_min_7cf53_9 : decode cJ9_min_7cf53 9 = .ok (.iload_n 1, 1) := by decide +kernel
theorem dJ9_min_7cf53_10 : decode cJ9_min_7cf53 10 = .ok (.ireturn, 1) := by decide +kernel
end
section
theorem dX11_init_0 : decode cX11_init 0 = .ok (.aload_n 0, 1) := by decide +kernel
theorem dX11_init_1 : decode cX11_init 1 = .ok (.invokespecial 1, 3) := by decide +kernel
theorem dX11_init_4 : decode cX11_init 4 = .ok (.new 7, 3) := by decide +kernel
theorem dX11_init_7 : decode cX11_init 7 = .ok (.dup, 1) := by decide +kernel
theorem dX11_init_8 : decode cX11_init 8 = .ok (.invokespecial 9, 3) := by decide +kernel
theorem dX11_init_11 : decode cX11_init 11 = .ok (.astore_n 1, 1) := by decide +kernel
theorem dX11_init_12 : decode cX11_init 12 = .ok (.new 10, 3) := by decide +kernel
theorem dX11_init_15 : decode cX11_init 15 = .ok (.dup, 1) := by decide +kernel
theorem dX11_init_16 : decode cX11_init 16 = .ok (.aload_n 1, 1) := by decide +kernel
theorem dX11_init_17 : decode cX11_init 17 = .ok (.invokespecial 12, 3) := by decide +kernel
theorem dX11_init_20 : decode cX11_init 20 = .ok (.astore_n 2, 1) := by decide +kernel
theorem dX11_init_21 : decode cX11_init 21 = .ok (.aload_n 0, 1) := by decide +kernel
theorem dX11_init_22 : decode cX11_init 22 = .ok (.new 15, 3) := by decide +kernel
theorem dX11_init_25 : decode cX11_init 25 = .ok (.dup, 1) := by decide +kernel
theorem dX11_init_26 : decode cX11_init 26 = .ok (.invokespecial 17, 3) := by decide +kernel
theorem dX11_init_29 : decode cX11_init 29 = .ok (.putfield 18, 3) := by decide +kernel
theorem dX11_init_32 : decode cX11_init 32 = .ok (.aload_n 0, 1) := by decide +kernel
theorem dX11_init_33 : decode cX11_init 33 = .ok (.aload_n 1, 1) := by decide +kernel
theorem dX11_init_34 : decode cX11_init 34 = .ok (.putfield 24, 3) := by decide +kernel
theorem dX11_init_37 : decode cX11_init 37 = .ok (.aload_n 0, 1) := by decide +kernel
theorem dX11_init_38 : decode cX11_init 38 = .ok (.new 10, 3) := by decide +kernel
theorem dX11_init_41 : decode cX11_init 41 = .ok (.dup, 1) := by decide +kernel
theorem dX11_init_42 : decode cX11_init 42 = .ok (.aload_n 1, 1) := by decide +kernel
theorem dX11_init_43 : decode cX11_init 43 = .ok (.invokespecial 12, 3) := by decide +kernel
theorem dX11_init_46 : decode cX11_init 46 = .ok (.putfield 28, 3) := by decide +kernel
theorem dX11_init_49 : decode cX11_init 49 = .ok (.aload_n 0, 1) := by decide +kernel
theorem dX11_init_50 : decode cX11_init 50 = .ok (.aload_n 2, 1) := by decide +kernel
theorem dX11_init_51 : decode cX11_init 51 = .ok (.putfield 32, 3) := by decide +kernel
theorem dX11_init_54 : decode cX11_init 54 = .ok (.aload_n 0, 1) := by decide +kernel
theorem dX11_init_55 : decode cX11_init 55 = .ok (.new 35, 3) := by decide +kernel
theorem dX11_init_58 : decode cX11_init 58 = .ok (.dup, 1) := by decide +kernel
theorem dX11_init_59 : decode cX11_init 59 = .ok (.invokespecial 37, 3) := by decide +kernel
theorem dX11_init_62 : decode cX11_init 62 = .ok (.putfield 38, 3) := by decide +kernel
theorem dX11_init_65 : decode cX11_init 65 = .ok (.aload_n 0, 1) := by decide +kernel
theorem dX11_init_66 : decode cX11_init 66 = .ok (.iconst 2, 1) := by decide +kernel
theorem dX11_init_67 : decode cX11_init 67 = .ok (.anewarray 42, 3) := by decide +kernel
theorem dX11_init_70 : decode cX11_init 70 = .ok (.putfield 44, 3) := by decide +kernel
theorem dX11_init_73 : decode cX11_init 73 = .ok (.iconst 0, 1) := by decide +kernel
theorem dX11_init_74 : decode cX11_init 74 = .ok (.istore_n 3, 1) := by decide +kernel
theorem dX11_init_75 : decode cX11_init 75 = .ok (.iload_n 3, 1) := by decide +kernel
theorem dX11_init_76 : decode cX11_init 76 = .ok (.iconst 2, 1) := by decide +kernel
theorem dX11_init_77 : decode cX11_init 77 = .ok (.if_icmp .ge 22, 3) := by decide +kernel
theorem dX11_init_80 : decode cX11_init 80 = .ok (.aload_n 0, 1) := by decide +kernel
theorem dX11_init_81 : decode cX11_init 81 = .ok (.getfield 44, 3) := by decide +kernel
theorem dX11_init_84 : decode cX11_init 84 = .ok (.iload_n 3, 1) := by decide +kernel
theorem dX11_init_85 : decode cX11_init 85 = .ok (.new 42, 3) := by decide +kernel
theorem dX11_init_88 : decode cX11_init 88 = .ok (.dup, 1) := by decide +kernel
theorem dX11_init_89 : decode cX11_init 89 = .ok (.invokespecial 48, 3) := by decide +kernel
theorem dX11_init_92 : decode cX11_init 92 = .ok (.aastore, 1) := by decide +kernel
theorem dX11_init_93 : decode cX11_init 93 = .ok (.iinc 3 1, 3) := by decide +kernel
theorem dX11_init_96 : decode cX11_init 96 = .ok (.goto (-21), 3) := by decide +kernel
theorem dX11_init_99 : decode cX11_init 99 = .ok (.aload_n 0, 1) := by decide +kernel
theorem dX11_init_100 : decode cX11_init 100 = .ok (.new 49, 3) := by decide +kernel
theorem dX11_init_103 : decode cX11_init 103 = .ok (.dup, 1) := by decide +kernel
theorem dX11_init_104 : decode cX11_init 104 = .ok (.aload_n 1, 1) := by decide +kernel
theorem dX11_init_105 : decode cX11_init 105 = .ok (.invokespecial 51, 3) := by decide +kernel
theorem dX11_init_108 : decode cX11_init 108 = .ok (.putfield 52, 3) := by decide +kernel
theorem dX11_init_111 : decode cX11_init 111 = .ok (.aload_n 0, 1) := by decide +kernel
theorem dX11_init_112 : decode cX11_init 112 = .ok (.new 56, 3) := by decide +kernel
theorem dX11_init_115 : decode cX11_init 115 = .ok (.dup, 1) := by decide +kernel
theorem dX11_init_116 : decode cX11_init 116 = .ok (.aload_n 2, 1) := by decide +kernel
theorem dX11_init_117 : decode cX11_init 117 = .ok (.invokespecial 58, 3) := by decide +kernel
theorem dX11_init_120 : decode cX11_init 120 = .ok (.putfield 61, 3) := by decide +kernel
theorem dX11_init_123 : decode cX11_init 123 = .ok (.aload_n 0, 1) := by decide +kernel
theorem dX11_init_124 : decode cX11_init 124 = .ok (.new 65, 3) := by decide +kernel
theorem dX11_init_127 : decode cX11_init 127 = .ok (.dup, 1) := by decide +kernel
theorem dX11_init_128 : decode cX11_init 128 = .ok (.aload_n 2, 1) := by decide +kernel
theorem dX11_init_129 : decode cX11_init 129 = .ok (.invokespecial 67, 3) := by decide +kernel
theorem dX11_init_132 : decode cX11_init 132 = .ok (.putfield 68, 3) := by decide +kernel
theorem dX11_init_135 : decode cX11_init 135 = .ok (.aload_n 0, 1) := by decide +kernel
theorem dX11_init_136 : decode cX11_init 136 = .ok (.new 72, 3) := by decide +kernel
theorem dX11_init_139 : decode cX11_init 139 = .ok (.dup, 1) := by decide +kernel
theorem dX11_init_140 : decode cX11_init 140 = .ok (.aload_n 2, 1) := by decide +kernel
theorem dX11_init_141 : decode cX11_init 141 = .ok (.invokespecial 74, 3) := by decide +kernel
theorem dX11_init_144 : decode cX11_init 144 = .ok (.putfield 75, 3) := by decide +kernel
theorem dX11_init_147 : decode cX11_init 147 = .ok (.aload_n 0, 1) := by decide +kernel
theorem dX11_init_148 : decode cX11_init 148 = .ok (.new 79, 3) := by decide +kernel
theorem dX11_init_151 : decode cX11_init 151 = .ok (.dup, 1) := by decide +kernel
theorem dX11_init_152 : decode cX11_init 152 = .ok (.invokespecial 81, 3) := by decide +kernel
theorem dX11_init_155 : decode cX11_init 155 = .ok (.putfield 82, 3) := by decide +kernel
theorem dX11_init_158 : decode cX11_init 158 = .ok (.aload_n 0, 1) := by decide +kernel
theorem dX11_init_159 : decode cX11_init 159 = .ok (.new 86, 3) := by decide +kernel
theorem dX11_init_162 : decode cX11_init 162 = .ok (.dup, 1) := by decide +kernel
theorem dX11_init_163 : decode cX11_init 163 = .ok (.invokespecial 88, 3) := by decide +kernel
theorem dX11_init_166 : decode cX11_init 166 = .ok (.putfield 89, 3) := by decide +kernel
theorem dX11_init_169 : decode cX11_init 169 = .ok (.aload_n 0, 1) := by decide +kernel
theorem dX11_init_170 : decode cX11_init 170 = .ok (.iconst 0, 1) := by decide +kernel
theorem dX11_init_171 : decode cX11_init 171 = .ok (.putfield 93, 3) := by decide +kernel
theorem dX11_init_174 : decode cX11_init 174 = .ok (.return_, 1) := by decide +kernel
theorem dX11_feed_0 : decode cX11_feed 0 = .ok (.iload_n 1, 1) := by decide +kernel
theorem dX11_feed_1 : decode cX11_feed 1 = .ok (.ifCond .lt 10, 3) := by decide +kernel
theorem dX11_feed_4 : decode cX11_feed 4 = .ok (.iload_n 1, 1) := by decide +kernel
theorem dX11_feed_5 : decode cX11_feed 5 = .ok (.sipush 255, 3) := by decide +kernel
theorem dX11_feed_8 : decode cX11_feed 8 = .ok (.if_icmp .le 6, 3) := by decide +kernel
theorem dX11_feed_11 : decode cX11_feed 11 = .ok (.ldc 97, 2) := by decide +kernel
theorem dX11_feed_13 : decode cX11_feed 13 = .ok (.ireturn, 1) := by decide +kernel
theorem dX11_feed_14 : decode cX11_feed 14 = .ok (.aload_n 0, 1) := by decide +kernel
theorem dX11_feed_15 : decode cX11_feed 15 = .ok (.getfield 18, 3) := by decide +kernel
theorem dX11_feed_18 : decode cX11_feed 18 = .ok (.iload_n 1, 1) := by decide +kernel
theorem dX11_feed_19 : decode cX11_feed 19 = .ok (.invokevirtual 98, 3) := by decide +kernel
theorem dX11_feed_22 : decode cX11_feed 22 = .ok (.ifCond .eq 13, 3) := by decide +kernel
theorem dX11_feed_25 : decode cX11_feed 25 = .ok (.aload_n 0, 1) := by decide +kernel
theorem dX11_feed_26 : decode cX11_feed 26 = .ok (.getfield 18, 3) := by decide +kernel
theorem dX11_feed_29 : decode cX11_feed 29 = .ok (.getfield 102, 3) := by decide +kernel
theorem dX11_feed_32 : decode cX11_feed 32 = .ok (.goto 5, 3) := by decide +kernel
theorem dX11_feed_35 : decode cX11_feed 35 = .ok (.ldc 105, 2) := by decide +kernel
theorem dX11_feed_37 : decode cX11_feed 37 = .ok (.ireturn, 1) := by decide +kernel
theorem dX11_bed_0 : decode cX11_bed 0 = .ok (.aload_n 0, 1) := by decide +kernel
theorem dX11_bed_1 : decode cX11_bed 1 = .ok (.getfield 18, 3) := by decide +kernel
theorem dX11_bed_4 : decode cX11_bed 4 = .ok (.invokevirtual 106, 3) := by decide +kernel
theorem dX11_bed_7 : decode cX11_bed 7 = .ok (.istore_n 1, 1) := by decide +kernel
theorem dX11_bed_8 : decode cX11_bed 8 = .ok (.iload_n 1, 1) := by decide +kernel
theorem dX11_bed_9 : decode cX11_bed 9 = .ok (.ifCond .eq 8, 3) := by decide +kernel
theorem dX11_bed_12 : decode cX11_bed 12 = .ok (.bipush (-10), 2) := by decide +kernel
theorem dX11_bed_14 : decode cX11_bed 14 = .ok (.iload_n 1, 1) := by decide +kernel
theorem dX11_bed_15 : decode cX11_bed 15 = .ok (.isub, 1) := by decide +kernel
theorem dX11_bed_16 : decode cX11_bed 16 = .ok (.ireturn, 1) := by decide +kernel
theorem dX11_bed_17 : decode cX11_bed 17 = .ok (.aload_n 0, 1) := by decide +kernel
theorem dX11_bed_18 : decode cX11_bed 18 = .ok (.getfield 24, 3) := by decide +kernel
theorem dX11_bed_21 : decode cX11_bed 21 = .ok (.aload_n 0, 1) := by decide +kernel
theorem dX11_bed_22 : decode cX11_bed 22 = .ok (.getfield 18, 3) := by decide +kernel
theorem dX11_bed_25 : decode cX11_bed 25 = .ok (.getfield 110, 3) := by decide +kernel
theorem dX11_bed_28 : decode cX11_bed 28 = .ok (.invokevirtual 113, 3) := by decide +kernel
theorem dX11_bed_31 : decode cX11_bed 31 = .ok (.aload_n 0, 1) := by decide +kernel
theorem dX11_bed_32 : decode cX11_bed 32 = .ok (.getfield 28, 3) := by decide +kernel
theorem dX11_bed_35 : decode cX11_bed 35 = .ok (.invokevirtual 116, 3) := by decide +kernel
theorem dX11_bed_38 : decode cX11_bed 38 = .ok (.aload_n 0, 1) := by decide +kernel
theorem dX11_bed_39 : decode cX11_bed 39 = .ok (.getfield 82, 3) := by decide +kernel
theorem dX11_bed_42 : decode cX11_bed 42 = .ok (.invokevirtual 119, 3) := by decide +kernel
theorem dX11_bed_45 : decode cX11_bed 45 = .ok (.aload_n 0, 1) := by decide +kernel
theorem dX11_bed_46 : decode cX11_bed 46 = .ok (.getfield 89, 3) := by decide +kernel
theorem dX11_bed_49 : decode cX11_bed 49 = .ok (.invokevirtual 122, 3) := by decide +kernel
theorem dX11_bed_52 : decode cX11_bed 52 = .ok (.aload_n 0, 1) := by decide +kernel
theorem dX11_bed_53 : decode cX11_bed 53 = .ok (.getfield 38, 3) := by decide +kernel
theorem dX11_bed_56 : decode cX11_bed 56 = .ok (.invokevirtual 123, 3) := by decide +kernel
theorem dX11_bed_59 : decode cX11_bed 59 = .ok (.iconst 0, 1) := by decide +kernel
theorem dX11_bed_60 : decode cX11_bed 60 = .ok (.istore_n 2, 1) := by decide +kernel
theorem dX11_bed_61 : decode cX11_bed 61 = .ok (.iload_n 2, 1) := by decide +kernel
theorem dX11_bed_62 : decode cX11_bed 62 = .ok (.iconst 2, 1) := by decide +kernel
theorem dX11_bed_63 : decode cX11_bed 63 = .ok (.if_icmp .ge 19, 3) := by decide +kernel
theorem dX11_bed_66 : decode cX11_bed 66 = .ok (.aload_n 0, 1) := by decide +kernel
theorem dX11_bed_67 : decode cX11_bed 67 = .ok (.getfield 44, 3) := by decide +kernel
theorem dX11_bed_70 : decode cX11_bed 70 = .ok (.iload_n 2, 1) := by decide +kernel
theorem dX11_bed_71 : decode cX11_bed 71 = .ok (.aaload, 1) := by decide +kernel
theorem dX11_bed_72 : decode cX11_bed 72 = .ok (.iconst 0, 1) := by decide +kernel
theorem dX11_bed_73 : decode cX11_bed 73 = .ok (.putfield 126, 3) := by decide +kernel
theorem dX11_bed_76 : decode cX11_bed 76 = .ok (.iinc 2 1, 3) := by decide +kernel
theorem dX11_bed_79 : decode cX11_bed 79 = .ok (.goto (-18), 3) := by decide +kernel
theorem dX11_bed_82 : decode cX11_bed 82 = .ok (.aload_n 0, 1) := by decide +kernel
theorem dX11_bed_83 : decode cX11_bed 83 = .ok (.getfield 24, 3) := by decide +kernel
theorem dX11_bed_86 : decode cX11_bed 86 = .ok (.getfield 130, 3) := by decide +kernel
theorem dX11_bed_89 : decode cX11_bed 89 = .ok (.ireturn, 1) := by decide +kernel
theorem dX11_fault_0 : decode cX11_fault 0 = .ok (.aload_n 0, 1) := by decide +kernel
theorem dX11_fault_1 : decode cX11_fault 1 = .ok (.getfield 18, 3) := by decide +kernel
theorem dX11_fault_4 : decode cX11_fault 4 = .ok (.getfield 133, 3) := by decide +kernel
theorem dX11_fault_7 : decode cX11_fault 7 = .ok (.ireturn, 1) := by decide +kernel
theorem dX11_told_0 : decode cX11_told 0 = .ok (.iload_n 1, 1) := by decide +kernel
theorem dX11_told_1 : decode cX11_told 1 = .ok (.tableswitch 167 0 11 #[63, 71, 87, 95, 103, 111, 119, 127, 135, 143, 151, 159], 63) := by decide +kernel
theorem dX11_told_64 : decode cX11_told 64 = .ok (.aload_n 0, 1) := by decide +kernel
theorem dX11_told_65 : decode cX11_told 65 = .ok (.getfield 24, 3) := by decide +kernel
theorem dX11_told_68 : decode cX11_told 68 = .ok (.getfield 136, 3) := by decide +kernel
theorem dX11_told_71 : decode cX11_told 71 = .ok (.ireturn, 1) := by decide +kernel
theorem dX11_told_72 : decode cX11_told 72 = .ok (.aload_n 0, 1) := by decide +kernel
theorem dX11_told_73 : decode cX11_told 73 = .ok (.getfield 24, 3) := by decide +kernel
theorem dX11_told_76 : decode cX11_told 76 = .ok (.getfield 139, 3) := by decide +kernel
theorem dX11_told_79 : decode cX11_told 79 = .ok (.ifCond .eq 7, 3) := by decide +kernel
theorem dX11_told_82 : decode cX11_told 82 = .ok (.iconst 1, 1) := by decide +kernel
theorem dX11_told_83 : decode cX11_told 83 = .ok (.goto 4, 3) := by decide +kernel
theorem dX11_told_86 : decode cX11_told 86 = .ok (.iconst 0, 1) := by decide +kernel
theorem dX11_told_87 : decode cX11_told 87 = .ok (.ireturn, 1) := by decide +kernel
theorem dX11_told_88 : decode cX11_told 88 = .ok (.aload_n 0, 1) := by decide +kernel
theorem dX11_told_89 : decode cX11_told 89 = .ok (.getfield 24, 3) := by decide +kernel
theorem dX11_told_92 : decode cX11_told 92 = .ok (.getfield 130, 3) := by decide +kernel
theorem dX11_told_95 : decode cX11_told 95 = .ok (.ireturn, 1) := by decide +kernel
theorem dX11_told_96 : decode cX11_told 96 = .ok (.aload_n 0, 1) := by decide +kernel
theorem dX11_told_97 : decode cX11_told 97 = .ok (.getfield 24, 3) := by decide +kernel
theorem dX11_told_100 : decode cX11_told 100 = .ok (.getfield 142, 3) := by decide +kernel
theorem dX11_told_103 : decode cX11_told 103 = .ok (.ireturn, 1) := by decide +kernel
theorem dX11_told_104 : decode cX11_told 104 = .ok (.aload_n 0, 1) := by decide +kernel
theorem dX11_told_105 : decode cX11_told 105 = .ok (.getfield 18, 3) := by decide +kernel
theorem dX11_told_108 : decode cX11_told 108 = .ok (.getfield 102, 3) := by decide +kernel
theorem dX11_told_111 : decode cX11_told 111 = .ok (.ireturn, 1) := by decide +kernel
theorem dX11_told_112 : decode cX11_told 112 = .ok (.aload_n 0, 1) := by decide +kernel
theorem dX11_told_113 : decode cX11_told 113 = .ok (.getfield 28, 3) := by decide +kernel
theorem dX11_told_116 : decode cX11_told 116 = .ok (.getfield 145, 3) := by decide +kernel
theorem dX11_told_119 : decode cX11_told 119 = .ok (.ireturn, 1) := by decide +kernel
theorem dX11_told_120 : decode cX11_told 120 = .ok (.aload_n 0, 1) := by decide +kernel
theorem dX11_told_121 : decode cX11_told 121 = .ok (.getfield 28, 3) := by decide +kernel
theorem dX11_told_124 : decode cX11_told 124 = .ok (.invokevirtual 148, 3) := by decide +kernel
theorem dX11_told_127 : decode cX11_told 127 = .ok (.ireturn, 1) := by decide +kernel
theorem dX11_told_128 : decode cX11_told 128 = .ok (.aload_n 0, 1) := by decide +kernel
theorem dX11_told_129 : decode cX11_told 129 = .ok (.getfield 28, 3) := by decide +kernel
theorem dX11_told_132 : decode cX11_told 132 = .ok (.invokevirtual 151, 3) := by decide +kernel
theorem dX11_told_135 : decode cX11_told 135 = .ok (.ireturn, 1) := by decide +kernel
theorem dX11_told_136 : decode cX11_told 136 = .ok (.aload_n 0, 1) := by decide +kernel
theorem dX11_told_137 : decode cX11_told 137 = .ok (.getfield 28, 3) := by decide +kernel
theorem dX11_told_140 : decode cX11_told 140 = .ok (.invokevirtual 154, 3) := by decide +kernel
theorem dX11_told_143 : decode cX11_told 143 = .ok (.ireturn, 1) := by decide +kernel
theorem dX11_told_144 : decode cX11_told 144 = .ok (.aload_n 0, 1) := by decide +kernel
theorem dX11_told_145 : decode cX11_told 145 = .ok (.getfield 82, 3) := by decide +kernel
theorem dX11_told_148 : decode cX11_told 148 = .ok (.getfield 157, 3) := by decide +kernel
theorem dX11_told_151 : decode cX11_told 151 = .ok (.ireturn, 1) := by decide +kernel
theorem dX11_told_152 : decode cX11_told 152 = .ok (.aload_n 0, 1) := by decide +kernel
theorem dX11_told_153 : decode cX11_told 153 = .ok (.getfield 89, 3) := by decide +kernel
theorem dX11_told_156 : decode cX11_told 156 = .ok (.getfield 160, 3) := by decide +kernel
theorem dX11_told_159 : decode cX11_told 159 = .ok (.ireturn, 1) := by decide +kernel
theorem dX11_told_160 : decode cX11_told 160 = .ok (.aload_n 0, 1) := by decide +kernel
theorem dX11_told_161 : decode cX11_told 161 = .ok (.getfield 38, 3) := by decide +kernel
theorem dX11_told_164 : decode cX11_told 164 = .ok (.getfield 161, 3) := by decide +kernel
theorem dX11_told_167 : decode cX11_told 167 = .ok (.ireturn, 1) := by decide +kernel
theorem dX11_told_168 : decode cX11_told 168 = .ok (.ldc 97, 2) := by decide +kernel
theorem dX11_told_170 : decode cX11_told 170 = .ok (.ireturn, 1) := by decide +kernel
theorem dX11_place_0 : decode cX11_place 0 = .ok (.aload_n 0, 1) := by decide +kernel
theorem dX11_place_1 : decode cX11_place 1 = .ok (.getfield 24, 3) := by decide +kernel
theorem dX11_place_4 : decode cX11_place 4 = .ok (.iload_n 1, 1) := by decide +kernel
theorem dX11_place_5 : decode cX11_place 5 = .ok (.invokevirtual 162, 3) := by decide +kernel
theorem dX11_place_8 : decode cX11_place 8 = .ok (.ifCond .ne 6, 3) := by decide +kernel
theorem dX11_place_11 : decode cX11_place 11 = .ok (.ldc 165, 2) := by decide +kernel
theorem dX11_place_13 : decode cX11_place 13 = .ok (.ireturn, 1) := by decide +kernel
theorem dX11_place_14 : decode cX11_place 14 = .ok (.iload_n 2, 1) := by decide +kernel
theorem dX11_place_15 : decode cX11_place 15 = .ok (.lookupswitch 45 #[(0, 25), (1, 35)], 25) := by decide +kernel
theorem dX11_place_40 : decode cX11_place 40 = .ok (.aload_n 0, 1) := by decide +kernel
theorem dX11_place_41 : decode cX11_place 41 = .ok (.getfield 24, 3) := by decide +kernel
theorem dX11_place_44 : decode cX11_place 44 = .ok (.getfield 166, 3) := by decide +kernel
theorem dX11_place_47 : decode cX11_place 47 = .ok (.iload_n 1, 1) := by decide +kernel
theorem dX11_place_48 : decode cX11_place 48 = .ok (.iaload, 1) := by decide +kernel
theorem dX11_place_49 : decode cX11_place 49 = .ok (.ireturn, 1) := by decide +kernel
theorem dX11_place_50 : decode cX11_place 50 = .ok (.aload_n 0, 1) := by decide +kernel
theorem dX11_place_51 : decode cX11_place 51 = .ok (.getfield 28, 3) := by decide +kernel
theorem dX11_place_54 : decode cX11_place 54 = .ok (.getfield 170, 3) := by decide +kernel
theorem dX11_place_57 : decode cX11_place 57 = .ok (.iload_n 1, 1) := by decide +kernel
theorem dX11_place_58 : decode cX11_place 58 = .ok (.iaload, 1) := by decide +kernel
theorem dX11_place_59 : decode cX11_place 59 = .ok (.ireturn, 1) := by decide +kernel
theorem dX11_place_60 : decode cX11_place 60 = .ok (.ldc 97, 2) := by decide +kernel
theorem dX11_place_62 : decode cX11_place 62 = .ok (.ireturn, 1) := by decide +kernel
theorem dX11_sleeper_0 : decode cX11_sleeper 0 = .ok (.aload_n 0, 1) := by decide +kernel
theorem dX11_sleeper_1 : decode cX11_sleeper 1 = .ok (.getfield 24, 3) := by decide +kernel
theorem dX11_sleeper_4 : decode cX11_sleeper 4 = .ok (.iload_n 1, 1) := by decide +kernel
theorem dX11_sleeper_5 : decode cX11_sleeper 5 = .ok (.invokevirtual 173, 3) := by decide +kernel
theorem dX11_sleeper_8 : decode cX11_sleeper 8 = .ok (.ifCond .ne 6, 3) := by decide +kernel
theorem dX11_sleeper_11 : decode cX11_sleeper 11 = .ok (.ldc 165, 2) := by decide +kernel
theorem dX11_sleeper_13 : decode cX11_sleeper 13 = .ok (.ireturn, 1) := by decide +kernel
theorem dX11_sleeper_14 : decode cX11_sleeper 14 = .ok (.iload_n 2, 1) := by decide +kernel
theorem dX11_sleeper_15 : decode cX11_sleeper 15 = .ok (.tableswitch 82 0 4 #[33, 43, 53, 63, 73], 33) := by decide +kernel
theorem dX11_sleeper_48 : decode cX11_sleeper 48 = .ok (.aload_n 0, 1) := by decide +kernel
theorem dX11_sleeper_49 : decode cX11_sleeper 49 = .ok (.getfield 28, 3) := by decide +kernel
theorem dX11_sleeper_52 : decode cX11_sleeper 52 = .ok (.getfield 176, 3) := by decide +kernel
theorem dX11_sleeper_55 : decode cX11_sleeper 55 = .ok (.iload_n 1, 1) := by decide +kernel
theorem dX11_sleeper_56 : decode cX11_sleeper 56 = .ok (.iaload, 1) := by decide +kernel
theorem dX11_sleeper_57 : decode cX11_sleeper 57 = .ok (.ireturn, 1) := by decide +kernel
theorem dX11_sleeper_58 : decode cX11_sleeper 58 = .ok (.aload_n 0, 1) := by decide +kernel
theorem dX11_sleeper_59 : decode cX11_sleeper 59 = .ok (.getfield 24, 3) := by decide +kernel
theorem dX11_sleeper_62 : decode cX11_sleeper 62 = .ok (.getfield 179, 3) := by decide +kernel
theorem dX11_sleeper_65 : decode cX11_sleeper 65 = .ok (.iload_n 1, 1) := by decide +kernel
theorem dX11_sleeper_66 : decode cX11_sleeper 66 = .ok (.iaload, 1) := by decide +kernel
theorem dX11_sleeper_67 : decode cX11_sleeper 67 = .ok (.ireturn, 1) := by decide +kernel
theorem dX11_sleeper_68 : decode cX11_sleeper 68 = .ok (.aload_n 0, 1) := by decide +kernel
theorem dX11_sleeper_69 : decode cX11_sleeper 69 = .ok (.getfield 24, 3) := by decide +kernel
theorem dX11_sleeper_72 : decode cX11_sleeper 72 = .ok (.getfield 182, 3) := by decide +kernel
theorem dX11_sleeper_75 : decode cX11_sleeper 75 = .ok (.iload_n 1, 1) := by decide +kernel
theorem dX11_sleeper_76 : decode cX11_sleeper 76 = .ok (.iaload, 1) := by decide +kernel
theorem dX11_sleeper_77 : decode cX11_sleeper 77 = .ok (.ireturn, 1) := by decide +kernel
theorem dX11_sleeper_78 : decode cX11_sleeper 78 = .ok (.aload_n 0, 1) := by decide +kernel
theorem dX11_sleeper_79 : decode cX11_sleeper 79 = .ok (.getfield 24, 3) := by decide +kernel
theorem dX11_sleeper_82 : decode cX11_sleeper 82 = .ok (.getfield 185, 3) := by decide +kernel
theorem dX11_sleeper_85 : decode cX11_sleeper 85 = .ok (.iload_n 1, 1) := by decide +kernel
theorem dX11_sleeper_86 : decode cX11_sleeper 86 = .ok (.iaload, 1) := by decide +kernel
theorem dX11_sleeper_87 : decode cX11_sleeper 87 = .ok (.ireturn, 1) := by decide +kernel
theorem dX11_sleeper_88 : decode cX11_sleeper 88 = .ok (.aload_n 0, 1) := by decide +kernel
theorem dX11_sleeper_89 : decode cX11_sleeper 89 = .ok (.getfield 28, 3) := by decide +kernel
theorem dX11_sleeper_92 : decode cX11_sleeper 92 = .ok (.iload_n 1, 1) := by decide +kernel
theorem dX11_sleeper_93 : decode cX11_sleeper 93 = .ok (.invokevirtual 188, 3) := by decide +kernel
theorem dX11_sleeper_96 : decode cX11_sleeper 96 = .ok (.ireturn, 1) := by decide +kernel
theorem dX11_sleeper_97 : decode cX11_sleeper 97 = .ok (.ldc 97, 2) := by decide +kernel
theorem dX11_sleeper_99 : decode cX11_sleeper 99 = .ok (.ireturn, 1) := by decide +kernel
theorem dX11_rule_0 : decode cX11_rule 0 = .ok (.iload_n 1, 1) := by decide +kernel
theorem dX11_rule_1 : decode cX11_rule 1 = .ok (.ifCond .lt 14, 3) := by decide +kernel
theorem dX11_rule_4 : decode cX11_rule 4 = .ok (.iload_n 1, 1) := by decide +kernel
theorem dX11_rule_5 : decode cX11_rule 5 = .ok (.aload_n 0, 1) := by decide +kernel
theorem dX11_rule_6 : decode cX11_rule 6 = .ok (.getfield 24, 3) := by decide +kernel
theorem dX11_rule_9 : decode cX11_rule 9 = .ok (.getfield 142, 3) := by decide +kernel
theorem dX11_rule_12 : decode cX11_rule 12 = .ok (.if_icmp .lt 7, 3) := by decide +kernel
theorem dX11_rule_15 : decode cX11_rule 15 = .ok (.iconst (-1), 1) := by decide +kernel
theorem dX11_rule_16 : decode cX11_rule 16 = .ok (.goto 12, 3) := by decide +kernel
theorem dX11_rule_19 : decode cX11_rule 19 = .ok (.aload_n 0, 1) := by decide +kernel
theorem dX11_rule_20 : decode cX11_rule 20 = .ok (.getfield 24, 3) := by decide +kernel
theorem dX11_rule_23 : decode cX11_rule 23 = .ok (.getfield 192, 3) := by decide +kernel
theorem dX11_rule_26 : decode cX11_rule 26 = .ok (.iload_n 1, 1) := by decide +kernel
theorem dX11_rule_27 : decode cX11_rule 27 = .ok (.iaload, 1) := by decide +kernel
theorem dX11_rule_28 : decode cX11_rule 28 = .ok (.ireturn, 1) := by decide +kernel
theorem dX11_hour_0 : decode cX11_hour 0 = .ok (.iload_n 1, 1) := by decide +kernel
theorem dX11_hour_1 : decode cX11_hour 1 = .ok (.invokestatic 195, 3) := by decide +kernel
theorem dX11_hour_4 : decode cX11_hour 4 = .ok (.ifCond .ne 6, 3) := by decide +kernel
theorem dX11_hour_7 : decode cX11_hour 7 = .ok (.ldc 165, 2) := by decide +kernel
theorem dX11_hour_9 : decode cX11_hour 9 = .ok (.ireturn, 1) := by decide +kernel
theorem dX11_hour_10 : decode cX11_hour 10 = .ok (.aload_n 0, 1) := by decide +kernel
theorem dX11_hour_11 : decode cX11_hour 11 = .ok (.invokevirtual 198, 3) := by decide +kernel
theorem dX11_hour_14 : decode cX11_hour 14 = .ok (.istore_n 2, 1) := by decide +kernel
theorem dX11_hour_15 : decode cX11_hour 15 = .ok (.iload_n 2, 1) := by decide +kernel
theorem dX11_hour_16 : decode cX11_hour 16 = .ok (.ifCond .eq 5, 3) := by decide +kernel
theorem dX11_hour_19 : decode cX11_hour 19 = .ok (.iload_n 2, 1) := by decide +kernel
theorem dX11_hour_20 : decode cX11_hour 20 = .ok (.ireturn, 1) := by decide +kernel
theorem dX11_hour_21 : decode cX11_hour 21 = .ok (.aload_n 0, 1) := by decide +kernel
theorem dX11_hour_22 : decode cX11_hour 22 = .ok (.iload_n 1, 1) := by decide +kernel
theorem dX11_hour_23 : decode cX11_hour 23 = .ok (.invokevirtual 201, 3) := by decide +kernel
theorem dX11_hour_26 : decode cX11_hour 26 = .ok (.aload_n 0, 1) := by decide +kernel
theorem dX11_hour_27 : decode cX11_hour 27 = .ok (.getfield 28, 3) := by decide +kernel
theorem dX11_hour_30 : decode cX11_hour 30 = .ok (.invokevirtual 154, 3) := by decide +kernel
theorem dX11_hour_33 : decode cX11_hour 33 = .ok (.ireturn, 1) := by decide +kernel
theorem dX11_night_0 : decode cX11_night 0 = .ok (.iload_n 1, 1) := by decide +kernel
theorem dX11_night_1 : decode cX11_night 1 = .ok (.iconst 1, 1) := by decide +kernel
theorem dX11_night_2 : decode cX11_night 2 = .ok (.if_icmp .lt 9, 3) := by decide +kernel
theorem dX11_night_5 : decode cX11_night 5 = .ok (.iload_n 1, 1) := by decide +kernel
theorem dX11_night_6 : decode cX11_night 6 = .ok (.bipush 99, 2) := by decide +kernel
theorem dX11_night_8 : decode cX11_night 8 = .ok (.if_icmp .le 6, 3) := by decide +kernel
theorem dX11_night_11 : decode cX11_night 11 = .ok (.ldc 97, 2) := by decide +kernel
theorem dX11_night_13 : decode cX11_night 13 = .ok (.ireturn, 1) := by decide +kernel
theorem dX11_night_14 : decode cX11_night 14 = .ok (.aload_n 0, 1) := by decide +kernel
theorem dX11_night_15 : decode cX11_night 15 = .ok (.invokevirtual 198, 3) := by decide +kernel
theorem dX11_night_18 : decode cX11_night 18 = .ok (.istore_n 2, 1) := by decide +kernel
theorem dX11_night_19 : decode cX11_night 19 = .ok (.iload_n 2, 1) := by decide +kernel
theorem dX11_night_20 : decode cX11_night 20 = .ok (.ifCond .eq 5, 3) := by decide +kernel
theorem dX11_night_23 : decode cX11_night 23 = .ok (.iload_n 2, 1) := by decide +kernel
theorem dX11_night_24 : decode cX11_night 24 = .ok (.ireturn, 1) := by decide +kernel
theorem dX11_night_25 : decode cX11_night 25 = .ok (.iconst 0, 1) := by decide +kernel
theorem dX11_night_26 : decode cX11_night 26 = .ok (.istore_n 3, 1) := by decide +kernel
theorem dX11_night_27 : decode cX11_night 27 = .ok (.iload_n 3, 1) := by decide +kernel
theorem dX11_night_28 : decode cX11_night 28 = .ok (.iload_n 1, 1) := by decide +kernel
theorem dX11_night_29 : decode cX11_night 29 = .ok (.if_icmp .ge 27, 3) := by decide +kernel
theorem dX11_night_32 : decode cX11_night 32 = .ok (.aload_n 0, 1) := by decide +kernel
theorem dX11_night_33 : decode cX11_night 33 = .ok (.aload_n 0, 1) := by decide +kernel
theorem dX11_night_34 : decode cX11_night 34 = .ok (.getfield 24, 3) := by decide +kernel
theorem dX11_night_37 : decode cX11_night 37 = .ok (.aload_n 0, 1) := by decide +kernel
theorem dX11_night_38 : decode cX11_night 38 = .ok (.getfield 28, 3) := by decide +kernel
theorem dX11_night_41 : decode cX11_night 41 = .ok (.getfield 145, 3) := by decide +kernel
theorem dX11_night_44 : decode cX11_night 44 = .ok (.invokevirtual 205, 3) := by decide +kernel
theorem dX11_night_47 : decode cX11_night 47 = .ok (.invokevirtual 201, 3) := by decide +kernel
theorem dX11_night_50 : decode cX11_night 50 = .ok (.iinc 3 1, 3) := by decide +kernel
theorem dX11_night_53 : decode cX11_night 53 = .ok (.goto (-26), 3) := by decide +kernel
theorem dX11_night_56 : decode cX11_night 56 = .ok (.aload_n 0, 1) := by decide +kernel
theorem dX11_night_57 : decode cX11_night 57 = .ok (.getfield 28, 3) := by decide +kernel
theorem dX11_night_60 : decode cX11_night 60 = .ok (.invokevirtual 154, 3) := by decide +kernel
theorem dX11_night_63 : decode cX11_night 63 = .ok (.ireturn, 1) := by decide +kernel
theorem dX11_getUp_0 : decode cX11_getUp 0 = .ok (.aload_n 0, 1) := by decide +kernel
theorem dX11_getUp_1 : decode cX11_getUp 1 = .ok (.getfield 24, 3) := by decide +kernel
theorem dX11_getUp_4 : decode cX11_getUp 4 = .ok (.iload_n 1, 1) := by decide +kernel
theorem dX11_getUp_5 : decode cX11_getUp 5 = .ok (.invokevirtual 173, 3) := by decide +kernel
theorem dX11_getUp_8 : decode cX11_getUp 8 = .ok (.ifCond .ne 6, 3) := by decide +kernel
theorem dX11_getUp_11 : decode cX11_getUp 11 = .ok (.ldc 165, 2) := by decide +kernel
theorem dX11_getUp_13 : decode cX11_getUp 13 = .ok (.ireturn, 1) := by decide +kernel
theorem dX11_getUp_14 : decode cX11_getUp 14 = .ok (.aload_n 0, 1) := by decide +kernel
theorem dX11_getUp_15 : decode cX11_getUp 15 = .ok (.getfield 28, 3) := by decide +kernel
theorem dX11_getUp_18 : decode cX11_getUp 18 = .ok (.iload_n 1, 1) := by decide +kernel
theorem dX11_getUp_19 : decode cX11_getUp 19 = .ok (.invokevirtual 188, 3) := by decide +kernel
theorem dX11_getUp_22 : decode cX11_getUp 22 = .ok (.istore_n 2, 1) := by decide +kernel
theorem dX11_getUp_23 : decode cX11_getUp 23 = .ok (.iload_n 2, 1) := by decide +kernel
theorem dX11_getUp_24 : decode cX11_getUp 24 = .ok (.iconst (-1), 1) := by decide +kernel
theorem dX11_getUp_25 : decode cX11_getUp 25 = .ok (.if_icmp .ne 6, 3) := by decide +kernel
theorem dX11_getUp_28 : decode cX11_getUp 28 = .ok (.ldc 208, 2) := by decide +kernel
theorem dX11_getUp_30 : decode cX11_getUp 30 = .ok (.ireturn, 1) := by decide +kernel
theorem dX11_getUp_31 : decode cX11_getUp 31 = .ok (.aload_n 0, 1) := by decide +kernel
theorem dX11_getUp_32 : decode cX11_getUp 32 = .ok (.getfield 38, 3) := by decide +kernel
theorem dX11_getUp_35 : decode cX11_getUp 35 = .ok (.aload_n 0, 1) := by decide +kernel
theorem dX11_getUp_36 : decode cX11_getUp 36 = .ok (.getfield 28, 3) := by decide +kernel
theorem dX11_getUp_39 : decode cX11_getUp 39 = .ok (.invokevirtual 209, 3) := by decide +kernel
theorem dX11_getUp_42 : decode cX11_getUp 42 = .ok (.aload_n 0, 1) := by decide +kernel
theorem dX11_getUp_43 : decode cX11_getUp 43 = .ok (.getfield 28, 3) := by decide +kernel
theorem dX11_getUp_46 : decode cX11_getUp 46 = .ok (.iload_n 2, 1) := by decide +kernel
theorem dX11_getUp_47 : decode cX11_getUp 47 = .ok (.invokevirtual 212, 3) := by decide +kernel
theorem dX11_getUp_50 : decode cX11_getUp 50 = .ok (.iload_n 2, 1) := by decide +kernel
theorem dX11_getUp_51 : decode cX11_getUp 51 = .ok (.ireturn, 1) := by decide +kernel
theorem dX11_comeIn_0 : decode cX11_comeIn 0 = .ok (.aload_n 0, 1) := by decide +kernel
theorem dX11_comeIn_1 : decode cX11_comeIn 1 = .ok (.getfield 24, 3) := by decide +kernel
theorem dX11_comeIn_4 : decode cX11_comeIn 4 = .ok (.iload_n 1, 1) := by decide +kernel
theorem dX11_comeIn_5 : decode cX11_comeIn 5 = .ok (.invokevirtual 173, 3) := by decide +kernel
theorem dX11_comeIn_8 : decode cX11_comeIn 8 = .ok (.ifCond .ne 6, 3) := by decide +kernel
theorem dX11_comeIn_11 : decode cX11_comeIn 11 = .ok (.ldc 165, 2) := by decide +kernel
theorem dX11_comeIn_13 : decode cX11_comeIn 13 = .ok (.ireturn, 1) := by decide +kernel
theorem dX11_comeIn_14 : decode cX11_comeIn 14 = .ok (.aload_n 0, 1) := by decide +kernel
theorem dX11_comeIn_15 : decode cX11_comeIn 15 = .ok (.getfield 28, 3) := by decide +kernel
theorem dX11_comeIn_18 : decode cX11_comeIn 18 = .ok (.invokevirtual 215, 3) := by decide +kernel
theorem dX11_comeIn_21 : decode cX11_comeIn 21 = .ok (.istore_n 2, 1) := by decide +kernel
theorem dX11_comeIn_22 : decode cX11_comeIn 22 = .ok (.aload_n 0, 1) := by decide +kernel
theorem dX11_comeIn_23 : decode cX11_comeIn 23 = .ok (.getfield 28, 3) := by decide +kernel
theorem dX11_comeIn_26 : decode cX11_comeIn 26 = .ok (.iload_n 1, 1) := by decide +kernel
theorem dX11_comeIn_27 : decode cX11_comeIn 27 = .ok (.invokevirtual 188, 3) := by decide +kernel
theorem dX11_comeIn_30 : decode cX11_comeIn 30 = .ok (.iconst (-1), 1) := by decide +kernel
theorem dX11_comeIn_31 : decode cX11_comeIn 31 = .ok (.if_icmp .ne 8, 3) := by decide +kernel
theorem dX11_comeIn_34 : decode cX11_comeIn 34 = .ok (.iload_n 2, 1) := by decide +kernel
theorem dX11_comeIn_35 : decode cX11_comeIn 35 = .ok (.iconst (-1), 1) := by decide +kernel
theorem dX11_comeIn_36 : decode cX11_comeIn 36 = .ok (.if_icmp .ne 6, 3) := by decide +kernel
theorem dX11_comeIn_39 : decode cX11_comeIn 39 = .ok (.ldc 208, 2) := by decide +kernel
theorem dX11_comeIn_41 : decode cX11_comeIn 41 = .ok (.ireturn, 1) := by decide +kernel
theorem dX11_comeIn_42 : decode cX11_comeIn 42 = .ok (.aload_n 0, 1) := by decide +kernel
theorem dX11_comeIn_43 : decode cX11_comeIn 43 = .ok (.getfield 38, 3) := by decide +kernel
theorem dX11_comeIn_46 : decode cX11_comeIn 46 = .ok (.aload_n 0, 1) := by decide +kernel
theorem dX11_comeIn_47 : decode cX11_comeIn 47 = .ok (.getfield 28, 3) := by decide +kernel
theorem dX11_comeIn_50 : decode cX11_comeIn 50 = .ok (.invokevirtual 209, 3) := by decide +kernel
theorem dX11_comeIn_53 : decode cX11_comeIn 53 = .ok (.aload_n 0, 1) := by decide +kernel
theorem dX11_comeIn_54 : decode cX11_comeIn 54 = .ok (.getfield 28, 3) := by decide +kernel
theorem dX11_comeIn_57 : decode cX11_comeIn 57 = .ok (.getfield 170, 3) := by decide +kernel
theorem dX11_comeIn_60 : decode cX11_comeIn 60 = .ok (.iload_n 2, 1) := by decide +kernel
theorem dX11_comeIn_61 : decode cX11_comeIn 61 = .ok (.iload_n 1, 1) := by decide +kernel
theorem dX11_comeIn_62 : decode cX11_comeIn 62 = .ok (.iastore, 1) := by decide +kernel
theorem dX11_comeIn_63 : decode cX11_comeIn 63 = .ok (.iload_n 2, 1) := by decide +kernel
theorem dX11_comeIn_64 : decode cX11_comeIn 64 = .ok (.ireturn, 1) := by decide +kernel
theorem dX11_drift_0 : decode cX11_drift 0 = .ok (.iload_n 1, 1) := by decide +kernel
theorem dX11_drift_1 : decode cX11_drift 1 = .ok (.iconst 1, 1) := by decide +kernel
theorem dX11_drift_2 : decode cX11_drift 2 = .ok (.if_icmp .lt 9, 3) := by decide +kernel
theorem dX11_drift_5 : decode cX11_drift 5 = .ok (.iload_n 1, 1) := by decide +kernel
theorem dX11_drift_6 : decode cX11_drift 6 = .ok (.bipush 99, 2) := by decide +kernel
theorem dX11_drift_8 : decode cX11_drift 8 = .ok (.if_icmp .le 6, 3) := by decide +kernel
theorem dX11_drift_11 : decode cX11_drift 11 = .ok (.ldc 97, 2) := by decide +kernel
theorem dX11_drift_13 : decode cX11_drift 13 = .ok (.ireturn, 1) := by decide +kernel
theorem dX11_drift_14 : decode cX11_drift 14 = .ok (.aload_n 0, 1) := by decide +kernel
theorem dX11_drift_15 : decode cX11_drift 15 = .ok (.invokevirtual 198, 3) := by decide +kernel
theorem dX11_drift_18 : decode cX11_drift 18 = .ok (.istore_n 2, 1) := by decide +kernel
theorem dX11_drift_19 : decode cX11_drift 19 = .ok (.iload_n 2, 1) := by decide +kernel
theorem dX11_drift_20 : decode cX11_drift 20 = .ok (.ifCond .eq 5, 3) := by decide +kernel
theorem dX11_drift_23 : decode cX11_drift 23 = .ok (.iload_n 2, 1) := by decide +kernel
theorem dX11_drift_24 : decode cX11_drift 24 = .ok (.ireturn, 1) := by decide +kernel
theorem dX11_drift_25 : decode cX11_drift 25 = .ok (.iconst 0, 1) := by decide +kernel
theorem dX11_drift_26 : decode cX11_drift 26 = .ok (.istore_n 3, 1) := by decide +kernel
theorem dX11_drift_27 : decode cX11_drift 27 = .ok (.iload_n 3, 1) := by decide +kernel
theorem dX11_drift_28 : decode cX11_drift 28 = .ok (.iload_n 1, 1) := by decide +kernel
theorem dX11_drift_29 : decode cX11_drift 29 = .ok (.if_icmp .ge 46, 3) := by decide +kernel
theorem dX11_drift_32 : decode cX11_drift 32 = .ok (.aload_n 0, 1) := by decide +kernel
theorem dX11_drift_33 : decode cX11_drift 33 = .ok (.invokevirtual 218, 3) := by decide +kernel
theorem dX11_drift_36 : decode cX11_drift 36 = .ok (.istore 4, 2) := by decide +kernel
theorem dX11_drift_38 : decode cX11_drift 38 = .ok (.aload_n 0, 1) := by decide +kernel
theorem dX11_drift_39 : decode cX11_drift 39 = .ok (.iload 4, 2) := by decide +kernel
theorem dX11_drift_41 : decode cX11_drift 41 = .ok (.invokestatic 195, 3) := by decide +kernel
theorem dX11_drift_44 : decode cX11_drift 44 = .ok (.ifCond .eq 8, 3) := by decide +kernel
theorem dX11_drift_47 : decode cX11_drift 47 = .ok (.iload 4, 2) := by decide +kernel
theorem dX11_drift_49 : decode cX11_drift 49 = .ok (.goto 17, 3) := by decide +kernel
theorem dX11_drift_52 : decode cX11_drift 52 = .ok (.aload_n 0, 1) := by decide +kernel
theorem dX11_drift_53 : decode cX11_drift 53 = .ok (.getfield 24, 3) := by decide +kernel
theorem dX11_drift_56 : decode cX11_drift 56 = .ok (.aload_n 0, 1) := by decide +kernel
theorem dX11_drift_57 : decode cX11_drift 57 = .ok (.getfield 28, 3) := by decide +kernel
theorem dX11_drift_60 : decode cX11_drift 60 = .ok (.getfield 145, 3) := by decide +kernel
theorem dX11_drift_63 : decode cX11_drift 63 = .ok (.invokevirtual 205, 3) := by decide +kernel
theorem dX11_drift_66 : decode cX11_drift 66 = .ok (.invokevirtual 201, 3) := by decide +kernel
theorem dX11_drift_69 : decode cX11_drift 69 = .ok (.iinc 3 1, 3) := by decide +kernel
theorem dX11_drift_72 : decode cX11_drift 72 = .ok (.goto (-45), 3) := by decide +kernel
theorem dX11_drift_75 : decode cX11_drift 75 = .ok (.aload_n 0, 1) := by decide +kernel
theorem dX11_drift_76 : decode cX11_drift 76 = .ok (.getfield 28, 3) := by decide +kernel
theorem dX11_drift_79 : decode cX11_drift 79 = .ok (.invokevirtual 154, 3) := by decide +kernel
theorem dX11_drift_82 : decode cX11_drift 82 = .ok (.ireturn, 1) := by decide +kernel
theorem dX11_undo_0 : decode cX11_undo 0 = .ok (.iload_n 1, 1) := by decide +kernel
theorem dX11_undo_1 : decode cX11_undo 1 = .ok (.iconst 1, 1) := by decide +kernel
theorem dX11_undo_2 : decode cX11_undo 2 = .ok (.if_icmp .lt 9, 3) := by decide +kernel
theorem dX11_undo_5 : decode cX11_undo 5 = .ok (.iload_n 1, 1) := by decide +kernel
theorem dX11_undo_6 : decode cX11_undo 6 = .ok (.bipush 30, 2) := by decide +kernel
theorem dX11_undo_8 : decode cX11_undo 8 = .ok (.if_icmp .le 6, 3) := by decide +kernel
theorem dX11_undo_11 : decode cX11_undo 11 = .ok (.ldc 97, 2) := by decide +kernel
theorem dX11_undo_13 : decode cX11_undo 13 = .ok (.ireturn, 1) := by decide +kernel
theorem dX11_undo_14 : decode cX11_undo 14 = .ok (.iload_n 1, 1) := by decide +kernel
theorem dX11_undo_15 : decode cX11_undo 15 = .ok (.aload_n 0, 1) := by decide +kernel
theorem dX11_undo_16 : decode cX11_undo 16 = .ok (.getfield 38, 3) := by decide +kernel
theorem dX11_undo_19 : decode cX11_undo 19 = .ok (.getfield 161, 3) := by decide +kernel
theorem dX11_undo_22 : decode cX11_undo 22 = .ok (.if_icmp .le 6, 3) := by decide +kernel
theorem dX11_undo_25 : decode cX11_undo 25 = .ok (.ldc 208, 2) := by decide +kernel
theorem dX11_undo_27 : decode cX11_undo 27 = .ok (.ireturn, 1) := by decide +kernel
theorem dX11_undo_28 : decode cX11_undo 28 = .ok (.aload_n 0, 1) := by decide +kernel
theorem dX11_undo_29 : decode cX11_undo 29 = .ok (.getfield 38, 3) := by decide +kernel
theorem dX11_undo_32 : decode cX11_undo 32 = .ok (.iload_n 1, 1) := by decide +kernel
theorem dX11_undo_33 : decode cX11_undo 33 = .ok (.aload_n 0, 1) := by decide +kernel
theorem dX11_undo_34 : decode cX11_undo 34 = .ok (.getfield 28, 3) := by decide +kernel
theorem dX11_undo_37 : decode cX11_undo 37 = .ok (.invokevirtual 221, 3) := by decide +kernel
theorem dX11_undo_40 : decode cX11_undo 40 = .ok (.aload_n 0, 1) := by decide +kernel
theorem dX11_undo_41 : decode cX11_undo 41 = .ok (.getfield 28, 3) := by decide +kernel
theorem dX11_undo_44 : decode cX11_undo 44 = .ok (.getfield 145, 3) := by decide +kernel
theorem dX11_undo_47 : decode cX11_undo 47 = .ok (.ireturn, 1) := by decide +kernel
theorem dX11_firstAwake_0 : decode cX11_firstAwake 0 = .ok (.iload_n 1, 1) := by decide +kernel
theorem dX11_firstAwake_1 : decode cX11_firstAwake 1 = .ok (.ifCond .eq 11, 3) := by decide +kernel
theorem dX11_firstAwake_4 : decode cX11_firstAwake 4 = .ok (.iload_n 1, 1) := by decide +kernel
theorem dX11_firstAwake_5 : decode cX11_firstAwake 5 = .ok (.iconst 1, 1) := by decide +kernel
theorem dX11_firstAwake_6 : decode cX11_firstAwake 6 = .ok (.if_icmp .eq 6, 3) := by decide +kernel
theorem dX11_firstAwake_9 : decode cX11_firstAwake 9 = .ok (.ldc 97, 2) := by decide +kernel
theorem dX11_firstAwake_11 : decode cX11_firstAwake 11 = .ok (.ireturn, 1) := by decide +kernel
theorem dX11_firstAwake_12 : decode cX11_firstAwake 12 = .ok (.aload_n 0, 1) := by decide +kernel
theorem dX11_firstAwake_13 : decode cX11_firstAwake 13 = .ok (.getfield 32, 3) := by decide +kernel
theorem dX11_firstAwake_16 : decode cX11_firstAwake 16 = .ok (.aload_n 0, 1) := by decide +kernel
theorem dX11_firstAwake_17 : decode cX11_firstAwake 17 = .ok (.getfield 28, 3) := by decide +kernel
theorem dX11_firstAwake_20 : decode cX11_firstAwake 20 = .ok (.invokevirtual 225, 3) := by decide +kernel
theorem dX11_firstAwake_23 : decode cX11_firstAwake 23 = .ok (.iconst 0, 1) := by decide +kernel
theorem dX11_firstAwake_24 : decode cX11_firstAwake 24 = .ok (.istore_n 2, 1) := by decide +kernel
theorem dX11_firstAwake_25 : decode cX11_firstAwake 25 = .ok (.iload_n 2, 1) := by decide +kernel
theorem dX11_firstAwake_26 : decode cX11_firstAwake 26 = .ok (.bipush 99, 2) := by decide +kernel
theorem dX11_firstAwake_28 : decode cX11_firstAwake 28 = .ok (.if_icmp .gt 41, 3) := by decide +kernel
theorem dX11_firstAwake_31 : decode cX11_firstAwake 31 = .ok (.aload_n 0, 1) := by decide +kernel
theorem dX11_firstAwake_32 : decode cX11_firstAwake 32 = .ok (.getfield 32, 3) := by decide +kernel
theorem dX11_firstAwake_35 : decode cX11_firstAwake 35 = .ok (.invokevirtual 151, 3) := by decide +kernel
theorem dX11_firstAwake_38 : decode cX11_firstAwake 38 = .ok (.istore_n 3, 1) := by decide +kernel
theorem dX11_firstAwake_39 : decode cX11_firstAwake 39 = .ok (.iload_n 3, 1) := by decide +kernel
theorem dX11_firstAwake_40 : decode cX11_firstAwake 40 = .ok (.ifCond .eq 16, 3) := by decide +kernel
theorem dX11_firstAwake_43 : decode cX11_firstAwake 43 = .ok (.iload_n 1, 1) := by decide +kernel
theorem dX11_firstAwake_44 : decode cX11_firstAwake 44 = .ok (.ifCond .ne 7, 3) := by decide +kernel
theorem dX11_firstAwake_47 : decode cX11_firstAwake 47 = .ok (.iload_n 2, 1) := by decide +kernel
theorem dX11_firstAwake_48 : decode cX11_firstAwake 48 = .ok (.goto 7, 3) := by decide +kernel
theorem dX11_firstAwake_51 : decode cX11_firstAwake 51 = .ok (.iload_n 3, 1) := by decide +kernel
theorem dX11_firstAwake_52 : decode cX11_firstAwake 52 = .ok (.invokestatic 227, 3) := by decide +kernel
theorem dX11_firstAwake_55 : decode cX11_firstAwake 55 = .ok (.ireturn, 1) := by decide +kernel
theorem dX11_firstAwake_56 : decode cX11_firstAwake 56 = .ok (.aload_n 0, 1) := by decide +kernel
theorem dX11_firstAwake_57 : decode cX11_firstAwake 57 = .ok (.getfield 32, 3) := by decide +kernel
theorem dX11_firstAwake_60 : decode cX11_firstAwake 60 = .ok (.invokevirtual 232, 3) := by decide +kernel
theorem dX11_firstAwake_63 : decode cX11_firstAwake 63 = .ok (.iinc 2 1, 3) := by decide +kernel
theorem dX11_firstAwake_66 : decode cX11_firstAwake 66 = .ok (.goto (-41), 3) := by decide +kernel
theorem dX11_firstAwake_69 : decode cX11_firstAwake 69 = .ok (.iconst (-1), 1) := by decide +kernel
theorem dX11_firstAwake_70 : decode cX11_firstAwake 70 = .ok (.ireturn, 1) := by decide +kernel
theorem dX11_turnsFor_0 : decode cX11_turnsFor 0 = .ok (.iload_n 1, 1) := by decide +kernel
theorem dX11_turnsFor_1 : decode cX11_turnsFor 1 = .ok (.iconst 1, 1) := by decide +kernel
theorem dX11_turnsFor_2 : decode cX11_turnsFor 2 = .ok (.if_icmp .lt 8, 3) := by decide +kernel
theorem dX11_turnsFor_5 : decode cX11_turnsFor 5 = .ok (.iload_n 1, 1) := by decide +kernel
theorem dX11_turnsFor_6 : decode cX11_turnsFor 6 = .ok (.iconst 5, 1) := by decide +kernel
theorem dX11_turnsFor_7 : decode cX11_turnsFor 7 = .ok (.if_icmp .le 6, 3) := by decide +kernel
theorem dX11_turnsFor_10 : decode cX11_turnsFor 10 = .ok (.ldc 97, 2) := by decide +kernel
theorem dX11_turnsFor_12 : decode cX11_turnsFor 12 = .ok (.ireturn, 1) := by decide +kernel
theorem dX11_turnsFor_13 : decode cX11_turnsFor 13 = .ok (.aload_n 0, 1) := by decide +kernel
theorem dX11_turnsFor_14 : decode cX11_turnsFor 14 = .ok (.getfield 28, 3) := by decide +kernel
theorem dX11_turnsFor_17 : decode cX11_turnsFor 17 = .ok (.invokevirtual 235, 3) := by decide +kernel
theorem dX11_turnsFor_20 : decode cX11_turnsFor 20 = .ok (.ifCond .ne 6, 3) := by decide +kernel
theorem dX11_turnsFor_23 : decode cX11_turnsFor 23 = .ok (.ldc 208, 2) := by decide +kernel
theorem dX11_turnsFor_25 : decode cX11_turnsFor 25 = .ok (.ireturn, 1) := by decide +kernel
theorem dX11_turnsFor_26 : decode cX11_turnsFor 26 = .ok (.aload_n 0, 1) := by decide +kernel
theorem dX11_turnsFor_27 : decode cX11_turnsFor 27 = .ok (.getfield 52, 3) := by decide +kernel
theorem dX11_turnsFor_30 : decode cX11_turnsFor 30 = .ok (.aload_n 0, 1) := by decide +kernel
theorem dX11_turnsFor_31 : decode cX11_turnsFor 31 = .ok (.getfield 28, 3) := by decide +kernel
theorem dX11_turnsFor_34 : decode cX11_turnsFor 34 = .ok (.iload_n 1, 1) := by decide +kernel
theorem dX11_turnsFor_35 : decode cX11_turnsFor 35 = .ok (.invokevirtual 238, 3) := by decide +kernel
theorem dX11_turnsFor_38 : decode cX11_turnsFor 38 = .ok (.iload_n 2, 1) := by decide +kernel
theorem dX11_turnsFor_39 : decode cX11_turnsFor 39 = .ok (.iconst (-1), 1) := by decide +kernel
theorem dX11_turnsFor_40 : decode cX11_turnsFor 40 = .ok (.if_icmp .eq 14, 3) := by decide +kernel
theorem dX11_turnsFor_43 : decode cX11_turnsFor 43 = .ok (.aload_n 0, 1) := by decide +kernel
theorem dX11_turnsFor_44 : decode cX11_turnsFor 44 = .ok (.getfield 52, 3) := by decide +kernel
theorem dX11_turnsFor_47 : decode cX11_turnsFor 47 = .ok (.getfield 242, 3) := by decide +kernel
theorem dX11_turnsFor_50 : decode cX11_turnsFor 50 = .ok (.iconst (-1), 1) := by decide +kernel
theorem dX11_turnsFor_51 : decode cX11_turnsFor 51 = .ok (.if_icmp .ne 11, 3) := by decide +kernel
theorem dX11_turnsFor_54 : decode cX11_turnsFor 54 = .ok (.aload_n 0, 1) := by decide +kernel
theorem dX11_turnsFor_55 : decode cX11_turnsFor 55 = .ok (.getfield 52, 3) := by decide +kernel
theorem dX11_turnsFor_58 : decode cX11_turnsFor 58 = .ok (.getfield 242, 3) := by decide +kernel
theorem dX11_turnsFor_61 : decode cX11_turnsFor 61 = .ok (.ireturn, 1) := by decide +kernel
theorem dX11_turnsFor_62 : decode cX11_turnsFor 62 = .ok (.iload_n 2, 1) := by decide +kernel
theorem dX11_turnsFor_63 : decode cX11_turnsFor 63 = .ok (.ifCond .lt 8, 3) := by decide +kernel
theorem dX11_turnsFor_66 : decode cX11_turnsFor 66 = .ok (.iload_n 2, 1) := by decide +kernel
theorem dX11_turnsFor_67 : decode cX11_turnsFor 67 = .ok (.iload_n 1, 1) := by decide +kernel
theorem dX11_turnsFor_68 : decode cX11_turnsFor 68 = .ok (.if_icmp .lt 7, 3) := by decide +kernel
theorem dX11_turnsFor_71 : decode cX11_turnsFor 71 = .ok (.iconst (-1), 1) := by decide +kernel
theorem dX11_turnsFor_72 : decode cX11_turnsFor 72 = .ok (.goto 12, 3) := by decide +kernel
theorem dX11_turnsFor_75 : decode cX11_turnsFor 75 = .ok (.aload_n 0, 1) := by decide +kernel
theorem dX11_turnsFor_76 : decode cX11_turnsFor 76 = .ok (.getfield 52, 3) := by decide +kernel
theorem dX11_turnsFor_79 : decode cX11_turnsFor 79 = .ok (.getfield 244, 3) := by decide +kernel
theorem dX11_turnsFor_82 : decode cX11_turnsFor 82 = .ok (.iload_n 2, 1) := by decide +kernel
theorem dX11_turnsFor_83 : decode cX11_turnsFor 83 = .ok (.iaload, 1) := by decide +kernel
theorem dX11_turnsFor_84 : decode cX11_turnsFor 84 = .ok (.ireturn, 1) := by decide +kernel
theorem dX11_rhyme_0 : decode cX11_rhyme 0 = .ok (.iload_n 1, 1) := by decide +kernel
theorem dX11_rhyme_1 : decode cX11_rhyme 1 = .ok (.iconst 1, 1) := by decide +kernel
theorem dX11_rhyme_2 : decode cX11_rhyme 2 = .ok (.if_icmp .lt 9, 3) := by decide +kernel
theorem dX11_rhyme_5 : decode cX11_rhyme 5 = .ok (.iload_n 1, 1) := by decide +kernel
theorem dX11_rhyme_6 : decode cX11_rhyme 6 = .ok (.bipush 30, 2) := by decide +kernel
theorem dX11_rhyme_8 : decode cX11_rhyme 8 = .ok (.if_icmp .le 6, 3) := by decide +kernel
theorem dX11_rhyme_11 : decode cX11_rhyme 11 = .ok (.ldc 97, 2) := by decide +kernel
theorem dX11_rhyme_13 : decode cX11_rhyme 13 = .ok (.ireturn, 1) := by decide +kernel
theorem dX11_rhyme_14 : decode cX11_rhyme 14 = .ok (.aload_n 0, 1) := by decide +kernel
theorem dX11_rhyme_15 : decode cX11_rhyme 15 = .ok (.getfield 28, 3) := by decide +kernel
theorem dX11_rhyme_18 : decode cX11_rhyme 18 = .ok (.invokevirtual 235, 3) := by decide +kernel
theorem dX11_rhyme_21 : decode cX11_rhyme 21 = .ok (.ifCond .ne 6, 3) := by decide +kernel
theorem dX11_rhyme_24 : decode cX11_rhyme 24 = .ok (.ldc 208, 2) := by decide +kernel
theorem dX11_rhyme_26 : decode cX11_rhyme 26 = .ok (.ireturn, 1) := by decide +kernel
theorem dX11_rhyme_27 : decode cX11_rhyme 27 = .ok (.aload_n 0, 1) := by decide +kernel
theorem dX11_rhyme_28 : decode cX11_rhyme 28 = .ok (.getfield 61, 3) := by decide +kernel
theorem dX11_rhyme_31 : decode cX11_rhyme 31 = .ok (.aload_n 0, 1) := by decide +kernel
theorem dX11_rhyme_32 : decode cX11_rhyme 32 = .ok (.getfield 28, 3) := by decide +kernel
theorem dX11_rhyme_35 : decode cX11_rhyme 35 = .ok (.iload_n 1, 1) := by decide +kernel
theorem dX11_rhyme_36 : decode cX11_rhyme 36 = .ok (.invokevirtual 247, 3) := by decide +kernel
theorem dX11_rhyme_39 : decode cX11_rhyme 39 = .ok (.iload_n 2, 1) := by decide +kernel
theorem dX11_rhyme_40 : decode cX11_rhyme 40 = .ok (.iconst (-1), 1) := by decide +kernel
theorem dX11_rhyme_41 : decode cX11_rhyme 41 = .ok (.if_icmp .eq 14, 3) := by decide +kernel
theorem dX11_rhyme_44 : decode cX11_rhyme 44 = .ok (.aload_n 0, 1) := by decide +kernel
theorem dX11_rhyme_45 : decode cX11_rhyme 45 = .ok (.getfield 61, 3) := by decide +kernel
theorem dX11_rhyme_48 : decode cX11_rhyme 48 = .ok (.getfield 248, 3) := by decide +kernel
theorem dX11_rhyme_51 : decode cX11_rhyme 51 = .ok (.iconst (-1), 1) := by decide +kernel
theorem dX11_rhyme_52 : decode cX11_rhyme 52 = .ok (.if_icmp .ne 11, 3) := by decide +kernel
theorem dX11_rhyme_55 : decode cX11_rhyme 55 = .ok (.aload_n 0, 1) := by decide +kernel
theorem dX11_rhyme_56 : decode cX11_rhyme 56 = .ok (.getfield 61, 3) := by decide +kernel
theorem dX11_rhyme_59 : decode cX11_rhyme 59 = .ok (.getfield 248, 3) := by decide +kernel
theorem dX11_rhyme_62 : decode cX11_rhyme 62 = .ok (.ireturn, 1) := by decide +kernel
theorem dX11_rhyme_63 : decode cX11_rhyme 63 = .ok (.iload_n 2, 1) := by decide +kernel
theorem dX11_rhyme_64 : decode cX11_rhyme 64 = .ok (.ifCond .lt 14, 3) := by decide +kernel
theorem dX11_rhyme_67 : decode cX11_rhyme 67 = .ok (.iload_n 2, 1) := by decide +kernel
theorem dX11_rhyme_68 : decode cX11_rhyme 68 = .ok (.aload_n 0, 1) := by decide +kernel
theorem dX11_rhyme_69 : decode cX11_rhyme 69 = .ok (.getfield 61, 3) := by decide +kernel
theorem dX11_rhyme_72 : decode cX11_rhyme 72 = .ok (.getfield 248, 3) := by decide +kernel
theorem dX11_rhyme_75 : decode cX11_rhyme 75 = .ok (.if_icmp .lt 7, 3) := by decide +kernel
theorem dX11_rhyme_78 : decode cX11_rhyme 78 = .ok (.iconst (-1), 1) := by decide +kernel
theorem dX11_rhyme_79 : decode cX11_rhyme 79 = .ok (.goto 21, 3) := by decide +kernel
theorem dX11_rhyme_82 : decode cX11_rhyme 82 = .ok (.aload_n 0, 1) := by decide +kernel
theorem dX11_rhyme_83 : decode cX11_rhyme 83 = .ok (.getfield 61, 3) := by decide +kernel
theorem dX11_rhyme_86 : decode cX11_rhyme 86 = .ok (.getfield 249, 3) := by decide +kernel
theorem dX11_rhyme_89 : decode cX11_rhyme 89 = .ok (.aload_n 0, 1) := by decide +kernel
theorem dX11_rhyme_90 : decode cX11_rhyme 90 = .ok (.getfield 61, 3) := by decide +kernel
theorem dX11_rhyme_93 : decode cX11_rhyme 93 = .ok (.getfield 248, 3) := by decide +kernel
theorem dX11_rhyme_96 : decode cX11_rhyme 96 = .ok (.iload_n 2, 1) := by decide +kernel
theorem dX11_rhyme_97 : decode cX11_rhyme 97 = .ok (.invokestatic 252, 3) := by decide +kernel
theorem dX11_rhyme_100 : decode cX11_rhyme 100 = .ok (.ireturn, 1) := by decide +kernel
theorem dX11_laid_0 : decode cX11_laid 0 = .ok (.iload_n 1, 1) := by decide +kernel
theorem dX11_laid_1 : decode cX11_laid 1 = .ok (.iconst 1, 1) := by decide +kernel
theorem dX11_laid_2 : decode cX11_laid 2 = .ok (.if_icmp .lt 9, 3) := by decide +kernel
theorem dX11_laid_5 : decode cX11_laid 5 = .ok (.iload_n 1, 1) := by decide +kernel
theorem dX11_laid_6 : decode cX11_laid 6 = .ok (.bipush 9, 2) := by decide +kernel
theorem dX11_laid_8 : decode cX11_laid 8 = .ok (.if_icmp .le 6, 3) := by decide +kernel
theorem dX11_laid_11 : decode cX11_laid 11 = .ok (.ldc 97, 2) := by decide +kernel
theorem dX11_laid_13 : decode cX11_laid 13 = .ok (.ireturn, 1) := by decide +kernel
theorem dX11_laid_14 : decode cX11_laid 14 = .ok (.aload_n 0, 1) := by decide +kernel
theorem dX11_laid_15 : decode cX11_laid 15 = .ok (.getfield 68, 3) := by decide +kernel
theorem dX11_laid_18 : decode cX11_laid 18 = .ok (.aload_n 0, 1) := by decide +kernel
theorem dX11_laid_19 : decode cX11_laid 19 = .ok (.getfield 28, 3) := by decide +kernel
theorem dX11_laid_22 : decode cX11_laid 22 = .ok (.iload_n 1, 1) := by decide +kernel
theorem dX11_laid_23 : decode cX11_laid 23 = .ok (.invokevirtual 256, 3) := by decide +kernel
theorem dX11_laid_26 : decode cX11_laid 26 = .ok (.iload_n 2, 1) := by decide +kernel
theorem dX11_laid_27 : decode cX11_laid 27 = .ok (.iconst (-1), 1) := by decide +kernel
theorem dX11_laid_28 : decode cX11_laid 28 = .ok (.if_icmp .ne 11, 3) := by decide +kernel
theorem dX11_laid_31 : decode cX11_laid 31 = .ok (.aload_n 0, 1) := by decide +kernel
theorem dX11_laid_32 : decode cX11_laid 32 = .ok (.getfield 68, 3) := by decide +kernel
theorem dX11_laid_35 : decode cX11_laid 35 = .ok (.getfield 257, 3) := by decide +kernel
theorem dX11_laid_38 : decode cX11_laid 38 = .ok (.ireturn, 1) := by decide +kernel
theorem dX11_laid_39 : decode cX11_laid 39 = .ok (.iload_n 2, 1) := by decide +kernel
theorem dX11_laid_40 : decode cX11_laid 40 = .ok (.ifCond .lt 14, 3) := by decide +kernel
theorem dX11_laid_43 : decode cX11_laid 43 = .ok (.iload_n 2, 1) := by decide +kernel
theorem dX11_laid_44 : decode cX11_laid 44 = .ok (.aload_n 0, 1) := by decide +kernel
theorem dX11_laid_45 : decode cX11_laid 45 = .ok (.getfield 68, 3) := by decide +kernel
theorem dX11_laid_48 : decode cX11_laid 48 = .ok (.getfield 258, 3) := by decide +kernel
theorem dX11_laid_51 : decode cX11_laid 51 = .ok (.if_icmp .lt 7, 3) := by decide +kernel
theorem dX11_laid_54 : decode cX11_laid 54 = .ok (.iconst (-1), 1) := by decide +kernel
theorem dX11_laid_55 : decode cX11_laid 55 = .ok (.goto 12, 3) := by decide +kernel
theorem dX11_laid_58 : decode cX11_laid 58 = .ok (.aload_n 0, 1) := by decide +kernel
theorem dX11_laid_59 : decode cX11_laid 59 = .ok (.getfield 68, 3) := by decide +kernel
theorem dX11_laid_62 : decode cX11_laid 62 = .ok (.getfield 259, 3) := by decide +kernel
theorem dX11_laid_65 : decode cX11_laid 65 = .ok (.iload_n 2, 1) := by decide +kernel
theorem dX11_laid_66 : decode cX11_laid 66 = .ok (.iaload, 1) := by decide +kernel
theorem dX11_laid_67 : decode cX11_laid 67 = .ok (.ireturn, 1) := by decide +kernel
theorem dX11_change_0 : decode cX11_change 0 = .ok (.aload_n 0, 1) := by decide +kernel
theorem dX11_change_1 : decode cX11_change 1 = .ok (.getfield 68, 3) := by decide +kernel
theorem dX11_change_4 : decode cX11_change 4 = .ok (.aload_n 0, 1) := by decide +kernel
theorem dX11_change_5 : decode cX11_change 5 = .ok (.getfield 28, 3) := by decide +kernel
theorem dX11_change_8 : decode cX11_change 8 = .ok (.invokevirtual 260, 3) := by decide +kernel
theorem dX11_change_11 : decode cX11_change 11 = .ok (.iload_n 1, 1) := by decide +kernel
theorem dX11_change_12 : decode cX11_change 12 = .ok (.iconst (-1), 1) := by decide +kernel
theorem dX11_change_13 : decode cX11_change 13 = .ok (.if_icmp .ne 11, 3) := by decide +kernel
theorem dX11_change_16 : decode cX11_change 16 = .ok (.aload_n 0, 1) := by decide +kernel
theorem dX11_change_17 : decode cX11_change 17 = .ok (.getfield 68, 3) := by decide +kernel
theorem dX11_change_20 : decode cX11_change 20 = .ok (.getfield 263, 3) := by decide +kernel
theorem dX11_change_23 : decode cX11_change 23 = .ok (.ireturn, 1) := by decide +kernel
theorem dX11_change_24 : decode cX11_change 24 = .ok (.iload_n 1, 1) := by decide +kernel
theorem dX11_change_25 : decode cX11_change 25 = .ok (.ifCond .lt 14, 3) := by decide +kernel
theorem dX11_change_28 : decode cX11_change 28 = .ok (.iload_n 1, 1) := by decide +kernel
theorem dX11_change_29 : decode cX11_change 29 = .ok (.aload_n 0, 1) := by decide +kernel
theorem dX11_change_30 : decode cX11_change 30 = .ok (.getfield 68, 3) := by decide +kernel
theorem dX11_change_33 : decode cX11_change 33 = .ok (.getfield 263, 3) := by decide +kernel
theorem dX11_change_36 : decode cX11_change 36 = .ok (.if_icmp .lt 7, 3) := by decide +kernel
theorem dX11_change_39 : decode cX11_change 39 = .ok (.iconst (-1), 1) := by decide +kernel
theorem dX11_change_40 : decode cX11_change 40 = .ok (.goto 12, 3) := by decide +kernel
theorem dX11_change_43 : decode cX11_change 43 = .ok (.aload_n 0, 1) := by decide +kernel
theorem dX11_change_44 : decode cX11_change 44 = .ok (.getfield 68, 3) := by decide +kernel
theorem dX11_change_47 : decode cX11_change 47 = .ok (.getfield 266, 3) := by decide +kernel
theorem dX11_change_50 : decode cX11_change 50 = .ok (.iload_n 1, 1) := by decide +kernel
theorem dX11_change_51 : decode cX11_change 51 = .ok (.iaload, 1) := by decide +kernel
theorem dX11_change_52 : decode cX11_change 52 = .ok (.ireturn, 1) := by decide +kernel
theorem dX11_steady_0 : decode cX11_steady 0 = .ok (.iload_n 1, 1) := by decide +kernel
theorem dX11_steady_1 : decode cX11_steady 1 = .ok (.iconst (-1), 1) := by decide +kernel
theorem dX11_steady_2 : decode cX11_steady 2 = .ok (.if_icmp .eq 17, 3) := by decide +kernel
theorem dX11_steady_5 : decode cX11_steady 5 = .ok (.aload_n 0, 1) := by decide +kernel
theorem dX11_steady_6 : decode cX11_steady 6 = .ok (.getfield 24, 3) := by decide +kernel
theorem dX11_steady_9 : decode cX11_steady 9 = .ok (.iload_n 1, 1) := by decide +kernel
theorem dX11_steady_10 : decode cX11_steady 10 = .ok (.invokevirtual 173, 3) := by decide +kernel
theorem dX11_steady_13 : decode cX11_steady 13 = .ok (.ifCond .ne 6, 3) := by decide +kernel
theorem dX11_steady_16 : decode cX11_steady 16 = .ok (.ldc 165, 2) := by decide +kernel
theorem dX11_steady_18 : decode cX11_steady 18 = .ok (.ireturn, 1) := by decide +kernel
theorem dX11_steady_19 : decode cX11_steady 19 = .ok (.aload_n 0, 1) := by decide +kernel
theorem dX11_steady_20 : decode cX11_steady 20 = .ok (.getfield 24, 3) := by decide +kernel
theorem dX11_steady_23 : decode cX11_steady 23 = .ok (.getfield 136, 3) := by decide +kernel
theorem dX11_steady_26 : decode cX11_steady 26 = .ok (.ifCond .ne 6, 3) := by decide +kernel
theorem dX11_steady_29 : decode cX11_steady 29 = .ok (.ldc 208, 2) := by decide +kernel
theorem dX11_steady_31 : decode cX11_steady 31 = .ok (.ireturn, 1) := by decide +kernel
theorem dX11_steady_32 : decode cX11_steady 32 = .ok (.aload_n 0, 1) := by decide +kernel
theorem dX11_steady_33 : decode cX11_steady 33 = .ok (.getfield 75, 3) := by decide +kernel
theorem dX11_steady_36 : decode cX11_steady 36 = .ok (.aload_n 0, 1) := by decide +kernel
theorem dX11_steady_37 : decode cX11_steady 37 = .ok (.getfield 28, 3) := by decide +kernel
theorem dX11_steady_40 : decode cX11_steady 40 = .ok (.invokevirtual 269, 3) := by decide +kernel
theorem dX11_steady_43 : decode cX11_steady 43 = .ok (.iload_n 1, 1) := by decide +kernel
theorem dX11_steady_44 : decode cX11_steady 44 = .ok (.iconst (-1), 1) := by decide +kernel
theorem dX11_steady_45 : decode cX11_steady 45 = .ok (.if_icmp .eq 14, 3) := by decide +kernel
theorem dX11_steady_48 : decode cX11_steady 48 = .ok (.aload_n 0, 1) := by decide +kernel
theorem dX11_steady_49 : decode cX11_steady 49 = .ok (.getfield 75, 3) := by decide +kernel
theorem dX11_steady_52 : decode cX11_steady 52 = .ok (.getfield 271, 3) := by decide +kernel
theorem dX11_steady_55 : decode cX11_steady 55 = .ok (.iconst (-1), 1) := by decide +kernel
theorem dX11_steady_56 : decode cX11_steady 56 = .ok (.if_icmp .ne 11, 3) := by decide +kernel
theorem dX11_steady_59 : decode cX11_steady 59 = .ok (.aload_n 0, 1) := by decide +kernel
theorem dX11_steady_60 : decode cX11_steady 60 = .ok (.getfield 75, 3) := by decide +kernel
theorem dX11_steady_63 : decode cX11_steady 63 = .ok (.getfield 271, 3) := by decide +kernel
theorem dX11_steady_66 : decode cX11_steady 66 = .ok (.ireturn, 1) := by decide +kernel
theorem dX11_steady_67 : decode cX11_steady 67 = .ok (.aload_n 0, 1) := by decide +kernel
theorem dX11_steady_68 : decode cX11_steady 68 = .ok (.getfield 75, 3) := by decide +kernel
theorem dX11_steady_71 : decode cX11_steady 71 = .ok (.aload_n 0, 1) := by decide +kernel
theorem dX11_steady_72 : decode cX11_steady 72 = .ok (.getfield 28, 3) := by decide +kernel
theorem dX11_steady_75 : decode cX11_steady 75 = .ok (.iload_n 1, 1) := by decide +kernel
theorem dX11_steady_76 : decode cX11_steady 76 = .ok (.invokevirtual 272, 3) := by decide +kernel
theorem dX11_steady_79 : decode cX11_steady 79 = .ok (.ireturn, 1) := by decide +kernel
theorem dX11_twoBeds_0 : decode cX11_twoBeds 0 = .ok (.iload_n 1, 1) := by decide +kernel
theorem dX11_twoBeds_1 : decode cX11_twoBeds 1 = .ok (.ifCond .eq 11, 3) := by decide +kernel
theorem dX11_twoBeds_4 : decode cX11_twoBeds 4 = .ok (.iload_n 1, 1) := by decide +kernel
theorem dX11_twoBeds_5 : decode cX11_twoBeds 5 = .ok (.iconst 1, 1) := by decide +kernel
theorem dX11_twoBeds_6 : decode cX11_twoBeds 6 = .ok (.if_icmp .eq 6, 3) := by decide +kernel
theorem dX11_twoBeds_9 : decode cX11_twoBeds 9 = .ok (.ldc 97, 2) := by decide +kernel
theorem dX11_twoBeds_11 : decode cX11_twoBeds 11 = .ok (.ireturn, 1) := by decide +kernel
theorem dX11_twoBeds_12 : decode cX11_twoBeds 12 = .ok (.iconst (-1), 1) := by decide +kernel
theorem dX11_twoBeds_13 : decode cX11_twoBeds 13 = .ok (.istore_n 2, 1) := by decide +kernel
theorem dX11_twoBeds_14 : decode cX11_twoBeds 14 = .ok (.iconst (-1), 1) := by decide +kernel
theorem dX11_twoBeds_15 : decode cX11_twoBeds 15 = .ok (.istore_n 3, 1) := by decide +kernel
theorem dX11_twoBeds_16 : decode cX11_twoBeds 16 = .ok (.iconst 1, 1) := by decide +kernel
theorem dX11_twoBeds_17 : decode cX11_twoBeds 17 = .ok (.istore 4, 2) := by decide +kernel
theorem dX11_twoBeds_19 : decode cX11_twoBeds 19 = .ok (.iload 4, 2) := by decide +kernel
theorem dX11_twoBeds_21 : decode cX11_twoBeds 21 = .ok (.iconst 1, 1) := by decide +kernel
theorem dX11_twoBeds_22 : decode cX11_twoBeds 22 = .ok (.aload_n 0, 1) := by decide +kernel
theorem dX11_twoBeds_23 : decode cX11_twoBeds 23 = .ok (.getfield 24, 3) := by decide +kernel
theorem dX11_twoBeds_26 : decode cX11_twoBeds 26 = .ok (.getfield 130, 3) := by decide +kernel
theorem dX11_twoBeds_29 : decode cX11_twoBeds 29 = .ok (.ishl, 1) := by decide +kernel
theorem dX11_twoBeds_30 : decode cX11_twoBeds 30 = .ok (.if_icmp .ge 37, 3) := by decide +kernel
theorem dX11_twoBeds_33 : decode cX11_twoBeds 33 = .ok (.aload_n 0, 1) := by decide +kernel
theorem dX11_twoBeds_34 : decode cX11_twoBeds 34 = .ok (.getfield 24, 3) := by decide +kernel
theorem dX11_twoBeds_37 : decode cX11_twoBeds 37 = .ok (.iload 4, 2) := by decide +kernel
theorem dX11_twoBeds_39 : decode cX11_twoBeds 39 = .ok (.invokevirtual 276, 3) := by decide +kernel
theorem dX11_twoBeds_42 : decode cX11_twoBeds 42 = .ok (.istore 5, 2) := by decide +kernel
theorem dX11_twoBeds_44 : decode cX11_twoBeds 44 = .ok (.iload_n 2, 1) := by decide +kernel
theorem dX11_twoBeds_45 : decode cX11_twoBeds 45 = .ok (.iconst (-1), 1) := by decide +kernel
theorem dX11_twoBeds_46 : decode cX11_twoBeds 46 = .ok (.if_icmp .eq 9, 3) := by decide +kernel
theorem dX11_twoBeds_49 : decode cX11_twoBeds 49 = .ok (.iload 5, 2) := by decide +kernel
theorem dX11_twoBeds_51 : decode cX11_twoBeds 51 = .ok (.iload_n 2, 1) := by decide +kernel
theorem dX11_twoBeds_52 : decode cX11_twoBeds 52 = .ok (.if_icmp .ge 9, 3) := by decide +kernel
theorem dX11_twoBeds_55 : decode cX11_twoBeds 55 = .ok (.iload 5, 2) := by decide +kernel
theorem dX11_twoBeds_57 : decode cX11_twoBeds 57 = .ok (.istore_n 2, 1) := by decide +kernel
theorem dX11_twoBeds_58 : decode cX11_twoBeds 58 = .ok (.iload 4, 2) := by decide +kernel
theorem dX11_twoBeds_60 : decode cX11_twoBeds 60 = .ok (.istore_n 3, 1) := by decide +kernel
theorem dX11_twoBeds_61 : decode cX11_twoBeds 61 = .ok (.iinc 4 2, 3) := by decide +kernel
theorem dX11_twoBeds_64 : decode cX11_twoBeds 64 = .ok (.goto (-45), 3) := by decide +kernel
theorem dX11_twoBeds_67 : decode cX11_twoBeds 67 = .ok (.iload_n 1, 1) := by decide +kernel
theorem dX11_twoBeds_68 : decode cX11_twoBeds 68 = .ok (.ifCond .ne 7, 3) := by decide +kernel
theorem dX11_twoBeds_71 : decode cX11_twoBeds 71 = .ok (.iload_n 2, 1) := by decide +kernel
theorem dX11_twoBeds_72 : decode cX11_twoBeds 72 = .ok (.goto 4, 3) := by decide +kernel
theorem dX11_twoBeds_75 : decode cX11_twoBeds 75 = .ok (.iload_n 3, 1) := by decide +kernel
theorem dX11_twoBeds_76 : decode cX11_twoBeds 76 = .ok (.ireturn, 1) := by decide +kernel
theorem dX11_nobodyUp_0 : decode cX11_nobodyUp 0 = .ok (.iload_n 1, 1) := by decide +kernel
theorem dX11_nobodyUp_1 : decode cX11_nobodyUp 1 = .ok (.iconst 1, 1) := by decide +kernel
theorem dX11_nobodyUp_2 : decode cX11_nobodyUp 2 = .ok (.if_icmp .lt 20, 3) := by decide +kernel
theorem dX11_nobodyUp_5 : decode cX11_nobodyUp 5 = .ok (.iload_n 1, 1) := by decide +kernel
theorem dX11_nobodyUp_6 : decode cX11_nobodyUp 6 = .ok (.bipush 50, 2) := by decide +kernel
theorem dX11_nobodyUp_8 : decode cX11_nobodyUp 8 = .ok (.if_icmp .gt 14, 3) := by decide +kernel
theorem dX11_nobodyUp_11 : decode cX11_nobodyUp 11 = .ok (.iload_n 2, 1) := by decide +kernel
theorem dX11_nobodyUp_12 : decode cX11_nobodyUp 12 = .ok (.ifCond .lt 10, 3) := by decide +kernel
theorem dX11_nobodyUp_15 : decode cX11_nobodyUp 15 = .ok (.iload_n 2, 1) := by decide +kernel
theorem dX11_nobodyUp_16 : decode cX11_nobodyUp 16 = .ok (.sipush 1000, 3) := by decide +kernel
theorem dX11_nobodyUp_19 : decode cX11_nobodyUp 19 = .ok (.if_icmp .le 6, 3) := by decide +kernel
theorem dX11_nobodyUp_22 : decode cX11_nobodyUp 22 = .ok (.ldc 97, 2) := by decide +kernel
theorem dX11_nobodyUp_24 : decode cX11_nobodyUp 24 = .ok (.ireturn, 1) := by decide +kernel
theorem dX11_nobodyUp_25 : decode cX11_nobodyUp 25 = .ok (.iload_n 1, 1) := by decide +kernel
theorem dX11_nobodyUp_26 : decode cX11_nobodyUp 26 = .ok (.aload_n 0, 1) := by decide +kernel
theorem dX11_nobodyUp_27 : decode cX11_nobodyUp 27 = .ok (.getfield 28, 3) := by decide +kernel
theorem dX11_nobodyUp_30 : decode cX11_nobodyUp 30 = .ok (.invokevirtual 235, 3) := by decide +kernel
theorem dX11_nobodyUp_33 : decode cX11_nobodyUp 33 = .ok (.invokestatic 279, 3) := by decide +kernel
theorem dX11_nobodyUp_36 : decode cX11_nobodyUp 36 = .ok (.imul, 1) := by decide +kernel
theorem dX11_nobodyUp_37 : decode cX11_nobodyUp 37 = .ok (.istore_n 3, 1) := by decide +kernel
theorem dX11_nobodyUp_38 : decode cX11_nobodyUp 38 = .ok (.ldc2_w 282, 3) := by decide +kernel
theorem dX11_nobodyUp_41 : decode cX11_nobodyUp 41 = .ok (.lstore 4, 2) := by decide +kernel
theorem dX11_nobodyUp_43 : decode cX11_nobodyUp 43 = .ok (.iconst 0, 1) := by decide +kernel
theorem dX11_nobodyUp_44 : decode cX11_nobodyUp 44 = .ok (.istore 6, 2) := by decide +kernel
theorem dX11_nobodyUp_46 : decode cX11_nobodyUp 46 = .ok (.iload 6, 2) := by decide +kernel
theorem dX11_nobodyUp_48 : decode cX11_nobodyUp 48 = .ok (.iload_n 3, 1) := by decide +kernel
theorem dX11_nobodyUp_49 : decode cX11_nobodyUp 49 = .ok (.if_icmp .ge 24, 3) := by decide +kernel
theorem dX11_nobodyUp_52 : decode cX11_nobodyUp 52 = .ok (.lload 4, 2) := by decide +kernel
theorem dX11_nobodyUp_54 : decode cX11_nobodyUp 54 = .ok (.sipush 1000, 3) := by decide +kernel
theorem dX11_nobodyUp_57 : decode cX11_nobodyUp 57 = .ok (.iload_n 2, 1) := by decide +kernel
theorem dX11_nobodyUp_58 : decode cX11_nobodyUp 58 = .ok (.isub, 1) := by decide +kernel
theorem dX11_nobodyUp_59 : decode cX11_nobodyUp 59 = .ok (.i2l, 1) := by decide +kernel
theorem dX11_nobodyUp_60 : decode cX11_nobodyUp 60 = .ok (.lmul, 1) := by decide +kernel
theorem dX11_nobodyUp_61 : decode cX11_nobodyUp 61 = .ok (.ldc2_w 284, 3) := by decide +kernel
theorem dX11_nobodyUp_64 : decode cX11_nobodyUp 64 = .ok (.ldiv, 1) := by decide +kernel
theorem dX11_nobodyUp_65 : decode cX11_nobodyUp 65 = .ok (.lstore 4, 2) := by decide +kernel
theorem dX11_nobodyUp_67 : decode cX11_nobodyUp 67 = .ok (.iinc 6 1, 3) := by decide +kernel
theorem dX11_nobodyUp_70 : decode cX11_nobodyUp 70 = .ok (.goto (-24), 3) := by decide +kernel
theorem dX11_nobodyUp_73 : decode cX11_nobodyUp 73 = .ok (.lload 4, 2) := by decide +kernel
theorem dX11_nobodyUp_75 : decode cX11_nobodyUp 75 = .ok (.l2i, 1) := by decide +kernel
theorem dX11_nobodyUp_76 : decode cX11_nobodyUp 76 = .ok (.ireturn, 1) := by decide +kernel
theorem dX11_morning_0 : decode cX11_morning 0 = .ok (.aload_n 0, 1) := by decide +kernel
theorem dX11_morning_1 : decode cX11_morning 1 = .ok (.getfield 24, 3) := by decide +kernel
theorem dX11_morning_4 : decode cX11_morning 4 = .ok (.iload_n 1, 1) := by decide +kernel
theorem dX11_morning_5 : decode cX11_morning 5 = .ok (.invokevirtual 173, 3) := by decide +kernel
theorem dX11_morning_8 : decode cX11_morning 8 = .ok (.ifCond .eq 14, 3) := by decide +kernel
theorem dX11_morning_11 : decode cX11_morning 11 = .ok (.aload_n 0, 1) := by decide +kernel
theorem dX11_morning_12 : decode cX11_morning 12 = .ok (.getfield 24, 3) := by decide +kernel
theorem dX11_morning_15 : decode cX11_morning 15 = .ok (.iload_n 2, 1) := by decide +kernel
theorem dX11_morning_16 : decode cX11_morning 16 = .ok (.invokevirtual 162, 3) := by decide +kernel
theorem dX11_morning_19 : decode cX11_morning 19 = .ok (.ifCond .ne 6, 3) := by decide +kernel
theorem dX11_morning_22 : decode cX11_morning 22 = .ok (.ldc 165, 2) := by decide +kernel
theorem dX11_morning_24 : decode cX11_morning 24 = .ok (.ireturn, 1) := by decide +kernel
theorem dX11_morning_25 : decode cX11_morning 25 = .ok (.aload_n 0, 1) := by decide +kernel
theorem dX11_morning_26 : decode cX11_morning 26 = .ok (.getfield 82, 3) := by decide +kernel
theorem dX11_morning_29 : decode cX11_morning 29 = .ok (.iload_n 1, 1) := by decide +kernel
theorem dX11_morning_30 : decode cX11_morning 30 = .ok (.iload_n 2, 1) := by decide +kernel
theorem dX11_morning_31 : decode cX11_morning 31 = .ok (.invokevirtual 286, 3) := by decide +kernel
theorem dX11_morning_34 : decode cX11_morning 34 = .ok (.ifCond .eq 13, 3) := by decide +kernel
theorem dX11_morning_37 : decode cX11_morning 37 = .ok (.aload_n 0, 1) := by decide +kernel
theorem dX11_morning_38 : decode cX11_morning 38 = .ok (.getfield 82, 3) := by decide +kernel
theorem dX11_morning_41 : decode cX11_morning 41 = .ok (.getfield 157, 3) := by decide +kernel
theorem dX11_morning_44 : decode cX11_morning 44 = .ok (.goto 5, 3) := by decide +kernel
theorem dX11_morning_47 : decode cX11_morning 47 = .ok (.ldc 105, 2) := by decide +kernel
theorem dX11_morning_49 : decode cX11_morning 49 = .ok (.ireturn, 1) := by decide +kernel
theorem dX11_counted_0 : decode cX11_counted 0 = .ok (.iload_n 1, 1) := by decide +kernel
theorem dX11_counted_1 : decode cX11_counted 1 = .ok (.iconst 1, 1) := by decide +kernel
theorem dX11_counted_2 : decode cX11_counted 2 = .ok (.if_icmp .lt 8, 3) := by decide +kernel
theorem dX11_counted_5 : decode cX11_counted 5 = .ok (.iload_n 1, 1) := by decide +kernel
theorem dX11_counted_6 : decode cX11_counted 6 = .ok (.iconst 5, 1) := by decide +kernel
theorem dX11_counted_7 : decode cX11_counted 7 = .ok (.if_icmp .le 6, 3) := by decide +kernel
theorem dX11_counted_10 : decode cX11_counted 10 = .ok (.ldc 97, 2) := by decide +kernel
theorem dX11_counted_12 : decode cX11_counted 12 = .ok (.ireturn, 1) := by decide +kernel
theorem dX11_counted_13 : decode cX11_counted 13 = .ok (.aload_n 0, 1) := by decide +kernel
theorem dX11_counted_14 : decode cX11_counted 14 = .ok (.getfield 24, 3) := by decide +kernel
theorem dX11_counted_17 : decode cX11_counted 17 = .ok (.getfield 136, 3) := by decide +kernel
theorem dX11_counted_20 : decode cX11_counted 20 = .ok (.ifCond .ne 6, 3) := by decide +kernel
theorem dX11_counted_23 : decode cX11_counted 23 = .ok (.ldc 208, 2) := by decide +kernel
theorem dX11_counted_25 : decode cX11_counted 25 = .ok (.ireturn, 1) := by decide +kernel
theorem dX11_counted_26 : decode cX11_counted 26 = .ok (.aload_n 0, 1) := by decide +kernel
theorem dX11_counted_27 : decode cX11_counted 27 = .ok (.getfield 82, 3) := by decide +kernel
theorem dX11_counted_30 : decode cX11_counted 30 = .ok (.aload_n 0, 1) := by decide +kernel
theorem dX11_counted_31 : decode cX11_counted 31 = .ok (.getfield 28, 3) := by decide +kernel
theorem dX11_counted_34 : decode cX11_counted 34 = .ok (.iload_n 1, 1) := by decide +kernel
theorem dX11_counted_35 : decode cX11_counted 35 = .ok (.invokevirtual 289, 3) := by decide +kernel
theorem dX11_counted_38 : decode cX11_counted 38 = .ok (.iload_n 2, 1) := by decide +kernel
theorem dX11_counted_39 : decode cX11_counted 39 = .ok (.iconst (-1), 1) := by decide +kernel
theorem dX11_counted_40 : decode cX11_counted 40 = .ok (.if_icmp .ne 11, 3) := by decide +kernel
theorem dX11_counted_43 : decode cX11_counted 43 = .ok (.aload_n 0, 1) := by decide +kernel
theorem dX11_counted_44 : decode cX11_counted 44 = .ok (.getfield 82, 3) := by decide +kernel
theorem dX11_counted_47 : decode cX11_counted 47 = .ok (.getfield 290, 3) := by decide +kernel
theorem dX11_counted_50 : decode cX11_counted 50 = .ok (.ireturn, 1) := by decide +kernel
theorem dX11_counted_51 : decode cX11_counted 51 = .ok (.iload_n 2, 1) := by decide +kernel
theorem dX11_counted_52 : decode cX11_counted 52 = .ok (.ifCond .lt 18, 3) := by decide +kernel
theorem dX11_counted_55 : decode cX11_counted 55 = .ok (.iload_n 2, 1) := by decide +kernel
theorem dX11_counted_56 : decode cX11_counted 56 = .ok (.iload_n 1, 1) := by decide +kernel
theorem dX11_counted_57 : decode cX11_counted 57 = .ok (.if_icmp .ge 13, 3) := by decide +kernel
theorem dX11_counted_60 : decode cX11_counted 60 = .ok (.aload_n 0, 1) := by decide +kernel
theorem dX11_counted_61 : decode cX11_counted 61 = .ok (.getfield 82, 3) := by decide +kernel
theorem dX11_counted_64 : decode cX11_counted 64 = .ok (.getfield 290, 3) := by decide +kernel
theorem dX11_counted_67 : decode cX11_counted 67 = .ok (.ifCond .ne 7, 3) := by decide +kernel
theorem dX11_counted_70 : decode cX11_counted 70 = .ok (.iconst (-1), 1) := by decide +kernel
theorem dX11_counted_71 : decode cX11_counted 71 = .ok (.goto 15, 3) := by decide +kernel
theorem dX11_counted_74 : decode cX11_counted 74 = .ok (.aload_n 0, 1) := by decide +kernel
theorem dX11_counted_75 : decode cX11_counted 75 = .ok (.getfield 82, 3) := by decide +kernel
theorem dX11_counted_78 : decode cX11_counted 78 = .ok (.getfield 293, 3) := by decide +kernel
theorem dX11_counted_81 : decode cX11_counted 81 = .ok (.iload_n 1, 1) := by decide +kernel
theorem dX11_counted_82 : decode cX11_counted 82 = .ok (.iload_n 2, 1) := by decide +kernel
theorem dX11_counted_83 : decode cX11_counted 83 = .ok (.invokestatic 252, 3) := by decide +kernel
theorem dX11_counted_86 : decode cX11_counted 86 = .ok (.ireturn, 1) := by decide +kernel
theorem dX11_sure_0 : decode cX11_sure 0 = .ok (.iload_n 1, 1) := by decide +kernel
theorem dX11_sure_1 : decode cX11_sure 1 = .ok (.iconst 1, 1) := by decide +kernel
theorem dX11_sure_2 : decode cX11_sure 2 = .ok (.if_icmp .lt 8, 3) := by decide +kernel
theorem dX11_sure_5 : decode cX11_sure 5 = .ok (.iload_n 1, 1) := by decide +kernel
theorem dX11_sure_6 : decode cX11_sure 6 = .ok (.iconst 5, 1) := by decide +kernel
theorem dX11_sure_7 : decode cX11_sure 7 = .ok (.if_icmp .le 6, 3) := by decide +kernel
theorem dX11_sure_10 : decode cX11_sure 10 = .ok (.ldc 97, 2) := by decide +kernel
theorem dX11_sure_12 : decode cX11_sure 12 = .ok (.ireturn, 1) := by decide +kernel
theorem dX11_sure_13 : decode cX11_sure 13 = .ok (.aload_n 0, 1) := by decide +kernel
theorem dX11_sure_14 : decode cX11_sure 14 = .ok (.getfield 24, 3) := by decide +kernel
theorem dX11_sure_17 : decode cX11_sure 17 = .ok (.getfield 136, 3) := by decide +kernel
theorem dX11_sure_20 : decode cX11_sure 20 = .ok (.ifCond .ne 6, 3) := by decide +kernel
theorem dX11_sure_23 : decode cX11_sure 23 = .ok (.ldc 208, 2) := by decide +kernel
theorem dX11_sure_25 : decode cX11_sure 25 = .ok (.ireturn, 1) := by decide +kernel
theorem dX11_sure_26 : decode cX11_sure 26 = .ok (.aload_n 0, 1) := by decide +kernel
theorem dX11_sure_27 : decode cX11_sure 27 = .ok (.getfield 82, 3) := by decide +kernel
theorem dX11_sure_30 : decode cX11_sure 30 = .ok (.aload_n 0, 1) := by decide +kernel
theorem dX11_sure_31 : decode cX11_sure 31 = .ok (.getfield 28, 3) := by decide +kernel
theorem dX11_sure_34 : decode cX11_sure 34 = .ok (.iload_n 1, 1) := by decide +kernel
theorem dX11_sure_35 : decode cX11_sure 35 = .ok (.invokevirtual 289, 3) := by decide +kernel
theorem dX11_sure_38 : decode cX11_sure 38 = .ok (.aload_n 0, 1) := by decide +kernel
theorem dX11_sure_39 : decode cX11_sure 39 = .ok (.getfield 82, 3) := by decide +kernel
theorem dX11_sure_42 : decode cX11_sure 42 = .ok (.getfield 296, 3) := by decide +kernel
theorem dX11_sure_45 : decode cX11_sure 45 = .ok (.ireturn, 1) := by decide +kernel
theorem dX11_write_0 : decode cX11_write 0 = .ok (.iload_n 1, 1) := by decide +kernel
theorem dX11_write_1 : decode cX11_write 1 = .ok (.invokestatic 195, 3) := by decide +kernel
theorem dX11_write_4 : decode cX11_write 4 = .ok (.ifCond .ne 6, 3) := by decide +kernel
theorem dX11_write_7 : decode cX11_write 7 = .ok (.ldc 165, 2) := by decide +kernel
theorem dX11_write_9 : decode cX11_write 9 = .ok (.ireturn, 1) := by decide +kernel
theorem dX11_write_10 : decode cX11_write 10 = .ok (.aload_n 0, 1) := by decide +kernel
theorem dX11_write_11 : decode cX11_write 11 = .ok (.getfield 89, 3) := by decide +kernel
theorem dX11_write_14 : decode cX11_write 14 = .ok (.iload_n 1, 1) := by decide +kernel
theorem dX11_write_15 : decode cX11_write 15 = .ok (.invokevirtual 299, 3) := by decide +kernel
theorem dX11_write_18 : decode cX11_write 18 = .ok (.ifCond .eq 13, 3) := by decide +kernel
theorem dX11_write_21 : decode cX11_write 21 = .ok (.aload_n 0, 1) := by decide +kernel
theorem dX11_write_22 : decode cX11_write 22 = .ok (.getfield 89, 3) := by decide +kernel
theorem dX11_write_25 : decode cX11_write 25 = .ok (.getfield 160, 3) := by decide +kernel
theorem dX11_write_28 : decode cX11_write 28 = .ok (.goto 5, 3) := by decide +kernel
theorem dX11_write_31 : decode cX11_write 31 = .ok (.ldc 105, 2) := by decide +kernel
theorem dX11_write_33 : decode cX11_write 33 = .ok (.ireturn, 1) := by decide +kernel
theorem dX11_judge_0 : decode cX11_judge 0 = .ok (.iload_n 1, 1) := by decide +kernel
theorem dX11_judge_1 : decode cX11_judge 1 = .ok (.ifCond .eq 11, 3) := by decide +kernel
theorem dX11_judge_4 : decode cX11_judge 4 = .ok (.iload_n 1, 1) := by decide +kernel
theorem dX11_judge_5 : decode cX11_judge 5 = .ok (.iconst 1, 1) := by decide +kernel
theorem dX11_judge_6 : decode cX11_judge 6 = .ok (.if_icmp .eq 6, 3) := by decide +kernel
theorem dX11_judge_9 : decode cX11_judge 9 = .ok (.ldc 97, 2) := by decide +kernel
theorem dX11_judge_11 : decode cX11_judge 11 = .ok (.ireturn, 1) := by decide +kernel
theorem dX11_judge_12 : decode cX11_judge 12 = .ok (.aload_n 0, 1) := by decide +kernel
theorem dX11_judge_13 : decode cX11_judge 13 = .ok (.getfield 28, 3) := by decide +kernel
theorem dX11_judge_16 : decode cX11_judge 16 = .ok (.invokevirtual 235, 3) := by decide +kernel
theorem dX11_judge_19 : decode cX11_judge 19 = .ok (.ifCond .ne 6, 3) := by decide +kernel
theorem dX11_judge_22 : decode cX11_judge 22 = .ok (.ldc 208, 2) := by decide +kernel
theorem dX11_judge_24 : decode cX11_judge 24 = .ok (.ireturn, 1) := by decide +kernel
theorem dX11_judge_25 : decode cX11_judge 25 = .ok (.aload_n 0, 1) := by decide +kernel
theorem dX11_judge_26 : decode cX11_judge 26 = .ok (.getfield 32, 3) := by decide +kernel
theorem dX11_judge_29 : decode cX11_judge 29 = .ok (.aload_n 0, 1) := by decide +kernel
theorem dX11_judge_30 : decode cX11_judge 30 = .ok (.getfield 28, 3) := by decide +kernel
theorem dX11_judge_33 : decode cX11_judge 33 = .ok (.invokevirtual 225, 3) := by decide +kernel
theorem dX11_judge_36 : decode cX11_judge 36 = .ok (.aload_n 0, 1) := by decide +kernel
theorem dX11_judge_37 : decode cX11_judge 37 = .ok (.getfield 89, 3) := by decide +kernel
theorem dX11_judge_40 : decode cX11_judge 40 = .ok (.aload_n 0, 1) := by decide +kernel
theorem dX11_judge_41 : decode cX11_judge 41 = .ok (.getfield 32, 3) := by decide +kernel
theorem dX11_judge_44 : decode cX11_judge 44 = .ok (.invokevirtual 300, 3) := by decide +kernel
theorem dX11_judge_47 : decode cX11_judge 47 = .ok (.istore_n 2, 1) := by decide +kernel
theorem dX11_judge_48 : decode cX11_judge 48 = .ok (.iload_n 1, 1) := by decide +kernel
theorem dX11_judge_49 : decode cX11_judge 49 = .ok (.ifCond .ne 7, 3) := by decide +kernel
theorem dX11_judge_52 : decode cX11_judge 52 = .ok (.iload_n 2, 1) := by decide +kernel
theorem dX11_judge_53 : decode cX11_judge 53 = .ok (.goto 10, 3) := by decide +kernel
theorem dX11_judge_56 : decode cX11_judge 56 = .ok (.aload_n 0, 1) := by decide +kernel
theorem dX11_judge_57 : decode cX11_judge 57 = .ok (.getfield 32, 3) := by decide +kernel
theorem dX11_judge_60 : decode cX11_judge 60 = .ok (.invokevirtual 154, 3) := by decide +kernel
theorem dX11_judge_63 : decode cX11_judge 63 = .ok (.ireturn, 1) := by decide +kernel
theorem dX11_tear_0 : decode cX11_tear 0 = .ok (.aload_n 0, 1) := by decide +kernel
theorem dX11_tear_1 : decode cX11_tear 1 = .ok (.getfield 82, 3) := by decide +kernel
theorem dX11_tear_4 : decode cX11_tear 4 = .ok (.getfield 157, 3) := by decide +kernel
theorem dX11_tear_7 : decode cX11_tear 7 = .ok (.aload_n 0, 1) := by decide +kernel
theorem dX11_tear_8 : decode cX11_tear 8 = .ok (.getfield 89, 3) := by decide +kernel
theorem dX11_tear_11 : decode cX11_tear 11 = .ok (.getfield 160, 3) := by decide +kernel
theorem dX11_tear_14 : decode cX11_tear 14 = .ok (.iadd, 1) := by decide +kernel
theorem dX11_tear_15 : decode cX11_tear 15 = .ok (.istore_n 1, 1) := by decide +kernel
theorem dX11_tear_16 : decode cX11_tear 16 = .ok (.aload_n 0, 1) := by decide +kernel
theorem dX11_tear_17 : decode cX11_tear 17 = .ok (.getfield 82, 3) := by decide +kernel
theorem dX11_tear_20 : decode cX11_tear 20 = .ok (.invokevirtual 119, 3) := by decide +kernel
theorem dX11_tear_23 : decode cX11_tear 23 = .ok (.aload_n 0, 1) := by decide +kernel
theorem dX11_tear_24 : decode cX11_tear 24 = .ok (.getfield 89, 3) := by decide +kernel
theorem dX11_tear_27 : decode cX11_tear 27 = .ok (.invokevirtual 122, 3) := by decide +kernel
theorem dX11_tear_30 : decode cX11_tear 30 = .ok (.iload_n 1, 1) := by decide +kernel
theorem dX11_tear_31 : decode cX11_tear 31 = .ok (.ireturn, 1) := by decide +kernel
theorem dX11_seed_0 : decode cX11_seed 0 = .ok (.iload_n 1, 1) := by decide +kernel
theorem dX11_seed_1 : decode cX11_seed 1 = .ok (.ifCond .ge 6, 3) := by decide +kernel
theorem dX11_seed_4 : decode cX11_seed 4 = .ok (.ldc 97, 2) := by decide +kernel
theorem dX11_seed_6 : decode cX11_seed 6 = .ok (.ireturn, 1) := by decide +kernel
theorem dX11_seed_7 : decode cX11_seed 7 = .ok (.aload_n 0, 1) := by decide +kernel
theorem dX11_seed_8 : decode cX11_seed 8 = .ok (.getfield 93, 3) := by decide +kernel
theorem dX11_seed_11 : decode cX11_seed 11 = .ok (.istore_n 2, 1) := by decide +kernel
theorem dX11_seed_12 : decode cX11_seed 12 = .ok (.aload_n 0, 1) := by decide +kernel
theorem dX11_seed_13 : decode cX11_seed 13 = .ok (.iload_n 1, 1) := by decide +kernel
theorem dX11_seed_14 : decode cX11_seed 14 = .ok (.putfield 93, 3) := by decide +kernel
theorem dX11_seed_17 : decode cX11_seed 17 = .ok (.iload_n 2, 1) := by decide +kernel
theorem dX11_seed_18 : decode cX11_seed 18 = .ok (.ireturn, 1) := by decide +kernel
theorem dX11_keep_0 : decode cX11_keep 0 = .ok (.iload_n 1, 1) := by decide +kernel
theorem dX11_keep_1 : decode cX11_keep 1 = .ok (.ifCond .lt 8, 3) := by decide +kernel
theorem dX11_keep_4 : decode cX11_keep 4 = .ok (.iload_n 1, 1) := by decide +kernel
theorem dX11_keep_5 : decode cX11_keep 5 = .ok (.iconst 2, 1) := by decide +kernel
theorem dX11_keep_6 : decode cX11_keep 6 = .ok (.if_icmp .lt 6, 3) := by decide +kernel
theorem dX11_keep_9 : decode cX11_keep 9 = .ok (.ldc 165, 2) := by decide +kernel
theorem dX11_keep_11 : decode cX11_keep 11 = .ok (.ireturn, 1) := by decide +kernel
theorem dX11_keep_12 : decode cX11_keep 12 = .ok (.aload_n 0, 1) := by decide +kernel
theorem dX11_keep_13 : decode cX11_keep 13 = .ok (.getfield 44, 3) := by decide +kernel
theorem dX11_keep_16 : decode cX11_keep 16 = .ok (.iload_n 1, 1) := by decide +kernel
theorem dX11_keep_17 : decode cX11_keep 17 = .ok (.aaload, 1) := by decide +kernel
theorem dX11_keep_18 : decode cX11_keep 18 = .ok (.aload_n 0, 1) := by decide +kernel
theorem dX11_keep_19 : decode cX11_keep 19 = .ok (.getfield 28, 3) := by decide +kernel
theorem dX11_keep_22 : decode cX11_keep 22 = .ok (.aload_n 0, 1) := by decide +kernel
theorem dX11_keep_23 : decode cX11_keep 23 = .ok (.getfield 93, 3) := by decide +kernel
theorem dX11_keep_26 : decode cX11_keep 26 = .ok (.invokevirtual 304, 3) := by decide +kernel
theorem dX11_keep_29 : decode cX11_keep 29 = .ok (.aload_n 0, 1) := by decide +kernel
theorem dX11_keep_30 : decode cX11_keep 30 = .ok (.getfield 38, 3) := by decide +kernel
theorem dX11_keep_33 : decode cX11_keep 33 = .ok (.invokevirtual 123, 3) := by decide +kernel
theorem dX11_keep_36 : decode cX11_keep 36 = .ok (.iconst 1, 1) := by decide +kernel
theorem dX11_keep_37 : decode cX11_keep 37 = .ok (.ireturn, 1) := by decide +kernel
theorem dX11_goBack_0 : decode cX11_goBack 0 = .ok (.iload_n 1, 1) := by decide +kernel
theorem dX11_goBack_1 : decode cX11_goBack 1 = .ok (.ifCond .lt 8, 3) := by decide +kernel
theorem dX11_goBack_4 : decode cX11_goBack 4 = .ok (.iload_n 1, 1) := by decide +kernel
theorem dX11_goBack_5 : decode cX11_goBack 5 = .ok (.iconst 2, 1) := by decide +kernel
theorem dX11_goBack_6 : decode cX11_goBack 6 = .ok (.if_icmp .lt 6, 3) := by decide +kernel
theorem dX11_goBack_9 : decode cX11_goBack 9 = .ok (.ldc 165, 2) := by decide +kernel
theorem dX11_goBack_11 : decode cX11_goBack 11 = .ok (.ireturn, 1) := by decide +kernel
theorem dX11_goBack_12 : decode cX11_goBack 12 = .ok (.aload_n 0, 1) := by decide +kernel
theorem dX11_goBack_13 : decode cX11_goBack 13 = .ok (.getfield 44, 3) := by decide +kernel
theorem dX11_goBack_16 : decode cX11_goBack 16 = .ok (.iload_n 1, 1) := by decide +kernel
theorem dX11_goBack_17 : decode cX11_goBack 17 = .ok (.aaload, 1) := by decide +kernel
theorem dX11_goBack_18 : decode cX11_goBack 18 = .ok (.astore_n 2, 1) := by decide +kernel
theorem dX11_goBack_19 : decode cX11_goBack 19 = .ok (.aload_n 2, 1) := by decide +kernel
theorem dX11_goBack_20 : decode cX11_goBack 20 = .ok (.getfield 126, 3) := by decide +kernel
theorem dX11_goBack_23 : decode cX11_goBack 23 = .ok (.ifCond .ne 6, 3) := by decide +kernel
theorem dX11_goBack_26 : decode cX11_goBack 26 = .ok (.ldc 208, 2) := by decide +kernel
theorem dX11_goBack_28 : decode cX11_goBack 28 = .ok (.ireturn, 1) := by decide +kernel
theorem dX11_goBack_29 : decode cX11_goBack 29 = .ok (.aload_n 0, 1) := by decide +kernel
theorem dX11_goBack_30 : decode cX11_goBack 30 = .ok (.getfield 28, 3) := by decide +kernel
theorem dX11_goBack_33 : decode cX11_goBack 33 = .ok (.aload_n 2, 1) := by decide +kernel
theorem dX11_goBack_34 : decode cX11_goBack 34 = .ok (.getfield 307, 3) := by decide +kernel
theorem dX11_goBack_37 : decode cX11_goBack 37 = .ok (.aload_n 2, 1) := by decide +kernel
theorem dX11_goBack_38 : decode cX11_goBack 38 = .ok (.getfield 311, 3) := by decide +kernel
theorem dX11_goBack_41 : decode cX11_goBack 41 = .ok (.invokevirtual 312, 3) := by decide +kernel
theorem dX11_goBack_44 : decode cX11_goBack 44 = .ok (.aload_n 0, 1) := by decide +kernel
theorem dX11_goBack_45 : decode cX11_goBack 45 = .ok (.aload_n 2, 1) := by decide +kernel
theorem dX11_goBack_46 : decode cX11_goBack 46 = .ok (.getfield 316, 3) := by decide +kernel
theorem dX11_goBack_49 : decode cX11_goBack 49 = .ok (.putfield 93, 3) := by decide +kernel
theorem dX11_goBack_52 : decode cX11_goBack 52 = .ok (.aload_n 0, 1) := by decide +kernel
theorem dX11_goBack_53 : decode cX11_goBack 53 = .ok (.getfield 38, 3) := by decide +kernel
theorem dX11_goBack_56 : decode cX11_goBack 56 = .ok (.invokevirtual 123, 3) := by decide +kernel
theorem dX11_goBack_59 : decode cX11_goBack 59 = .ok (.iconst 1, 1) := by decide +kernel
theorem dX11_goBack_60 : decode cX11_goBack 60 = .ok (.ireturn, 1) := by decide +kernel
theorem dX11_isWord_0 : decode cX11_isWord 0 = .ok (.iload_n 0, 1) := by decide +kernel
theorem dX11_isWord_1 : decode cX11_isWord 1 = .ok (.ifCond .lt 12, 3) := by decide +kernel
theorem dX11_isWord_4 : decode cX11_isWord 4 = .ok (.iload_n 0, 1) := by decide +kernel
theorem dX11_isWord_5 : decode cX11_isWord 5 = .ok (.iconst 4, 1) := by decide +kernel
theorem dX11_isWord_6 : decode cX11_isWord 6 = .ok (.if_icmp .ge 7, 3) := by decide +kernel
theorem dX11_isWord_9 : decode cX11_isWord 9 = .ok (.iconst 1, 1) := by decide +kernel
theorem dX11_isWord_10 : decode cX11_isWord 10 = .ok (.goto 4, 3) := by decide +kernel
theorem dX11_isWord_13 : decode cX11_isWord 13 = .ok (.iconst 0, 1) := by decide +kernel
theorem dX11_isWord_14 : decode cX11_isWord 14 = .ok (.ireturn, 1) := by decide +kernel
theorem dX11_wordOf_0 : decode cX11_wordOf 0 = .ok (.iload_n 0, 1) := by decide +kernel
theorem dX11_wordOf_1 : decode cX11_wordOf 1 = .ok (.iconst 2, 1) := by decide +kernel
theorem dX11_wordOf_2 : decode cX11_wordOf 2 = .ok (.iload_n 1, 1) := by decide +kernel
theorem dX11_wordOf_3 : decode cX11_wordOf 3 = .ok (.iconst 1, 1) := by decide +kernel
theorem dX11_wordOf_4 : decode cX11_wordOf 4 = .ok (.isub, 1) := by decide +kernel
theorem dX11_wordOf_5 : decode cX11_wordOf 5 = .ok (.iload_n 2, 1) := by decide +kernel
theorem dX11_wordOf_6 : decode cX11_wordOf 6 = .ok (.isub, 1) := by decide +kernel
theorem dX11_wordOf_7 : decode cX11_wordOf 7 = .ok (.imul, 1) := by decide +kernel
theorem dX11_wordOf_8 : decode cX11_wordOf 8 = .ok (.ishr, 1) := by decide +kernel
theorem dX11_wordOf_9 : decode cX11_wordOf 9 = .ok (.iconst 3, 1) := by decide +kernel
theorem dX11_wordOf_10 : decode cX11_wordOf 10 = .ok (.iand, 1) := by decide +kernel
theorem dX11_wordOf_11 : decode cX11_wordOf 11 = .ok (.ireturn, 1) := by decide +kernel
theorem dX11_hoursRefused_0 : decode cX11_hoursRefused 0 = .ok (.aload_n 0, 1) := by decide +kernel
theorem dX11_hoursRefused_1 : decode cX11_hoursRefused 1 = .ok (.getfield 24, 3) := by decide +kernel
theorem dX11_hoursRefused_4 : decode cX11_hoursRefused 4 = .ok (.getfield 136, 3) := by decide +kernel
theorem dX11_hoursRefused_7 : decode cX11_hoursRefused 7 = .ok (.ifCond .ne 6, 3) := by decide +kernel
theorem dX11_hoursRefused_10 : decode cX11_hoursRefused 10 = .ok (.ldc 208, 2) := by decide +kernel
theorem dX11_hoursRefused_12 : decode cX11_hoursRefused 12 = .ok (.ireturn, 1) := by decide +kernel
theorem dX11_hoursRefused_13 : decode cX11_hoursRefused 13 = .ok (.aload_n 0, 1) := by decide +kernel
theorem dX11_hoursRefused_14 : decode cX11_hoursRefused 14 = .ok (.getfield 28, 3) := by decide +kernel
theorem dX11_hoursRefused_17 : decode cX11_hoursRefused 17 = .ok (.getfield 145, 3) := by decide +kernel
theorem dX11_hoursRefused_20 : decode cX11_hoursRefused 20 = .ok (.ldc_w 319, 3) := by decide +kernel
theorem dX11_hoursRefused_23 : decode cX11_hoursRefused 23 = .ok (.if_icmp .le 8, 3) := by decide +kernel
theorem dX11_hoursRefused_26 : decode cX11_hoursRefused 26 = .ok (.ldc 105, 2) := by decide +kernel
theorem dX11_hoursRefused_28 : decode cX11_hoursRefused 28 = .ok (.goto 4, 3) := by decide +kernel
theorem dX11_hoursRefused_31 : decode cX11_hoursRefused 31 = .ok (.iconst 0, 1) := by decide +kernel
theorem dX11_hoursRefused_32 : decode cX11_hoursRefused 32 = .ok (.ireturn, 1) := by decide +kernel
theorem dX11_goOn_0 : decode cX11_goOn 0 = .ok (.aload_n 0, 1) := by decide +kernel
theorem dX11_goOn_1 : decode cX11_goOn 1 = .ok (.getfield 38, 3) := by decide +kernel
theorem dX11_goOn_4 : decode cX11_goOn 4 = .ok (.aload_n 0, 1) := by decide +kernel
theorem dX11_goOn_5 : decode cX11_goOn 5 = .ok (.getfield 28, 3) := by decide +kernel
theorem dX11_goOn_8 : decode cX11_goOn 8 = .ok (.invokevirtual 209, 3) := by decide +kernel
theorem dX11_goOn_11 : decode cX11_goOn 11 = .ok (.aload_n 0, 1) := by decide +kernel
theorem dX11_goOn_12 : decode cX11_goOn 12 = .ok (.getfield 28, 3) := by decide +kernel
theorem dX11_goOn_15 : decode cX11_goOn 15 = .ok (.iload_n 1, 1) := by decide +kernel
theorem dX11_goOn_16 : decode cX11_goOn 16 = .ok (.invokevirtual 320, 3) := by decide +kernel
theorem dX11_goOn_19 : decode cX11_goOn 19 = .ok (.return_, 1) := by decide +kernel
theorem dX11_drawOfSix_0 : decode cX11_drawOfSix 0 = .ok (.aload_n 0, 1) := by decide +kernel
theorem dX11_drawOfSix_1 : decode cX11_drawOfSix 1 = .ok (.aload_n 0, 1) := by decide +kernel
theorem dX11_drawOfSix_2 : decode cX11_drawOfSix 2 = .ok (.getfield 93, 3) := by decide +kernel
theorem dX11_drawOfSix_5 : decode cX11_drawOfSix 5 = .ok (.i2l, 1) := by decide +kernel
theorem dX11_drawOfSix_6 : decode cX11_drawOfSix 6 = .ok (.ldc2_w 323, 3) := by decide +kernel
theorem dX11_drawOfSix_9 : decode cX11_drawOfSix 9 = .ok (.lmul, 1) := by decide +kernel
theorem dX11_drawOfSix_10 : decode cX11_drawOfSix 10 = .ok (.ldc2_w 325, 3) := by decide +kernel
theorem dX11_drawOfSix_13 : decode cX11_drawOfSix 13 = .ok (.ladd, 1) := by decide +kernel
theorem dX11_drawOfSix_14 : decode cX11_drawOfSix 14 = .ok (.ldc2_w 327, 3) := by decide +kernel
theorem dX11_drawOfSix_17 : decode cX11_drawOfSix 17 = .ok (.land, 1) := by decide +kernel
theorem dX11_drawOfSix_18 : decode cX11_drawOfSix 18 = .ok (.l2i, 1) := by decide +kernel
theorem dX11_drawOfSix_19 : decode cX11_drawOfSix 19 = .ok (.putfield 93, 3) := by decide +kernel
theorem dX11_drawOfSix_22 : decode cX11_drawOfSix 22 = .ok (.aload_n 0, 1) := by decide +kernel
theorem dX11_drawOfSix_23 : decode cX11_drawOfSix 23 = .ok (.getfield 93, 3) := by decide +kernel
theorem dX11_drawOfSix_26 : decode cX11_drawOfSix 26 = .ok (.ldc_w 329, 3) := by decide +kernel
theorem dX11_drawOfSix_29 : decode cX11_drawOfSix 29 = .ok (.idiv, 1) := by decide +kernel
theorem dX11_drawOfSix_30 : decode cX11_drawOfSix 30 = .ok (.bipush 6, 2) := by decide +kernel
theorem dX11_drawOfSix_32 : decode cX11_drawOfSix 32 = .ok (.irem, 1) := by decide +kernel
theorem dX11_drawOfSix_33 : decode cX11_drawOfSix 33 = .ok (.ireturn, 1) := by decide +kernel
end
section
theorem dX12_in_0 : decode cX12_in 0 = .ok (.lload_n 0, 1) := by decide +kernel
theorem dX12_in_1 : decode cX12_in 1 = .ok (.lload_n 2, 1) := by decide +kernel
theorem dX12_in_2 : decode cX12_in 2 = .ok (.lcmp, 1) := by decide +kernel
theorem dX12_in_3 : decode cX12_in 3 = .ok (.ifCond .lt 14, 3) := by decide +kernel
theorem dX12_in_6 : decode cX12_in 6 = .ok (.lload_n 0, 1) := by decide +kernel
theorem dX12_in_7 : decode cX12_in 7 = .ok (.lload 4, 2) := by decide +kernel
theorem dX12_in_9 : decode cX12_in 9 = .ok (.lcmp, 1) := by decide +kernel
theorem dX12_in_10 : decode cX12_in 10 = .ok (.ifCond .gt 7, 3) := by decide +kernel
theorem dX12_in_13 : decode cX12_in 13 = .ok (.iconst 1, 1) := by decide +kernel
theorem dX12_in_14 : decode cX12_in 14 = .ok (.goto 4, 3) := by decide +kernel
theorem dX12_in_17 : decode cX12_in 17 = .ok (.iconst 0, 1) := by decide +kernel
theorem dX12_in_18 : decode cX12_in 18 = .ok (.ireturn, 1) := by decide +kernel
theorem dX12_init_0 : decode cX12_init 0 = .ok (.aload_n 0, 1) := by decide +kernel
theorem dX12_init_1 : decode cX12_init 1 = .ok (.invokespecial 1, 3) := by decide +kernel
theorem dX12_init_4 : decode cX12_init 4 = .ok (.aload_n 0, 1) := by decide +kernel
theorem dX12_init_5 : decode cX12_init 5 = .ok (.bipush 44, 2) := by decide +kernel
theorem dX12_init_7 : decode cX12_init 7 = .ok (.newarray .int, 2) := by decide +kernel
theorem dX12_init_9 : decode cX12_init 9 = .ok (.putfield 7, 3) := by decide +kernel
theorem dX12_init_12 : decode cX12_init 12 = .ok (.aload_n 0, 1) := by decide +kernel
theorem dX12_init_13 : decode cX12_init 13 = .ok (.bipush 44, 2) := by decide +kernel
theorem dX12_init_15 : decode cX12_init 15 = .ok (.newarray .int, 2) := by decide +kernel
theorem dX12_init_17 : decode cX12_init 17 = .ok (.putfield 13, 3) := by decide +kernel
theorem dX12_init_20 : decode cX12_init 20 = .ok (.aload_n 0, 1) := by decide +kernel
theorem dX12_init_21 : decode cX12_init 21 = .ok (.sipush 200, 3) := by decide +kernel
theorem dX12_init_24 : decode cX12_init 24 = .ok (.newarray .int, 2) := by decide +kernel
theorem dX12_init_26 : decode cX12_init 26 = .ok (.putfield 16, 3) := by decide +kernel
theorem dX12_init_29 : decode cX12_init 29 = .ok (.aload_n 0, 1) := by decide +kernel
theorem dX12_init_30 : decode cX12_init 30 = .ok (.bipush 13, 2) := by decide +kernel
theorem dX12_init_32 : decode cX12_init 32 = .ok (.newarray .int, 2) := by decide +kernel
theorem dX12_init_34 : decode cX12_init 34 = .ok (.putfield 19, 3) := by decide +kernel
theorem dX12_init_37 : decode cX12_init 37 = .ok (.aload_n 0, 1) := by decide +kernel
theorem dX12_init_38 : decode cX12_init 38 = .ok (.bipush 6, 2) := by decide +kernel
theorem dX12_init_40 : decode cX12_init 40 = .ok (.newarray .int, 2) := by decide +kernel
theorem dX12_init_42 : decode cX12_init 42 = .ok (.putfield 22, 3) := by decide +kernel
theorem dX12_init_45 : decode cX12_init 45 = .ok (.aload_n 0, 1) := by decide +kernel
theorem dX12_init_46 : decode cX12_init 46 = .ok (.sipush 390, 3) := by decide +kernel
theorem dX12_init_49 : decode cX12_init 49 = .ok (.newarray .int, 2) := by decide +kernel
theorem dX12_init_51 : decode cX12_init 51 = .ok (.putfield 25, 3) := by decide +kernel
theorem dX12_init_54 : decode cX12_init 54 = .ok (.aload_n 0, 1) := by decide +kernel
theorem dX12_init_55 : decode cX12_init 55 = .ok (.bipush 13, 2) := by decide +kernel
theorem dX12_init_57 : decode cX12_init 57 = .ok (.newarray .int, 2) := by decide +kernel
theorem dX12_init_59 : decode cX12_init 59 = .ok (.putfield 28, 3) := by decide +kernel
theorem dX12_init_62 : decode cX12_init 62 = .ok (.aload_n 0, 1) := by decide +kernel
theorem dX12_init_63 : decode cX12_init 63 = .ok (.bipush 6, 2) := by decide +kernel
theorem dX12_init_65 : decode cX12_init 65 = .ok (.newarray .int, 2) := by decide +kernel
theorem dX12_init_67 : decode cX12_init 67 = .ok (.putfield 31, 3) := by decide +kernel
theorem dX12_init_70 : decode cX12_init 70 = .ok (.aload_n 0, 1) := by decide +kernel
theorem dX12_init_71 : decode cX12_init 71 = .ok (.bipush 6, 2) := by decide +kernel
theorem dX12_init_73 : decode cX12_init 73 = .ok (.newarray .int, 2) := by decide +kernel
theorem dX12_init_75 : decode cX12_init 75 = .ok (.putfield 34, 3) := by decide +kernel
theorem dX12_init_78 : decode cX12_init 78 = .ok (.aload_n 0, 1) := by decide +kernel
theorem dX12_init_79 : decode cX12_init 79 = .ok (.bipush 6, 2) := by decide +kernel
theorem dX12_init_81 : decode cX12_init 81 = .ok (.newarray .int, 2) := by decide +kernel
theorem dX12_init_83 : decode cX12_init 83 = .ok (.putfield 37, 3) := by decide +kernel
theorem dX12_init_86 : decode cX12_init 86 = .ok (.aload_n 0, 1) := by decide +kernel
theorem dX12_init_87 : decode cX12_init 87 = .ok (.sipush 2412, 3) := by decide +kernel
theorem dX12_init_90 : decode cX12_init 90 = .ok (.newarray .int, 2) := by decide +kernel
theorem dX12_init_92 : decode cX12_init 92 = .ok (.putfield 40, 3) := by decide +kernel
theorem dX12_init_95 : decode cX12_init 95 = .ok (.aload_n 0, 1) := by decide +kernel
theorem dX12_init_96 : decode cX12_init 96 = .ok (.bipush 6, 2) := by decide +kernel
theorem dX12_init_98 : decode cX12_init 98 = .ok (.newarray .int, 2) := by decide +kernel
theorem dX12_init_100 : decode cX12_init 100 = .ok (.putfield 43, 3) := by decide +kernel
theorem dX12_init_103 : decode cX12_init 103 = .ok (.aload_n 0, 1) := by decide +kernel
theorem dX12_init_104 : decode cX12_init 104 = .ok (.bipush 6, 2) := by decide +kernel
theorem dX12_init_106 : decode cX12_init 106 = .ok (.newarray .int, 2) := by decide +kernel
theorem dX12_init_108 : decode cX12_init 108 = .ok (.putfield 46, 3) := by decide +kernel
theorem dX12_init_111 : decode cX12_init 111 = .ok (.aload_n 0, 1) := by decide +kernel
theorem dX12_init_112 : decode cX12_init 112 = .ok (.bipush 20, 2) := by decide +kernel
theorem dX12_init_114 : decode cX12_init 114 = .ok (.newarray .int, 2) := by decide +kernel
theorem dX12_init_116 : decode cX12_init 116 = .ok (.putfield 49, 3) := by decide +kernel
theorem dX12_init_119 : decode cX12_init 119 = .ok (.aload_n 0, 1) := by decide +kernel
theorem dX12_init_120 : decode cX12_init 120 = .ok (.bipush 30, 2) := by decide +kernel
theorem dX12_init_122 : decode cX12_init 122 = .ok (.newarray .int, 2) := by decide +kernel
theorem dX12_init_124 : decode cX12_init 124 = .ok (.putfield 52, 3) := by decide +kernel
theorem dX12_init_127 : decode cX12_init 127 = .ok (.aload_n 0, 1) := by decide +kernel
theorem dX12_init_128 : decode cX12_init 128 = .ok (.iconst (-1), 1) := by decide +kernel
theorem dX12_init_129 : decode cX12_init 129 = .ok (.putfield 55, 3) := by decide +kernel
theorem dX12_init_132 : decode cX12_init 132 = .ok (.aload_n 0, 1) := by decide +kernel
theorem dX12_init_133 : decode cX12_init 133 = .ok (.invokevirtual 59, 3) := by decide +kernel
theorem dX12_init_136 : decode cX12_init 136 = .ok (.aload_n 0, 1) := by decide +kernel
theorem dX12_init_137 : decode cX12_init 137 = .ok (.invokevirtual 62, 3) := by decide +kernel
theorem dX12_init_140 : decode cX12_init 140 = .ok (.return_, 1) := by decide +kernel
theorem dX12_plain_0 : decode cX12_plain 0 = .ok (.iconst 0, 1) := by decide +kernel
theorem dX12_plain_1 : decode cX12_plain 1 = .ok (.istore_n 1, 1) := by decide +kernel
theorem dX12_plain_2 : decode cX12_plain 2 = .ok (.iload_n 1, 1) := by decide +kernel
theorem dX12_plain_3 : decode cX12_plain 3 = .ok (.bipush 44, 2) := by decide +kernel
theorem dX12_plain_5 : decode cX12_plain 5 = .ok (.if_icmp .ge 16, 3) := by decide +kernel
theorem dX12_plain_8 : decode cX12_plain 8 = .ok (.aload_n 0, 1) := by decide +kernel
theorem dX12_plain_9 : decode cX12_plain 9 = .ok (.getfield 7, 3) := by decide +kernel
theorem dX12_plain_12 : decode cX12_plain 12 = .ok (.iload_n 1, 1) := by decide +kernel
theorem dX12_plain_13 : decode cX12_plain 13 = .ok (.iconst 0, 1) := by decide +kernel
theorem dX12_plain_14 : decode cX12_plain 14 = .ok (.iastore, 1) := by decide +kernel
theorem dX12_plain_15 : decode cX12_plain 15 = .ok (.iinc 1 1, 3) := by decide +kernel
theorem dX12_plain_18 : decode cX12_plain 18 = .ok (.goto (-16), 3) := by decide +kernel
theorem dX12_plain_21 : decode cX12_plain 21 = .ok (.aload_n 0, 1) := by decide +kernel
theorem dX12_plain_22 : decode cX12_plain 22 = .ok (.getfield 7, 3) := by decide +kernel
theorem dX12_plain_25 : decode cX12_plain 25 = .ok (.iconst 3, 1) := by decide +kernel
theorem dX12_plain_26 : decode cX12_plain 26 = .ok (.iconst 1, 1) := by decide +kernel
theorem dX12_plain_27 : decode cX12_plain 27 = .ok (.iastore, 1) := by decide +kernel
theorem dX12_plain_28 : decode cX12_plain 28 = .ok (.return_, 1) := by decide +kernel
theorem dX12_feed_0 : decode cX12_feed 0 = .ok (.iload_n 1, 1) := by decide +kernel
theorem dX12_feed_1 : decode cX12_feed 1 = .ok (.i2l, 1) := by decide +kernel
theorem dX12_feed_2 : decode cX12_feed 2 = .ok (.lconst 0, 1) := by decide +kernel
theorem dX12_feed_3 : decode cX12_feed 3 = .ok (.ldc2_w 65, 3) := by decide +kernel
theorem dX12_feed_6 : decode cX12_feed 6 = .ok (.invokestatic 67, 3) := by decide +kernel
theorem dX12_feed_9 : decode cX12_feed 9 = .ok (.ifCond .ne 6, 3) := by decide +kernel
theorem dX12_feed_12 : decode cX12_feed 12 = .ok (.ldc 71, 2) := by decide +kernel
theorem dX12_feed_14 : decode cX12_feed 14 = .ok (.ireturn, 1) := by decide +kernel
theorem dX12_feed_15 : decode cX12_feed 15 = .ok (.aload_n 0, 1) := by decide +kernel
theorem dX12_feed_16 : decode cX12_feed 16 = .ok (.getfield 72, 3) := by decide +kernel
theorem dX12_feed_19 : decode cX12_feed 19 = .ok (.sipush 200, 3) := by decide +kernel
theorem dX12_feed_22 : decode cX12_feed 22 = .ok (.if_icmp .ne 6, 3) := by decide +kernel
theorem dX12_feed_25 : decode cX12_feed 25 = .ok (.ldc 75, 2) := by decide +kernel
theorem dX12_feed_27 : decode cX12_feed 27 = .ok (.ireturn, 1) := by decide +kernel
theorem dX12_feed_28 : decode cX12_feed 28 = .ok (.aload_n 0, 1) := by decide +kernel
theorem dX12_feed_29 : decode cX12_feed 29 = .ok (.getfield 16, 3) := by decide +kernel
theorem dX12_feed_32 : decode cX12_feed 32 = .ok (.aload_n 0, 1) := by decide +kernel
theorem dX12_feed_33 : decode cX12_feed 33 = .ok (.getfield 72, 3) := by decide +kernel
theorem dX12_feed_36 : decode cX12_feed 36 = .ok (.iload_n 1, 1) := by decide +kernel
theorem dX12_feed_37 : decode cX12_feed 37 = .ok (.iastore, 1) := by decide +kernel
theorem dX12_feed_38 : decode cX12_feed 38 = .ok (.aload_n 0, 1) := by decide +kernel
theorem dX12_feed_39 : decode cX12_feed 39 = .ok (.dup, 1) := by decide +kernel
theorem dX12_feed_40 : decode cX12_feed 40 = .ok (.getfield 72, 3) := by decide +kernel
theorem dX12_feed_43 : decode cX12_feed 43 = .ok (.iconst 1, 1) := by decide +kernel
theorem dX12_feed_44 : decode cX12_feed 44 = .ok (.iadd, 1) := by decide +kernel
theorem dX12_feed_45 : decode cX12_feed 45 = .ok (.putfield 72, 3) := by decide +kernel
theorem dX12_feed_48 : decode cX12_feed 48 = .ok (.aload_n 0, 1) := by decide +kernel
theorem dX12_feed_49 : decode cX12_feed 49 = .ok (.getfield 72, 3) := by decide +kernel
theorem dX12_feed_52 : decode cX12_feed 52 = .ok (.ireturn, 1) := by decide +kernel
theorem dX12_here_0 : decode cX12_here 0 = .ok (.aload_n 0, 1) := by decide +kernel
theorem dX12_here_1 : decode cX12_here 1 = .ok (.getfield 76, 3) := by decide +kernel
theorem dX12_here_4 : decode cX12_here 4 = .ok (.aload_n 0, 1) := by decide +kernel
theorem dX12_here_5 : decode cX12_here 5 = .ok (.getfield 72, 3) := by decide +kernel
theorem dX12_here_8 : decode cX12_here 8 = .ok (.if_icmp .ge 30, 3) := by decide +kernel
theorem dX12_here_11 : decode cX12_here 11 = .ok (.aload_n 0, 1) := by decide +kernel
theorem dX12_here_12 : decode cX12_here 12 = .ok (.getfield 16, 3) := by decide +kernel
theorem dX12_here_15 : decode cX12_here 15 = .ok (.aload_n 0, 1) := by decide +kernel
theorem dX12_here_16 : decode cX12_here 16 = .ok (.getfield 76, 3) := by decide +kernel
theorem dX12_here_19 : decode cX12_here 19 = .ok (.iaload, 1) := by decide +kernel
theorem dX12_here_20 : decode cX12_here 20 = .ok (.bipush 32, 2) := by decide +kernel
theorem dX12_here_22 : decode cX12_here 22 = .ok (.if_icmp .ne 16, 3) := by decide +kernel
theorem dX12_here_25 : decode cX12_here 25 = .ok (.aload_n 0, 1) := by decide +kernel
theorem dX12_here_26 : decode cX12_here 26 = .ok (.dup, 1) := by decide +kernel
theorem dX12_here_27 : decode cX12_here 27 = .ok (.getfield 76, 3) := by decide +kernel
theorem dX12_here_30 : decode cX12_here 30 = .ok (.iconst 1, 1) := by decide +kernel
theorem dX12_here_31 : decode cX12_here 31 = .ok (.iadd, 1) := by decide +kernel
theorem dX12_here_32 : decode cX12_here 32 = .ok (.putfield 76, 3) := by decide +kernel
theorem dX12_here_35 : decode cX12_here 35 = .ok (.goto (-35), 3) := by decide +kernel
theorem dX12_here_38 : decode cX12_here 38 = .ok (.aload_n 0, 1) := by decide +kernel
theorem dX12_here_39 : decode cX12_here 39 = .ok (.getfield 76, 3) := by decide +kernel
theorem dX12_here_42 : decode cX12_here 42 = .ok (.aload_n 0, 1) := by decide +kernel
theorem dX12_here_43 : decode cX12_here 43 = .ok (.getfield 72, 3) := by decide +kernel
theorem dX12_here_46 : decode cX12_here 46 = .ok (.if_icmp .ge 15, 3) := by decide +kernel
theorem dX12_here_49 : decode cX12_here 49 = .ok (.aload_n 0, 1) := by decide +kernel
theorem dX12_here_50 : decode cX12_here 50 = .ok (.getfield 16, 3) := by decide +kernel
theorem dX12_here_53 : decode cX12_here 53 = .ok (.aload_n 0, 1) := by decide +kernel
theorem dX12_here_54 : decode cX12_here 54 = .ok (.getfield 76, 3) := by decide +kernel
theorem dX12_here_57 : decode cX12_here 57 = .ok (.iaload, 1) := by decide +kernel
theorem dX12_here_58 : decode cX12_here 58 = .ok (.goto 4, 3) := by decide +kernel
theorem dX12_here_61 : decode cX12_here 61 = .ok (.iconst (-1), 1) := by decide +kernel
theorem dX12_here_62 : decode cX12_here 62 = .ok (.ireturn, 1) := by decide +kernel
theorem dX12_faults_0 : decode cX12_faults 0 = .ok (.aload_n 0, 1) := by decide +kernel
theorem dX12_faults_1 : decode cX12_faults 1 = .ok (.getfield 79, 3) := by decide +kernel
theorem dX12_faults_4 : decode cX12_faults 4 = .ok (.ifCond .ne 13, 3) := by decide +kernel
theorem dX12_faults_7 : decode cX12_faults 7 = .ok (.aload_n 0, 1) := by decide +kernel
theorem dX12_faults_8 : decode cX12_faults 8 = .ok (.iload_n 1, 1) := by decide +kernel
theorem dX12_faults_9 : decode cX12_faults 9 = .ok (.putfield 79, 3) := by decide +kernel
theorem dX12_faults_12 : decode cX12_faults 12 = .ok (.aload_n 0, 1) := by decide +kernel
theorem dX12_faults_13 : decode cX12_faults 13 = .ok (.iload_n 2, 1) := by decide +kernel
theorem dX12_faults_14 : decode cX12_faults 14 = .ok (.putfield 55, 3) := by decide +kernel
theorem dX12_faults_17 : decode cX12_faults 17 = .ok (.return_, 1) := by decide +kernel
theorem dX12_number_0 : decode cX12_number 0 = .ok (.aload_n 0, 1) := by decide +kernel
theorem dX12_number_1 : decode cX12_number 1 = .ok (.getfield 79, 3) := by decide +kernel
theorem dX12_number_4 : decode cX12_number 4 = .ok (.ifCond .eq 5, 3) := by decide +kernel
theorem dX12_number_7 : decode cX12_number 7 = .ok (.iload_n 1, 1) := by decide +kernel
theorem dX12_number_8 : decode cX12_number 8 = .ok (.ireturn, 1) := by decide +kernel
theorem dX12_number_9 : decode cX12_number 9 = .ok (.aload_n 0, 1) := by decide +kernel
theorem dX12_number_10 : decode cX12_number 10 = .ok (.invokevirtual 82, 3) := by decide +kernel
theorem dX12_number_13 : decode cX12_number 13 = .ok (.i2l, 1) := by decide +kernel
theorem dX12_number_14 : decode cX12_number 14 = .ok (.ldc2_w 86, 3) := by decide +kernel
theorem dX12_number_17 : decode cX12_number 17 = .ok (.ldc2_w 88, 3) := by decide +kernel
theorem dX12_number_20 : decode cX12_number 20 = .ok (.invokestatic 67, 3) := by decide +kernel
theorem dX12_number_23 : decode cX12_number 23 = .ok (.ifCond .ne 14, 3) := by decide +kernel
theorem dX12_number_26 : decode cX12_number 26 = .ok (.aload_n 0, 1) := by decide +kernel
theorem dX12_number_27 : decode cX12_number 27 = .ok (.iconst 1, 1) := by decide +kernel
theorem dX12_number_28 : decode cX12_number 28 = .ok (.aload_n 0, 1) := by decide +kernel
theorem dX12_number_29 : decode cX12_number 29 = .ok (.getfield 76, 3) := by decide +kernel
theorem dX12_number_32 : decode cX12_number 32 = .ok (.invokevirtual 90, 3) := by decide +kernel
theorem dX12_number_35 : decode cX12_number 35 = .ok (.iload_n 1, 1) := by decide +kernel
theorem dX12_number_36 : decode cX12_number 36 = .ok (.ireturn, 1) := by decide +kernel
theorem dX12_number_37 : decode cX12_number 37 = .ok (.aload_n 0, 1) := by decide +kernel
theorem dX12_number_38 : decode cX12_number 38 = .ok (.aload_n 0, 1) := by decide +kernel
theorem dX12_number_39 : decode cX12_number 39 = .ok (.getfield 76, 3) := by decide +kernel
theorem dX12_number_42 : decode cX12_number 42 = .ok (.putfield 94, 3) := by decide +kernel
theorem dX12_number_45 : decode cX12_number 45 = .ok (.iconst 0, 1) := by decide +kernel
theorem dX12_number_46 : decode cX12_number 46 = .ok (.istore_n 3, 1) := by decide +kernel
theorem dX12_number_47 : decode cX12_number 47 = .ok (.aload_n 0, 1) := by decide +kernel
theorem dX12_number_48 : decode cX12_number 48 = .ok (.getfield 76, 3) := by decide +kernel
theorem dX12_number_51 : decode cX12_number 51 = .ok (.aload_n 0, 1) := by decide +kernel
theorem dX12_number_52 : decode cX12_number 52 = .ok (.getfield 72, 3) := by decide +kernel
theorem dX12_number_55 : decode cX12_number 55 = .ok (.if_icmp .ge 75, 3) := by decide +kernel
theorem dX12_number_58 : decode cX12_number 58 = .ok (.aload_n 0, 1) := by decide +kernel
theorem dX12_number_59 : decode cX12_number 59 = .ok (.getfield 16, 3) := by decide +kernel
theorem dX12_number_62 : decode cX12_number 62 = .ok (.aload_n 0, 1) := by decide +kernel
theorem dX12_number_63 : decode cX12_number 63 = .ok (.getfield 76, 3) := by decide +kernel
theorem dX12_number_66 : decode cX12_number 66 = .ok (.iaload, 1) := by decide +kernel
theorem dX12_number_67 : decode cX12_number 67 = .ok (.i2l, 1) := by decide +kernel
theorem dX12_number_68 : decode cX12_number 68 = .ok (.ldc2_w 86, 3) := by decide +kernel
theorem dX12_number_71 : decode cX12_number 71 = .ok (.ldc2_w 88, 3) := by decide +kernel
theorem dX12_number_74 : decode cX12_number 74 = .ok (.invokestatic 67, 3) := by decide +kernel
theorem dX12_number_77 : decode cX12_number 77 = .ok (.ifCond .eq 53, 3) := by decide +kernel
theorem dX12_number_80 : decode cX12_number 80 = .ok (.aload_n 0, 1) := by decide +kernel
theorem dX12_number_81 : decode cX12_number 81 = .ok (.getfield 76, 3) := by decide +kernel
theorem dX12_number_84 : decode cX12_number 84 = .ok (.aload_n 0, 1) := by decide +kernel
theorem dX12_number_85 : decode cX12_number 85 = .ok (.getfield 94, 3) := by decide +kernel
theorem dX12_number_88 : decode cX12_number 88 = .ok (.isub, 1) := by decide +kernel
theorem dX12_number_89 : decode cX12_number 89 = .ok (.iconst 2, 1) := by decide +kernel
theorem dX12_number_90 : decode cX12_number 90 = .ok (.if_icmp .le 9, 3) := by decide +kernel
theorem dX12_number_93 : decode cX12_number 93 = .ok (.sipush 9999, 3) := by decide +kernel
theorem dX12_number_96 : decode cX12_number 96 = .ok (.goto 20, 3) := by decide +kernel
theorem dX12_number_99 : decode cX12_number 99 = .ok (.bipush 10, 2) := by decide +kernel
theorem dX12_number_101 : decode cX12_number 101 = .ok (.iload_n 3, 1) := by decide +kernel
theorem dX12_number_102 : decode cX12_number 102 = .ok (.imul, 1) := by decide +kernel
theorem dX12_number_103 : decode cX12_number 103 = .ok (.aload_n 0, 1) := by decide +kernel
theorem dX12_number_104 : decode cX12_number 104 = .ok (.getfield 16, 3) := by decide +kernel
theorem dX12_number_107 : decode cX12_number 107 = .ok (.aload_n 0, 1) := by decide +kernel
theorem dX12_number_108 : decode cX12_number 108 = .ok (.getfield 76, 3) := by decide +kernel
theorem dX12_number_111 : decode cX12_number 111 = .ok (.iaload, 1) := by decide +kernel
theorem dX12_number_112 : decode cX12_number 112 = .ok (.iadd, 1) := by decide +kernel
theorem dX12_number_113 : decode cX12_number 113 = .ok (.bipush 48, 2) := by decide +kernel
theorem dX12_number_115 : decode cX12_number 115 = .ok (.isub, 1) := by decide +kernel
theorem dX12_number_116 : decode cX12_number 116 = .ok (.istore_n 3, 1) := by decide +kernel
theorem dX12_number_117 : decode cX12_number 117 = .ok (.aload_n 0, 1) := by decide +kernel
theorem dX12_number_118 : decode cX12_number 118 = .ok (.dup, 1) := by decide +kernel
theorem dX12_number_119 : decode cX12_number 119 = .ok (.getfield 76, 3) := by decide +kernel
theorem dX12_number_122 : decode cX12_number 122 = .ok (.iconst 1, 1) := by decide +kernel
theorem dX12_number_123 : decode cX12_number 123 = .ok (.iadd, 1) := by decide +kernel
theorem dX12_number_124 : decode cX12_number 124 = .ok (.putfield 76, 3) := by decide +kernel
theorem dX12_number_127 : decode cX12_number 127 = .ok (.goto (-80), 3) := by decide +kernel
theorem dX12_number_130 : decode cX12_number 130 = .ok (.iload_n 3, 1) := by decide +kernel
theorem dX12_number_131 : decode cX12_number 131 = .ok (.i2l, 1) := by decide +kernel
theorem dX12_number_132 : decode cX12_number 132 = .ok (.iload_n 1, 1) := by decide +kernel
theorem dX12_number_133 : decode cX12_number 133 = .ok (.i2l, 1) := by decide +kernel
theorem dX12_number_134 : decode cX12_number 134 = .ok (.iload_n 2, 1) := by decide +kernel
theorem dX12_number_135 : decode cX12_number 135 = .ok (.i2l, 1) := by decide +kernel
theorem dX12_number_136 : decode cX12_number 136 = .ok (.invokestatic 67, 3) := by decide +kernel
theorem dX12_number_139 : decode cX12_number 139 = .ok (.ifCond .ne 12, 3) := by decide +kernel
theorem dX12_number_142 : decode cX12_number 142 = .ok (.aload_n 0, 1) := by decide +kernel
theorem dX12_number_143 : decode cX12_number 143 = .ok (.iconst 2, 1) := by decide +kernel
theorem dX12_number_144 : decode cX12_number 144 = .ok (.aload_n 0, 1) := by decide +kernel
theorem dX12_number_145 : decode cX12_number 145 = .ok (.getfield 94, 3) := by decide +kernel
theorem dX12_number_148 : decode cX12_number 148 = .ok (.invokevirtual 90, 3) := by decide +kernel
theorem dX12_number_151 : decode cX12_number 151 = .ok (.iload_n 3, 1) := by decide +kernel
theorem dX12_number_152 : decode cX12_number 152 = .ok (.ireturn, 1) := by decide +kernel
theorem dX12_readHeat_0 : decode cX12_readHeat 0 = .ok (.aload_n 0, 1) := by decide +kernel
theorem dX12_readHeat_1 : decode cX12_readHeat 1 = .ok (.iconst 0, 1) := by decide +kernel
theorem dX12_readHeat_2 : decode cX12_readHeat 2 = .ok (.aload_n 0, 1) := by decide +kernel
theorem dX12_readHeat_3 : decode cX12_readHeat 3 = .ok (.getfield 7, 3) := by decide +kernel
theorem dX12_readHeat_6 : decode cX12_readHeat 6 = .ok (.iconst 0, 1) := by decide +kernel
theorem dX12_readHeat_7 : decode cX12_readHeat 7 = .ok (.iaload, 1) := by decide +kernel
theorem dX12_readHeat_8 : decode cX12_readHeat 8 = .ok (.iconst 1, 1) := by decide +kernel
theorem dX12_readHeat_9 : decode cX12_readHeat 9 = .ok (.isub, 1) := by decide +kernel
theorem dX12_readHeat_10 : decode cX12_readHeat 10 = .ok (.invokevirtual 97, 3) := by decide +kernel
theorem dX12_readHeat_13 : decode cX12_readHeat 13 = .ok (.istore_n 1, 1) := by decide +kernel
theorem dX12_readHeat_14 : decode cX12_readHeat 14 = .ok (.aload_n 0, 1) := by decide +kernel
theorem dX12_readHeat_15 : decode cX12_readHeat 15 = .ok (.getfield 79, 3) := by decide +kernel
theorem dX12_readHeat_18 : decode cX12_readHeat 18 = .ok (.ifCond .ne 26, 3) := by decide +kernel
theorem dX12_readHeat_21 : decode cX12_readHeat 21 = .ok (.aload_n 0, 1) := by decide +kernel
theorem dX12_readHeat_22 : decode cX12_readHeat 22 = .ok (.getfield 7, 3) := by decide +kernel
theorem dX12_readHeat_25 : decode cX12_readHeat 25 = .ok (.iconst 5, 1) := by decide +kernel
theorem dX12_readHeat_26 : decode cX12_readHeat 26 = .ok (.iaload, 1) := by decide +kernel
theorem dX12_readHeat_27 : decode cX12_readHeat 27 = .ok (.iload_n 1, 1) := by decide +kernel
theorem dX12_readHeat_28 : decode cX12_readHeat 28 = .ok (.ishr, 1) := by decide +kernel
theorem dX12_readHeat_29 : decode cX12_readHeat 29 = .ok (.iconst 1, 1) := by decide +kernel
theorem dX12_readHeat_30 : decode cX12_readHeat 30 = .ok (.iand, 1) := by decide +kernel
theorem dX12_readHeat_31 : decode cX12_readHeat 31 = .ok (.iconst 1, 1) := by decide +kernel
theorem dX12_readHeat_32 : decode cX12_readHeat 32 = .ok (.if_icmp .ne 12, 3) := by decide +kernel
theorem dX12_readHeat_35 : decode cX12_readHeat 35 = .ok (.aload_n 0, 1) := by decide +kernel
theorem dX12_readHeat_36 : decode cX12_readHeat 36 = .ok (.iconst 4, 1) := by decide +kernel
theorem dX12_readHeat_37 : decode cX12_readHeat 37 = .ok (.aload_n 0, 1) := by decide +kernel
theorem dX12_readHeat_38 : decode cX12_readHeat 38 = .ok (.getfield 94, 3) := by decide +kernel
theorem dX12_readHeat_41 : decode cX12_readHeat 41 = .ok (.invokevirtual 90, 3) := by decide +kernel
theorem dX12_readHeat_44 : decode cX12_readHeat 44 = .ok (.aload_n 0, 1) := by decide +kernel
theorem dX12_readHeat_45 : decode cX12_readHeat 45 = .ok (.iconst 0, 1) := by decide +kernel
theorem dX12_readHeat_46 : decode cX12_readHeat 46 = .ok (.bipush 9, 2) := by decide +kernel
theorem dX12_readHeat_48 : decode cX12_readHeat 48 = .ok (.invokevirtual 97, 3) := by decide +kernel
theorem dX12_readHeat_51 : decode cX12_readHeat 51 = .ok (.istore_n 2, 1) := by decide +kernel
theorem dX12_readHeat_52 : decode cX12_readHeat 52 = .ok (.aload_n 0, 1) := by decide +kernel
theorem dX12_readHeat_53 : decode cX12_readHeat 53 = .ok (.getfield 79, 3) := by decide +kernel
theorem dX12_readHeat_56 : decode cX12_readHeat 56 = .ok (.ifCond .ne 25, 3) := by decide +kernel
theorem dX12_readHeat_59 : decode cX12_readHeat 59 = .ok (.aload_n 0, 1) := by decide +kernel
theorem dX12_readHeat_60 : decode cX12_readHeat 60 = .ok (.getfield 7, 3) := by decide +kernel
theorem dX12_readHeat_63 : decode cX12_readHeat 63 = .ok (.bipush 6, 2) := by decide +kernel
theorem dX12_readHeat_65 : decode cX12_readHeat 65 = .ok (.iload_n 1, 1) := by decide +kernel
theorem dX12_readHeat_66 : decode cX12_readHeat 66 = .ok (.iadd, 1) := by decide +kernel
theorem dX12_readHeat_67 : decode cX12_readHeat 67 = .ok (.iload_n 2, 1) := by decide +kernel
theorem dX12_readHeat_68 : decode cX12_readHeat 68 = .ok (.iastore, 1) := by decide +kernel
theorem dX12_readHeat_69 : decode cX12_readHeat 69 = .ok (.aload_n 0, 1) := by decide +kernel
theorem dX12_readHeat_70 : decode cX12_readHeat 70 = .ok (.getfield 7, 3) := by decide +kernel
theorem dX12_readHeat_73 : decode cX12_readHeat 73 = .ok (.iconst 5, 1) := by decide +kernel
theorem dX12_readHeat_74 : decode cX12_readHeat 74 = .ok (.dup2, 1) := by decide +kernel
theorem dX12_readHeat_75 : decode cX12_readHeat 75 = .ok (.iaload, 1) := by decide +kernel
theorem dX12_readHeat_76 : decode cX12_readHeat 76 = .ok (.iconst 1, 1) := by decide +kernel
theorem dX12_readHeat_77 : decode cX12_readHeat 77 = .ok (.iload_n 1, 1) := by decide +kernel
theorem dX12_readHeat_78 : decode cX12_readHeat 78 = .ok (.ishl, 1) := by decide +kernel
theorem dX12_readHeat_79 : decode cX12_readHeat 79 = .ok (.ior, 1) := by decide +kernel
theorem dX12_readHeat_80 : decode cX12_readHeat 80 = .ok (.iastore, 1) := by decide +kernel
theorem dX12_readHeat_81 : decode cX12_readHeat 81 = .ok (.return_, 1) := by decide +kernel
theorem dX12_readSleeper_0 : decode cX12_readSleeper 0 = .ok (.bipush 12, 2) := by decide +kernel
theorem dX12_readSleeper_2 : decode cX12_readSleeper 2 = .ok (.iconst 4, 1) := by decide +kernel
theorem dX12_readSleeper_3 : decode cX12_readSleeper 3 = .ok (.aload_n 0, 1) := by decide +kernel
theorem dX12_readSleeper_4 : decode cX12_readSleeper 4 = .ok (.getfield 7, 3) := by decide +kernel
theorem dX12_readSleeper_7 : decode cX12_readSleeper 7 = .ok (.iconst 2, 1) := by decide +kernel
theorem dX12_readSleeper_8 : decode cX12_readSleeper 8 = .ok (.iaload, 1) := by decide +kernel
theorem dX12_readSleeper_9 : decode cX12_readSleeper 9 = .ok (.imul, 1) := by decide +kernel
theorem dX12_readSleeper_10 : decode cX12_readSleeper 10 = .ok (.iadd, 1) := by decide +kernel
theorem dX12_readSleeper_11 : decode cX12_readSleeper 11 = .ok (.istore_n 1, 1) := by decide +kernel
theorem dX12_readSleeper_12 : decode cX12_readSleeper 12 = .ok (.aload_n 0, 1) := by decide +kernel
theorem dX12_readSleeper_13 : decode cX12_readSleeper 13 = .ok (.getfield 7, 3) := by decide +kernel
theorem dX12_readSleeper_16 : decode cX12_readSleeper 16 = .ok (.iload_n 1, 1) := by decide +kernel
theorem dX12_readSleeper_17 : decode cX12_readSleeper 17 = .ok (.aload_n 0, 1) := by decide +kernel
theorem dX12_readSleeper_18 : decode cX12_readSleeper 18 = .ok (.iconst 1, 1) := by decide +kernel
theorem dX12_readSleeper_19 : decode cX12_readSleeper 19 = .ok (.bipush 99, 2) := by decide +kernel
theorem dX12_readSleeper_21 : decode cX12_readSleeper 21 = .ok (.invokevirtual 97, 3) := by decide +kernel
theorem dX12_readSleeper_24 : decode cX12_readSleeper 24 = .ok (.iastore, 1) := by decide +kernel
theorem dX12_readSleeper_25 : decode cX12_readSleeper 25 = .ok (.aload_n 0, 1) := by decide +kernel
theorem dX12_readSleeper_26 : decode cX12_readSleeper 26 = .ok (.getfield 7, 3) := by decide +kernel
theorem dX12_readSleeper_29 : decode cX12_readSleeper 29 = .ok (.iload_n 1, 1) := by decide +kernel
theorem dX12_readSleeper_30 : decode cX12_readSleeper 30 = .ok (.iconst 1, 1) := by decide +kernel
theorem dX12_readSleeper_31 : decode cX12_readSleeper 31 = .ok (.iadd, 1) := by decide +kernel
theorem dX12_readSleeper_32 : decode cX12_readSleeper 32 = .ok (.aload_n 0, 1) := by decide +kernel
theorem dX12_readSleeper_33 : decode cX12_readSleeper 33 = .ok (.iconst 0, 1) := by decide +kernel
theorem dX12_readSleeper_34 : decode cX12_readSleeper 34 = .ok (.bipush 9, 2) := by decide +kernel
theorem dX12_readSleeper_36 : decode cX12_readSleeper 36 = .ok (.invokevirtual 97, 3) := by decide +kernel
theorem dX12_readSleeper_39 : decode cX12_readSleeper 39 = .ok (.iastore, 1) := by decide +kernel
theorem dX12_readSleeper_40 : decode cX12_readSleeper 40 = .ok (.aload_n 0, 1) := by decide +kernel
theorem dX12_readSleeper_41 : decode cX12_readSleeper 41 = .ok (.getfield 7, 3) := by decide +kernel
theorem dX12_readSleeper_44 : decode cX12_readSleeper 44 = .ok (.iload_n 1, 1) := by decide +kernel
theorem dX12_readSleeper_45 : decode cX12_readSleeper 45 = .ok (.iconst 2, 1) := by decide +kernel
theorem dX12_readSleeper_46 : decode cX12_readSleeper 46 = .ok (.iadd, 1) := by decide +kernel
theorem dX12_readSleeper_47 : decode cX12_readSleeper 47 = .ok (.aload_n 0, 1) := by decide +kernel
theorem dX12_readSleeper_48 : decode cX12_readSleeper 48 = .ok (.iconst 0, 1) := by decide +kernel
theorem dX12_readSleeper_49 : decode cX12_readSleeper 49 = .ok (.bipush 20, 2) := by decide +kernel
theorem dX12_readSleeper_51 : decode cX12_readSleeper 51 = .ok (.invokevirtual 97, 3) := by decide +kernel
theorem dX12_readSleeper_54 : decode cX12_readSleeper 54 = .ok (.iastore, 1) := by decide +kernel
theorem dX12_readSleeper_55 : decode cX12_readSleeper 55 = .ok (.aload_n 0, 1) := by decide +kernel
theorem dX12_readSleeper_56 : decode cX12_readSleeper 56 = .ok (.getfield 7, 3) := by decide +kernel
theorem dX12_readSleeper_59 : decode cX12_readSleeper 59 = .ok (.iload_n 1, 1) := by decide +kernel
theorem dX12_readSleeper_60 : decode cX12_readSleeper 60 = .ok (.iconst 3, 1) := by decide +kernel
theorem dX12_readSleeper_61 : decode cX12_readSleeper 61 = .ok (.iadd, 1) := by decide +kernel
theorem dX12_readSleeper_62 : decode cX12_readSleeper 62 = .ok (.aload_n 0, 1) := by decide +kernel
theorem dX12_readSleeper_63 : decode cX12_readSleeper 63 = .ok (.iconst 0, 1) := by decide +kernel
theorem dX12_readSleeper_64 : decode cX12_readSleeper 64 = .ok (.bipush 98, 2) := by decide +kernel
theorem dX12_readSleeper_66 : decode cX12_readSleeper 66 = .ok (.invokevirtual 97, 3) := by decide +kernel
theorem dX12_readSleeper_69 : decode cX12_readSleeper 69 = .ok (.iastore, 1) := by decide +kernel
theorem dX12_readSleeper_70 : decode cX12_readSleeper 70 = .ok (.aload_n 0, 1) := by decide +kernel
theorem dX12_readSleeper_71 : decode cX12_readSleeper 71 = .ok (.getfield 79, 3) := by decide +kernel
theorem dX12_readSleeper_74 : decode cX12_readSleeper 74 = .ok (.ifCond .ne 29, 3) := by decide +kernel
theorem dX12_readSleeper_77 : decode cX12_readSleeper 77 = .ok (.aload_n 0, 1) := by decide +kernel
theorem dX12_readSleeper_78 : decode cX12_readSleeper 78 = .ok (.getfield 7, 3) := by decide +kernel
theorem dX12_readSleeper_81 : decode cX12_readSleeper 81 = .ok (.iload_n 1, 1) := by decide +kernel
theorem dX12_readSleeper_82 : decode cX12_readSleeper 82 = .ok (.iconst 3, 1) := by decide +kernel
theorem dX12_readSleeper_83 : decode cX12_readSleeper 83 = .ok (.iadd, 1) := by decide +kernel
theorem dX12_readSleeper_84 : decode cX12_readSleeper 84 = .ok (.iaload, 1) := by decide +kernel
theorem dX12_readSleeper_85 : decode cX12_readSleeper 85 = .ok (.aload_n 0, 1) := by decide +kernel
theorem dX12_readSleeper_86 : decode cX12_readSleeper 86 = .ok (.getfield 7, 3) := by decide +kernel
theorem dX12_readSleeper_89 : decode cX12_readSleeper 89 = .ok (.iload_n 1, 1) := by decide +kernel
theorem dX12_readSleeper_90 : decode cX12_readSleeper 90 = .ok (.iaload, 1) := by decide +kernel
theorem dX12_readSleeper_91 : decode cX12_readSleeper 91 = .ok (.if_icmp .lt 12, 3) := by decide +kernel
theorem dX12_readSleeper_94 : decode cX12_readSleeper 94 = .ok (.aload_n 0, 1) := by decide +kernel
theorem dX12_readSleeper_95 : decode cX12_readSleeper 95 = .ok (.iconst 4, 1) := by decide +kernel
theorem dX12_readSleeper_96 : decode cX12_readSleeper 96 = .ok (.aload_n 0, 1) := by decide +kernel
theorem dX12_readSleeper_97 : decode cX12_readSleeper 97 = .ok (.getfield 94, 3) := by decide +kernel
theorem dX12_readSleeper_100 : decode cX12_readSleeper 100 = .ok (.invokevirtual 90, 3) := by decide +kernel
theorem dX12_readSleeper_103 : decode cX12_readSleeper 103 = .ok (.aload_n 0, 1) := by decide +kernel
theorem dX12_readSleeper_104 : decode cX12_readSleeper 104 = .ok (.getfield 7, 3) := by decide +kernel
theorem dX12_readSleeper_107 : decode cX12_readSleeper 107 = .ok (.iconst 2, 1) := by decide +kernel
theorem dX12_readSleeper_108 : decode cX12_readSleeper 108 = .ok (.dup2, 1) := by decide +kernel
theorem dX12_readSleeper_109 : decode cX12_readSleeper 109 = .ok (.iaload, 1) := by decide +kernel
theorem dX12_readSleeper_110 : decode cX12_readSleeper 110 = .ok (.iconst 1, 1) := by decide +kernel
theorem dX12_readSleeper_111 : decode cX12_readSleeper 111 = .ok (.iadd, 1) := by decide +kernel
theorem dX12_readSleeper_112 : decode cX12_readSleeper 112 = .ok (.iastore, 1) := by decide +kernel
theorem dX12_readSleeper_113 : decode cX12_readSleeper 113 = .ok (.return_, 1) := by decide +kernel
theorem dX12_readLaw_0 : decode cX12_readLaw 0 = .ok (.aload_n 0, 1) := by decide +kernel
theorem dX12_readLaw_1 : decode cX12_readLaw 1 = .ok (.getfield 7, 3) := by decide +kernel
theorem dX12_readLaw_4 : decode cX12_readLaw 4 = .ok (.iconst 4, 1) := by decide +kernel
theorem dX12_readLaw_5 : decode cX12_readLaw 5 = .ok (.iconst 1, 1) := by decide +kernel
theorem dX12_readLaw_6 : decode cX12_readLaw 6 = .ok (.iastore, 1) := by decide +kernel
theorem dX12_readLaw_7 : decode cX12_readLaw 7 = .ok (.aload_n 0, 1) := by decide +kernel
theorem dX12_readLaw_8 : decode cX12_readLaw 8 = .ok (.getfield 7, 3) := by decide +kernel
theorem dX12_readLaw_11 : decode cX12_readLaw 11 = .ok (.bipush 36, 2) := by decide +kernel
theorem dX12_readLaw_13 : decode cX12_readLaw 13 = .ok (.aload_n 0, 1) := by decide +kernel
theorem dX12_readLaw_14 : decode cX12_readLaw 14 = .ok (.iconst 0, 1) := by decide +kernel
theorem dX12_readLaw_15 : decode cX12_readLaw 15 = .ok (.iconst 3, 1) := by decide +kernel
theorem dX12_readLaw_16 : decode cX12_readLaw 16 = .ok (.invokevirtual 97, 3) := by decide +kernel
theorem dX12_readLaw_19 : decode cX12_readLaw 19 = .ok (.iastore, 1) := by decide +kernel
theorem dX12_readLaw_20 : decode cX12_readLaw 20 = .ok (.aload_n 0, 1) := by decide +kernel
theorem dX12_readLaw_21 : decode cX12_readLaw 21 = .ok (.getfield 7, 3) := by decide +kernel
theorem dX12_readLaw_24 : decode cX12_readLaw 24 = .ok (.iconst 3, 1) := by decide +kernel
theorem dX12_readLaw_25 : decode cX12_readLaw 25 = .ok (.iconst 1, 1) := by decide +kernel
theorem dX12_readLaw_26 : decode cX12_readLaw 26 = .ok (.iastore, 1) := by decide +kernel
theorem dX12_readLaw_27 : decode cX12_readLaw 27 = .ok (.aload_n 0, 1) := by decide +kernel
theorem dX12_readLaw_28 : decode cX12_readLaw 28 = .ok (.getfield 79, 3) := by decide +kernel
theorem dX12_readLaw_31 : decode cX12_readLaw 31 = .ok (.ifCond .ne 66, 3) := by decide +kernel
theorem dX12_readLaw_34 : decode cX12_readLaw 34 = .ok (.aload_n 0, 1) := by decide +kernel
theorem dX12_readLaw_35 : decode cX12_readLaw 35 = .ok (.getfield 7, 3) := by decide +kernel
theorem dX12_readLaw_38 : decode cX12_readLaw 38 = .ok (.iconst 3, 1) := by decide +kernel
theorem dX12_readLaw_39 : decode cX12_readLaw 39 = .ok (.iaload, 1) := by decide +kernel
theorem dX12_readLaw_40 : decode cX12_readLaw 40 = .ok (.bipush 8, 2) := by decide +kernel
theorem dX12_readLaw_42 : decode cX12_readLaw 42 = .ok (.if_icmp .ge 55, 3) := by decide +kernel
theorem dX12_readLaw_45 : decode cX12_readLaw 45 = .ok (.aload_n 0, 1) := by decide +kernel
theorem dX12_readLaw_46 : decode cX12_readLaw 46 = .ok (.invokevirtual 82, 3) := by decide +kernel
theorem dX12_readLaw_49 : decode cX12_readLaw 49 = .ok (.bipush 44, 2) := by decide +kernel
theorem dX12_readLaw_51 : decode cX12_readLaw 51 = .ok (.if_icmp .ne 46, 3) := by decide +kernel
theorem dX12_readLaw_54 : decode cX12_readLaw 54 = .ok (.aload_n 0, 1) := by decide +kernel
theorem dX12_readLaw_55 : decode cX12_readLaw 55 = .ok (.dup, 1) := by decide +kernel
theorem dX12_readLaw_56 : decode cX12_readLaw 56 = .ok (.getfield 76, 3) := by decide +kernel
theorem dX12_readLaw_59 : decode cX12_readLaw 59 = .ok (.iconst 1, 1) := by decide +kernel
theorem dX12_readLaw_60 : decode cX12_readLaw 60 = .ok (.iadd, 1) := by decide +kernel
theorem dX12_readLaw_61 : decode cX12_readLaw 61 = .ok (.putfield 76, 3) := by decide +kernel
theorem dX12_readLaw_64 : decode cX12_readLaw 64 = .ok (.aload_n 0, 1) := by decide +kernel
theorem dX12_readLaw_65 : decode cX12_readLaw 65 = .ok (.getfield 7, 3) := by decide +kernel
theorem dX12_readLaw_68 : decode cX12_readLaw 68 = .ok (.bipush 36, 2) := by decide +kernel
theorem dX12_readLaw_70 : decode cX12_readLaw 70 = .ok (.aload_n 0, 1) := by decide +kernel
theorem dX12_readLaw_71 : decode cX12_readLaw 71 = .ok (.getfield 7, 3) := by decide +kernel
theorem dX12_readLaw_74 : decode cX12_readLaw 74 = .ok (.iconst 3, 1) := by decide +kernel
theorem dX12_readLaw_75 : decode cX12_readLaw 75 = .ok (.iaload, 1) := by decide +kernel
theorem dX12_readLaw_76 : decode cX12_readLaw 76 = .ok (.iadd, 1) := by decide +kernel
theorem dX12_readLaw_77 : decode cX12_readLaw 77 = .ok (.aload_n 0, 1) := by decide +kernel
theorem dX12_readLaw_78 : decode cX12_readLaw 78 = .ok (.iconst 0, 1) := by decide +kernel
theorem dX12_readLaw_79 : decode cX12_readLaw 79 = .ok (.iconst 3, 1) := by decide +kernel
theorem dX12_readLaw_80 : decode cX12_readLaw 80 = .ok (.invokevirtual 97, 3) := by decide +kernel
theorem dX12_readLaw_83 : decode cX12_readLaw 83 = .ok (.iastore, 1) := by decide +kernel
theorem dX12_readLaw_84 : decode cX12_readLaw 84 = .ok (.aload_n 0, 1) := by decide +kernel
theorem dX12_readLaw_85 : decode cX12_readLaw 85 = .ok (.getfield 7, 3) := by decide +kernel
theorem dX12_readLaw_88 : decode cX12_readLaw 88 = .ok (.iconst 3, 1) := by decide +kernel
theorem dX12_readLaw_89 : decode cX12_readLaw 89 = .ok (.dup2, 1) := by decide +kernel
theorem dX12_readLaw_90 : decode cX12_readLaw 90 = .ok (.iaload, 1) := by decide +kernel
theorem dX12_readLaw_91 : decode cX12_readLaw 91 = .ok (.iconst 1, 1) := by decide +kernel
theorem dX12_readLaw_92 : decode cX12_readLaw 92 = .ok (.iadd, 1) := by decide +kernel
theorem dX12_readLaw_93 : decode cX12_readLaw 93 = .ok (.iastore, 1) := by decide +kernel
theorem dX12_readLaw_94 : decode cX12_readLaw 94 = .ok (.goto (-67), 3) := by decide +kernel
theorem dX12_readLaw_97 : decode cX12_readLaw 97 = .ok (.return_, 1) := by decide +kernel
theorem dX12_clause_0 : decode cX12_clause 0 = .ok (.aload_n 0, 1) := by decide +kernel
theorem dX12_clause_1 : decode cX12_clause 1 = .ok (.invokevirtual 82, 3) := by decide +kernel
theorem dX12_clause_4 : decode cX12_clause 4 = .ok (.istore_n 1, 1) := by decide +kernel
theorem dX12_clause_5 : decode cX12_clause 5 = .ok (.aload_n 0, 1) := by decide +kernel
theorem dX12_clause_6 : decode cX12_clause 6 = .ok (.getfield 76, 3) := by decide +kernel
theorem dX12_clause_9 : decode cX12_clause 9 = .ok (.istore_n 2, 1) := by decide +kernel
theorem dX12_clause_10 : decode cX12_clause 10 = .ok (.aload_n 0, 1) := by decide +kernel
theorem dX12_clause_11 : decode cX12_clause 11 = .ok (.getfield 7, 3) := by decide +kernel
theorem dX12_clause_14 : decode cX12_clause 14 = .ok (.iconst 0, 1) := by decide +kernel
theorem dX12_clause_15 : decode cX12_clause 15 = .ok (.iaload, 1) := by decide +kernel
theorem dX12_clause_16 : decode cX12_clause 16 = .ok (.ifCond .ne 7, 3) := by decide +kernel
theorem dX12_clause_19 : decode cX12_clause 19 = .ok (.iconst 1, 1) := by decide +kernel
theorem dX12_clause_20 : decode cX12_clause 20 = .ok (.goto 4, 3) := by decide +kernel
theorem dX12_clause_23 : decode cX12_clause 23 = .ok (.iconst 0, 1) := by decide +kernel
theorem dX12_clause_24 : decode cX12_clause 24 = .ok (.istore_n 3, 1) := by decide +kernel
theorem dX12_clause_25 : decode cX12_clause 25 = .ok (.iload_n 1, 1) := by decide +kernel
theorem dX12_clause_26 : decode cX12_clause 26 = .ok (.bipush 98, 2) := by decide +kernel
theorem dX12_clause_28 : decode cX12_clause 28 = .ok (.if_icmp .ne 7, 3) := by decide +kernel
theorem dX12_clause_31 : decode cX12_clause 31 = .ok (.iload_n 3, 1) := by decide +kernel
theorem dX12_clause_32 : decode cX12_clause 32 = .ok (.ifCond .eq 44, 3) := by decide +kernel
theorem dX12_clause_35 : decode cX12_clause 35 = .ok (.iload_n 1, 1) := by decide +kernel
theorem dX12_clause_36 : decode cX12_clause 36 = .ok (.bipush 114, 2) := by decide +kernel
theorem dX12_clause_38 : decode cX12_clause 38 = .ok (.if_icmp .ne 13, 3) := by decide +kernel
theorem dX12_clause_41 : decode cX12_clause 41 = .ok (.aload_n 0, 1) := by decide +kernel
theorem dX12_clause_42 : decode cX12_clause 42 = .ok (.getfield 7, 3) := by decide +kernel
theorem dX12_clause_45 : decode cX12_clause 45 = .ok (.iconst 4, 1) := by decide +kernel
theorem dX12_clause_46 : decode cX12_clause 46 = .ok (.iaload, 1) := by decide +kernel
theorem dX12_clause_47 : decode cX12_clause 47 = .ok (.iconst 1, 1) := by decide +kernel
theorem dX12_clause_48 : decode cX12_clause 48 = .ok (.if_icmp .eq 28, 3) := by decide +kernel
theorem dX12_clause_51 : decode cX12_clause 51 = .ok (.iload_n 1, 1) := by decide +kernel
theorem dX12_clause_52 : decode cX12_clause 52 = .ok (.bipush 115, 2) := by decide +kernel
theorem dX12_clause_54 : decode cX12_clause 54 = .ok (.if_icmp .ne 28, 3) := by decide +kernel
theorem dX12_clause_57 : decode cX12_clause 57 = .ok (.iload_n 3, 1) := by decide +kernel
theorem dX12_clause_58 : decode cX12_clause 58 = .ok (.ifCond .ne 24, 3) := by decide +kernel
theorem dX12_clause_61 : decode cX12_clause 61 = .ok (.aload_n 0, 1) := by decide +kernel
theorem dX12_clause_62 : decode cX12_clause 62 = .ok (.getfield 7, 3) := by decide +kernel
theorem dX12_clause_65 : decode cX12_clause 65 = .ok (.iconst 2, 1) := by decide +kernel
theorem dX12_clause_66 : decode cX12_clause 66 = .ok (.iaload, 1) := by decide +kernel
theorem dX12_clause_67 : decode cX12_clause 67 = .ok (.aload_n 0, 1) := by decide +kernel
theorem dX12_clause_68 : decode cX12_clause 68 = .ok (.getfield 7, 3) := by decide +kernel
theorem dX12_clause_71 : decode cX12_clause 71 = .ok (.iconst 0, 1) := by decide +kernel
theorem dX12_clause_72 : decode cX12_clause 72 = .ok (.iaload, 1) := by decide +kernel
theorem dX12_clause_73 : decode cX12_clause 73 = .ok (.if_icmp .ne 9, 3) := by decide +kernel
theorem dX12_clause_76 : decode cX12_clause 76 = .ok (.aload_n 0, 1) := by decide +kernel
theorem dX12_clause_77 : decode cX12_clause 77 = .ok (.iconst 3, 1) := by decide +kernel
theorem dX12_clause_78 : decode cX12_clause 78 = .ok (.iload_n 2, 1) := by decide +kernel
theorem dX12_clause_79 : decode cX12_clause 79 = .ok (.invokevirtual 90, 3) := by decide +kernel
theorem dX12_clause_82 : decode cX12_clause 82 = .ok (.iload_n 1, 1) := by decide +kernel
theorem dX12_clause_83 : decode cX12_clause 83 = .ok (.bipush 98, 2) := by decide +kernel
theorem dX12_clause_85 : decode cX12_clause 85 = .ok (.if_icmp .eq 35, 3) := by decide +kernel
theorem dX12_clause_88 : decode cX12_clause 88 = .ok (.iload_n 3, 1) := by decide +kernel
theorem dX12_clause_89 : decode cX12_clause 89 = .ok (.ifCond .ne 21, 3) := by decide +kernel
theorem dX12_clause_92 : decode cX12_clause 92 = .ok (.iload_n 1, 1) := by decide +kernel
theorem dX12_clause_93 : decode cX12_clause 93 = .ok (.bipush 104, 2) := by decide +kernel
theorem dX12_clause_95 : decode cX12_clause 95 = .ok (.if_icmp .eq 25, 3) := by decide +kernel
theorem dX12_clause_98 : decode cX12_clause 98 = .ok (.iload_n 1, 1) := by decide +kernel
theorem dX12_clause_99 : decode cX12_clause 99 = .ok (.bipush 115, 2) := by decide +kernel
theorem dX12_clause_101 : decode cX12_clause 101 = .ok (.if_icmp .eq 19, 3) := by decide +kernel
theorem dX12_clause_104 : decode cX12_clause 104 = .ok (.iload_n 1, 1) := by decide +kernel
theorem dX12_clause_105 : decode cX12_clause 105 = .ok (.bipush 114, 2) := by decide +kernel
theorem dX12_clause_107 : decode cX12_clause 107 = .ok (.if_icmp .eq 13, 3) := by decide +kernel
theorem dX12_clause_110 : decode cX12_clause 110 = .ok (.aload_n 0, 1) := by decide +kernel
theorem dX12_clause_111 : decode cX12_clause 111 = .ok (.iconst 1, 1) := by decide +kernel
theorem dX12_clause_112 : decode cX12_clause 112 = .ok (.putfield 79, 3) := by decide +kernel
theorem dX12_clause_115 : decode cX12_clause 115 = .ok (.aload_n 0, 1) := by decide +kernel
theorem dX12_clause_116 : decode cX12_clause 116 = .ok (.iload_n 2, 1) := by decide +kernel
theorem dX12_clause_117 : decode cX12_clause 117 = .ok (.putfield 55, 3) := by decide +kernel
theorem dX12_clause_120 : decode cX12_clause 120 = .ok (.aload_n 0, 1) := by decide +kernel
theorem dX12_clause_121 : decode cX12_clause 121 = .ok (.getfield 79, 3) := by decide +kernel
theorem dX12_clause_124 : decode cX12_clause 124 = .ok (.ifCond .eq 4, 3) := by decide +kernel
theorem dX12_clause_127 : decode cX12_clause 127 = .ok (.return_, 1) := by decide +kernel
theorem dX12_clause_128 : decode cX12_clause 128 = .ok (.aload_n 0, 1) := by decide +kernel
theorem dX12_clause_129 : decode cX12_clause 129 = .ok (.dup, 1) := by decide +kernel
theorem dX12_clause_130 : decode cX12_clause 130 = .ok (.getfield 76, 3) := by decide +kernel
theorem dX12_clause_133 : decode cX12_clause 133 = .ok (.iconst 1, 1) := by decide +kernel
theorem dX12_clause_134 : decode cX12_clause 134 = .ok (.iadd, 1) := by decide +kernel
theorem dX12_clause_135 : decode cX12_clause 135 = .ok (.putfield 76, 3) := by decide +kernel
theorem dX12_clause_138 : decode cX12_clause 138 = .ok (.iload_n 1, 1) := by decide +kernel
theorem dX12_clause_139 : decode cX12_clause 139 = .ok (.bipush 98, 2) := by decide +kernel
theorem dX12_clause_141 : decode cX12_clause 141 = .ok (.if_icmp .ne 31, 3) := by decide +kernel
theorem dX12_clause_144 : decode cX12_clause 144 = .ok (.aload_n 0, 1) := by decide +kernel
theorem dX12_clause_145 : decode cX12_clause 145 = .ok (.getfield 7, 3) := by decide +kernel
theorem dX12_clause_148 : decode cX12_clause 148 = .ok (.iconst 0, 1) := by decide +kernel
theorem dX12_clause_149 : decode cX12_clause 149 = .ok (.aload_n 0, 1) := by decide +kernel
theorem dX12_clause_150 : decode cX12_clause 150 = .ok (.iconst 2, 1) := by decide +kernel
theorem dX12_clause_151 : decode cX12_clause 151 = .ok (.bipush 6, 2) := by decide +kernel
theorem dX12_clause_153 : decode cX12_clause 153 = .ok (.invokevirtual 97, 3) := by decide +kernel
theorem dX12_clause_156 : decode cX12_clause 156 = .ok (.iastore, 1) := by decide +kernel
theorem dX12_clause_157 : decode cX12_clause 157 = .ok (.aload_n 0, 1) := by decide +kernel
theorem dX12_clause_158 : decode cX12_clause 158 = .ok (.getfield 7, 3) := by decide +kernel
theorem dX12_clause_161 : decode cX12_clause 161 = .ok (.iconst 1, 1) := by decide +kernel
theorem dX12_clause_162 : decode cX12_clause 162 = .ok (.aload_n 0, 1) := by decide +kernel
theorem dX12_clause_163 : decode cX12_clause 163 = .ok (.iconst 0, 1) := by decide +kernel
theorem dX12_clause_164 : decode cX12_clause 164 = .ok (.iconst 1, 1) := by decide +kernel
theorem dX12_clause_165 : decode cX12_clause 165 = .ok (.invokevirtual 97, 3) := by decide +kernel
theorem dX12_clause_168 : decode cX12_clause 168 = .ok (.iastore, 1) := by decide +kernel
theorem dX12_clause_169 : decode cX12_clause 169 = .ok (.goto 33, 3) := by decide +kernel
theorem dX12_clause_172 : decode cX12_clause 172 = .ok (.iload_n 1, 1) := by decide +kernel
theorem dX12_clause_173 : decode cX12_clause 173 = .ok (.bipush 104, 2) := by decide +kernel
theorem dX12_clause_175 : decode cX12_clause 175 = .ok (.if_icmp .ne 10, 3) := by decide +kernel
theorem dX12_clause_178 : decode cX12_clause 178 = .ok (.aload_n 0, 1) := by decide +kernel
theorem dX12_clause_179 : decode cX12_clause 179 = .ok (.invokevirtual 101, 3) := by decide +kernel
theorem dX12_clause_182 : decode cX12_clause 182 = .ok (.goto 20, 3) := by decide +kernel
theorem dX12_clause_185 : decode cX12_clause 185 = .ok (.iload_n 1, 1) := by decide +kernel
theorem dX12_clause_186 : decode cX12_clause 186 = .ok (.bipush 115, 2) := by decide +kernel
theorem dX12_clause_188 : decode cX12_clause 188 = .ok (.if_icmp .ne 10, 3) := by decide +kernel
theorem dX12_clause_191 : decode cX12_clause 191 = .ok (.aload_n 0, 1) := by decide +kernel
theorem dX12_clause_192 : decode cX12_clause 192 = .ok (.invokevirtual 104, 3) := by decide +kernel
theorem dX12_clause_195 : decode cX12_clause 195 = .ok (.goto 7, 3) := by decide +kernel
theorem dX12_clause_198 : decode cX12_clause 198 = .ok (.aload_n 0, 1) := by decide +kernel
theorem dX12_clause_199 : decode cX12_clause 199 = .ok (.invokevirtual 107, 3) := by decide +kernel
theorem dX12_clause_202 : decode cX12_clause 202 = .ok (.aload_n 0, 1) := by decide +kernel
theorem dX12_clause_203 : decode cX12_clause 203 = .ok (.getfield 79, 3) := by decide +kernel
theorem dX12_clause_206 : decode cX12_clause 206 = .ok (.ifCond .ne 21, 3) := by decide +kernel
theorem dX12_clause_209 : decode cX12_clause 209 = .ok (.aload_n 0, 1) := by decide +kernel
theorem dX12_clause_210 : decode cX12_clause 210 = .ok (.invokevirtual 82, 3) := by decide +kernel
theorem dX12_clause_213 : decode cX12_clause 213 = .ok (.bipush 59, 2) := by decide +kernel
theorem dX12_clause_215 : decode cX12_clause 215 = .ok (.if_icmp .eq 12, 3) := by decide +kernel
theorem dX12_clause_218 : decode cX12_clause 218 = .ok (.aload_n 0, 1) := by decide +kernel
theorem dX12_clause_219 : decode cX12_clause 219 = .ok (.iconst 1, 1) := by decide +kernel
theorem dX12_clause_220 : decode cX12_clause 220 = .ok (.aload_n 0, 1) := by decide +kernel
theorem dX12_clause_221 : decode cX12_clause 221 = .ok (.getfield 76, 3) := by decide +kernel
theorem dX12_clause_224 : decode cX12_clause 224 = .ok (.invokevirtual 90, 3) := by decide +kernel
theorem dX12_clause_227 : decode cX12_clause 227 = .ok (.aload_n 0, 1) := by decide +kernel
theorem dX12_clause_228 : decode cX12_clause 228 = .ok (.dup, 1) := by decide +kernel
theorem dX12_clause_229 : decode cX12_clause 229 = .ok (.getfield 76, 3) := by decide +kernel
theorem dX12_clause_232 : decode cX12_clause 232 = .ok (.iconst 1, 1) := by decide +kernel
theorem dX12_clause_233 : decode cX12_clause 233 = .ok (.iadd, 1) := by decide +kernel
theorem dX12_clause_234 : decode cX12_clause 234 = .ok (.putfield 76, 3) := by decide +kernel
theorem dX12_clause_237 : decode cX12_clause 237 = .ok (.return_, 1) := by decide +kernel
theorem dX12_bed_0 : decode cX12_bed 0 = .ok (.aload_n 0, 1) := by decide +kernel
theorem dX12_bed_1 : decode cX12_bed 1 = .ok (.iconst 0, 1) := by decide +kernel
theorem dX12_bed_2 : decode cX12_bed 2 = .ok (.putfield 76, 3) := by decide +kernel
theorem dX12_bed_5 : decode cX12_bed 5 = .ok (.aload_n 0, 1) := by decide +kernel
theorem dX12_bed_6 : decode cX12_bed 6 = .ok (.iconst 0, 1) := by decide +kernel
theorem dX12_bed_7 : decode cX12_bed 7 = .ok (.putfield 79, 3) := by decide +kernel
theorem dX12_bed_10 : decode cX12_bed 10 = .ok (.aload_n 0, 1) := by decide +kernel
theorem dX12_bed_11 : decode cX12_bed 11 = .ok (.iconst (-1), 1) := by decide +kernel
theorem dX12_bed_12 : decode cX12_bed 12 = .ok (.putfield 55, 3) := by decide +kernel
theorem dX12_bed_15 : decode cX12_bed 15 = .ok (.aload_n 0, 1) := by decide +kernel
theorem dX12_bed_16 : decode cX12_bed 16 = .ok (.invokevirtual 59, 3) := by decide +kernel
theorem dX12_bed_19 : decode cX12_bed 19 = .ok (.aload_n 0, 1) := by decide +kernel
theorem dX12_bed_20 : decode cX12_bed 20 = .ok (.getfield 79, 3) := by decide +kernel
theorem dX12_bed_23 : decode cX12_bed 23 = .ok (.ifCond .ne 17, 3) := by decide +kernel
theorem dX12_bed_26 : decode cX12_bed 26 = .ok (.aload_n 0, 1) := by decide +kernel
theorem dX12_bed_27 : decode cX12_bed 27 = .ok (.invokevirtual 82, 3) := by decide +kernel
theorem dX12_bed_30 : decode cX12_bed 30 = .ok (.ifCond .lt 10, 3) := by decide +kernel
theorem dX12_bed_33 : decode cX12_bed 33 = .ok (.aload_n 0, 1) := by decide +kernel
theorem dX12_bed_34 : decode cX12_bed 34 = .ok (.invokevirtual 110, 3) := by decide +kernel
theorem dX12_bed_37 : decode cX12_bed 37 = .ok (.goto (-18), 3) := by decide +kernel
theorem dX12_bed_40 : decode cX12_bed 40 = .ok (.aload_n 0, 1) := by decide +kernel
theorem dX12_bed_41 : decode cX12_bed 41 = .ok (.iconst 0, 1) := by decide +kernel
theorem dX12_bed_42 : decode cX12_bed 42 = .ok (.putfield 72, 3) := by decide +kernel
theorem dX12_bed_45 : decode cX12_bed 45 = .ok (.aload_n 0, 1) := by decide +kernel
theorem dX12_bed_46 : decode cX12_bed 46 = .ok (.getfield 79, 3) := by decide +kernel
theorem dX12_bed_49 : decode cX12_bed 49 = .ok (.ifCond .eq 11, 3) := by decide +kernel
theorem dX12_bed_52 : decode cX12_bed 52 = .ok (.bipush (-10), 2) := by decide +kernel
theorem dX12_bed_54 : decode cX12_bed 54 = .ok (.aload_n 0, 1) := by decide +kernel
theorem dX12_bed_55 : decode cX12_bed 55 = .ok (.getfield 79, 3) := by decide +kernel
theorem dX12_bed_58 : decode cX12_bed 58 = .ok (.isub, 1) := by decide +kernel
theorem dX12_bed_59 : decode cX12_bed 59 = .ok (.ireturn, 1) := by decide +kernel
theorem dX12_bed_60 : decode cX12_bed 60 = .ok (.aload_n 0, 1) := by decide +kernel
theorem dX12_bed_61 : decode cX12_bed 61 = .ok (.invokevirtual 62, 3) := by decide +kernel
theorem dX12_bed_64 : decode cX12_bed 64 = .ok (.aload_n 0, 1) := by decide +kernel
theorem dX12_bed_65 : decode cX12_bed 65 = .ok (.getfield 13, 3) := by decide +kernel
theorem dX12_bed_68 : decode cX12_bed 68 = .ok (.iconst 2, 1) := by decide +kernel
theorem dX12_bed_69 : decode cX12_bed 69 = .ok (.iaload, 1) := by decide +kernel
theorem dX12_bed_70 : decode cX12_bed 70 = .ok (.ireturn, 1) := by decide +kernel
theorem dX12_fault_0 : decode cX12_fault 0 = .ok (.aload_n 0, 1) := by decide +kernel
theorem dX12_fault_1 : decode cX12_fault 1 = .ok (.getfield 55, 3) := by decide +kernel
theorem dX12_fault_4 : decode cX12_fault 4 = .ok (.ireturn, 1) := by decide +kernel
theorem dX12_starts_0 : decode cX12_starts 0 = .ok (.iconst 0, 1) := by decide +kernel
theorem dX12_starts_1 : decode cX12_starts 1 = .ok (.istore_n 1, 1) := by decide +kernel
theorem dX12_starts_2 : decode cX12_starts 2 = .ok (.iload_n 1, 1) := by decide +kernel
theorem dX12_starts_3 : decode cX12_starts 3 = .ok (.bipush 44, 2) := by decide +kernel
theorem dX12_starts_5 : decode cX12_starts 5 = .ok (.if_icmp .ge 21, 3) := by decide +kernel
theorem dX12_starts_8 : decode cX12_starts 8 = .ok (.aload_n 0, 1) := by decide +kernel
theorem dX12_starts_9 : decode cX12_starts 9 = .ok (.getfield 13, 3) := by decide +kernel
theorem dX12_starts_12 : decode cX12_starts 12 = .ok (.iload_n 1, 1) := by decide +kernel
theorem dX12_starts_13 : decode cX12_starts 13 = .ok (.aload_n 0, 1) := by decide +kernel
theorem dX12_starts_14 : decode cX12_starts 14 = .ok (.getfield 7, 3) := by decide +kernel
theorem dX12_starts_17 : decode cX12_starts 17 = .ok (.iload_n 1, 1) := by decide +kernel
theorem dX12_starts_18 : decode cX12_starts 18 = .ok (.iaload, 1) := by decide +kernel
theorem dX12_starts_19 : decode cX12_starts 19 = .ok (.iastore, 1) := by decide +kernel
theorem dX12_starts_20 : decode cX12_starts 20 = .ok (.iinc 1 1, 3) := by decide +kernel
theorem dX12_starts_23 : decode cX12_starts 23 = .ok (.goto (-21), 3) := by decide +kernel
theorem dX12_starts_26 : decode cX12_starts 26 = .ok (.aload_n 0, 1) := by decide +kernel
theorem dX12_starts_27 : decode cX12_starts 27 = .ok (.getfield 19, 3) := by decide +kernel
theorem dX12_starts_30 : decode cX12_starts 30 = .ok (.iconst 0, 1) := by decide +kernel
theorem dX12_starts_31 : decode cX12_starts 31 = .ok (.iconst 0, 1) := by decide +kernel
theorem dX12_starts_32 : decode cX12_starts 32 = .ok (.iastore, 1) := by decide +kernel
theorem dX12_starts_33 : decode cX12_starts 33 = .ok (.iconst 0, 1) := by decide +kernel
theorem dX12_starts_34 : decode cX12_starts 34 = .ok (.istore_n 1, 1) := by decide +kernel
theorem dX12_starts_35 : decode cX12_starts 35 = .ok (.iload_n 1, 1) := by decide +kernel
theorem dX12_starts_36 : decode cX12_starts 36 = .ok (.bipush 6, 2) := by decide +kernel
theorem dX12_starts_38 : decode cX12_starts 38 = .ok (.if_icmp .ge 66, 3) := by decide +kernel
theorem dX12_starts_41 : decode cX12_starts 41 = .ok (.aload_n 0, 1) := by decide +kernel
theorem dX12_starts_42 : decode cX12_starts 42 = .ok (.getfield 19, 3) := by decide +kernel
theorem dX12_starts_45 : decode cX12_starts 45 = .ok (.iconst 1, 1) := by decide +kernel
theorem dX12_starts_46 : decode cX12_starts 46 = .ok (.iload_n 1, 1) := by decide +kernel
theorem dX12_starts_47 : decode cX12_starts 47 = .ok (.iadd, 1) := by decide +kernel
theorem dX12_starts_48 : decode cX12_starts 48 = .ok (.iload_n 1, 1) := by decide +kernel
theorem dX12_starts_49 : decode cX12_starts 49 = .ok (.aload_n 0, 1) := by decide +kernel
theorem dX12_starts_50 : decode cX12_starts 50 = .ok (.getfield 13, 3) := by decide +kernel
theorem dX12_starts_53 : decode cX12_starts 53 = .ok (.iconst 2, 1) := by decide +kernel
theorem dX12_starts_54 : decode cX12_starts 54 = .ok (.iaload, 1) := by decide +kernel
theorem dX12_starts_55 : decode cX12_starts 55 = .ok (.if_icmp .ge 7, 3) := by decide +kernel
theorem dX12_starts_58 : decode cX12_starts 58 = .ok (.iload_n 1, 1) := by decide +kernel
theorem dX12_starts_59 : decode cX12_starts 59 = .ok (.goto 4, 3) := by decide +kernel
theorem dX12_starts_62 : decode cX12_starts 62 = .ok (.iconst (-1), 1) := by decide +kernel
theorem dX12_starts_63 : decode cX12_starts 63 = .ok (.iastore, 1) := by decide +kernel
theorem dX12_starts_64 : decode cX12_starts 64 = .ok (.aload_n 0, 1) := by decide +kernel
theorem dX12_starts_65 : decode cX12_starts 65 = .ok (.getfield 19, 3) := by decide +kernel
theorem dX12_starts_68 : decode cX12_starts 68 = .ok (.bipush 7, 2) := by decide +kernel
theorem dX12_starts_70 : decode cX12_starts 70 = .ok (.iload_n 1, 1) := by decide +kernel
theorem dX12_starts_71 : decode cX12_starts 71 = .ok (.iadd, 1) := by decide +kernel
theorem dX12_starts_72 : decode cX12_starts 72 = .ok (.iload_n 1, 1) := by decide +kernel
theorem dX12_starts_73 : decode cX12_starts 73 = .ok (.aload_n 0, 1) := by decide +kernel
theorem dX12_starts_74 : decode cX12_starts 74 = .ok (.getfield 13, 3) := by decide +kernel
theorem dX12_starts_77 : decode cX12_starts 77 = .ok (.iconst 2, 1) := by decide +kernel
theorem dX12_starts_78 : decode cX12_starts 78 = .ok (.iaload, 1) := by decide +kernel
theorem dX12_starts_79 : decode cX12_starts 79 = .ok (.if_icmp .ge 17, 3) := by decide +kernel
theorem dX12_starts_82 : decode cX12_starts 82 = .ok (.aload_n 0, 1) := by decide +kernel
theorem dX12_starts_83 : decode cX12_starts 83 = .ok (.getfield 13, 3) := by decide +kernel
theorem dX12_starts_86 : decode cX12_starts 86 = .ok (.bipush 12, 2) := by decide +kernel
theorem dX12_starts_88 : decode cX12_starts 88 = .ok (.iconst 4, 1) := by decide +kernel
theorem dX12_starts_89 : decode cX12_starts 89 = .ok (.iload_n 1, 1) := by decide +kernel
theorem dX12_starts_90 : decode cX12_starts 90 = .ok (.imul, 1) := by decide +kernel
theorem dX12_starts_91 : decode cX12_starts 91 = .ok (.iadd, 1) := by decide +kernel
theorem dX12_starts_92 : decode cX12_starts 92 = .ok (.iaload, 1) := by decide +kernel
theorem dX12_starts_93 : decode cX12_starts 93 = .ok (.goto 4, 3) := by decide +kernel
theorem dX12_starts_96 : decode cX12_starts 96 = .ok (.iconst 0, 1) := by decide +kernel
theorem dX12_starts_97 : decode cX12_starts 97 = .ok (.iastore, 1) := by decide +kernel
theorem dX12_starts_98 : decode cX12_starts 98 = .ok (.iinc 1 1, 3) := by decide +kernel
theorem dX12_starts_101 : decode cX12_starts 101 = .ok (.goto (-66), 3) := by decide +kernel
theorem dX12_starts_104 : decode cX12_starts 104 = .ok (.aload_n 0, 1) := by decide +kernel
theorem dX12_starts_105 : decode cX12_starts 105 = .ok (.iconst 0, 1) := by decide +kernel
theorem dX12_starts_106 : decode cX12_starts 106 = .ok (.putfield 113, 3) := by decide +kernel
theorem dX12_starts_109 : decode cX12_starts 109 = .ok (.aload_n 0, 1) := by decide +kernel
theorem dX12_starts_110 : decode cX12_starts 110 = .ok (.iconst 0, 1) := by decide +kernel
theorem dX12_starts_111 : decode cX12_starts 111 = .ok (.putfield 116, 3) := by decide +kernel
theorem dX12_starts_114 : decode cX12_starts 114 = .ok (.aload_n 0, 1) := by decide +kernel
theorem dX12_starts_115 : decode cX12_starts 115 = .ok (.iconst 0, 1) := by decide +kernel
theorem dX12_starts_116 : decode cX12_starts 116 = .ok (.putfield 119, 3) := by decide +kernel
theorem dX12_starts_119 : decode cX12_starts 119 = .ok (.aload_n 0, 1) := by decide +kernel
theorem dX12_starts_120 : decode cX12_starts 120 = .ok (.getfield 52, 3) := by decide +kernel
theorem dX12_starts_123 : decode cX12_starts 123 = .ok (.iconst 0, 1) := by decide +kernel
theorem dX12_starts_124 : decode cX12_starts 124 = .ok (.iconst 0, 1) := by decide +kernel
theorem dX12_starts_125 : decode cX12_starts 125 = .ok (.iastore, 1) := by decide +kernel
theorem dX12_starts_126 : decode cX12_starts 126 = .ok (.aload_n 0, 1) := by decide +kernel
theorem dX12_starts_127 : decode cX12_starts 127 = .ok (.getfield 52, 3) := by decide +kernel
theorem dX12_starts_130 : decode cX12_starts 130 = .ok (.bipush 15, 2) := by decide +kernel
theorem dX12_starts_132 : decode cX12_starts 132 = .ok (.iconst 0, 1) := by decide +kernel
theorem dX12_starts_133 : decode cX12_starts 133 = .ok (.iastore, 1) := by decide +kernel
theorem dX12_starts_134 : decode cX12_starts 134 = .ok (.return_, 1) := by decide +kernel
theorem dX12_isPlace_0 : decode cX12_isPlace 0 = .ok (.iload_n 1, 1) := by decide +kernel
theorem dX12_isPlace_1 : decode cX12_isPlace 1 = .ok (.i2l, 1) := by decide +kernel
theorem dX12_isPlace_2 : decode cX12_isPlace 2 = .ok (.lconst 0, 1) := by decide +kernel
theorem dX12_isPlace_3 : decode cX12_isPlace 3 = .ok (.aload_n 0, 1) := by decide +kernel
theorem dX12_isPlace_4 : decode cX12_isPlace 4 = .ok (.getfield 13, 3) := by decide +kernel
theorem dX12_isPlace_7 : decode cX12_isPlace 7 = .ok (.iconst 0, 1) := by decide +kernel
theorem dX12_isPlace_8 : decode cX12_isPlace 8 = .ok (.iaload, 1) := by decide +kernel
theorem dX12_isPlace_9 : decode cX12_isPlace 9 = .ok (.iconst 1, 1) := by decide +kernel
theorem dX12_isPlace_10 : decode cX12_isPlace 10 = .ok (.isub, 1) := by decide +kernel
theorem dX12_isPlace_11 : decode cX12_isPlace 11 = .ok (.i2l, 1) := by decide +kernel
theorem dX12_isPlace_12 : decode cX12_isPlace 12 = .ok (.invokestatic 67, 3) := by decide +kernel
theorem dX12_isPlace_15 : decode cX12_isPlace 15 = .ok (.ireturn, 1) := by decide +kernel
theorem dX12_isSleeper_0 : decode cX12_isSleeper 0 = .ok (.iload_n 1, 1) := by decide +kernel
theorem dX12_isSleeper_1 : decode cX12_isSleeper 1 = .ok (.i2l, 1) := by decide +kernel
theorem dX12_isSleeper_2 : decode cX12_isSleeper 2 = .ok (.lconst 0, 1) := by decide +kernel
theorem dX12_isSleeper_3 : decode cX12_isSleeper 3 = .ok (.aload_n 0, 1) := by decide +kernel
theorem dX12_isSleeper_4 : decode cX12_isSleeper 4 = .ok (.getfield 13, 3) := by decide +kernel
theorem dX12_isSleeper_7 : decode cX12_isSleeper 7 = .ok (.iconst 2, 1) := by decide +kernel
theorem dX12_isSleeper_8 : decode cX12_isSleeper 8 = .ok (.iaload, 1) := by decide +kernel
theorem dX12_isSleeper_9 : decode cX12_isSleeper 9 = .ok (.iconst 1, 1) := by decide +kernel
theorem dX12_isSleeper_10 : decode cX12_isSleeper 10 = .ok (.isub, 1) := by decide +kernel
theorem dX12_isSleeper_11 : decode cX12_isSleeper 11 = .ok (.i2l, 1) := by decide +kernel
theorem dX12_isSleeper_12 : decode cX12_isSleeper 12 = .ok (.invokestatic 67, 3) := by decide +kernel
theorem dX12_isSleeper_15 : decode cX12_isSleeper 15 = .ok (.ireturn, 1) := by decide +kernel
theorem dX12_gives_0 : decode cX12_gives 0 = .ok (.iload_n 1, 1) := by decide +kernel
theorem dX12_gives_1 : decode cX12_gives 1 = .ok (.iconst (-1), 1) := by decide +kernel
theorem dX12_gives_2 : decode cX12_gives 2 = .ok (.if_icmp .ne 7, 3) := by decide +kernel
theorem dX12_gives_5 : decode cX12_gives 5 = .ok (.iconst 0, 1) := by decide +kernel
theorem dX12_gives_6 : decode cX12_gives 6 = .ok (.goto 16, 3) := by decide +kernel
theorem dX12_gives_9 : decode cX12_gives 9 = .ok (.aload_n 0, 1) := by decide +kernel
theorem dX12_gives_10 : decode cX12_gives 10 = .ok (.getfield 13, 3) := by decide +kernel
theorem dX12_gives_13 : decode cX12_gives 13 = .ok (.bipush 12, 2) := by decide +kernel
theorem dX12_gives_15 : decode cX12_gives 15 = .ok (.iconst 4, 1) := by decide +kernel
theorem dX12_gives_16 : decode cX12_gives 16 = .ok (.iload_n 1, 1) := by decide +kernel
theorem dX12_gives_17 : decode cX12_gives 17 = .ok (.imul, 1) := by decide +kernel
theorem dX12_gives_18 : decode cX12_gives 18 = .ok (.iadd, 1) := by decide +kernel
theorem dX12_gives_19 : decode cX12_gives 19 = .ok (.iconst 1, 1) := by decide +kernel
theorem dX12_gives_20 : decode cX12_gives 20 = .ok (.iadd, 1) := by decide +kernel
theorem dX12_gives_21 : decode cX12_gives 21 = .ok (.iaload, 1) := by decide +kernel
theorem dX12_gives_22 : decode cX12_gives 22 = .ok (.ireturn, 1) := by decide +kernel
theorem dX12_loses_0 : decode cX12_loses 0 = .ok (.aload_n 0, 1) := by decide +kernel
theorem dX12_loses_1 : decode cX12_loses 1 = .ok (.getfield 13, 3) := by decide +kernel
theorem dX12_loses_4 : decode cX12_loses 4 = .ok (.bipush 12, 2) := by decide +kernel
theorem dX12_loses_6 : decode cX12_loses 6 = .ok (.iconst 4, 1) := by decide +kernel
theorem dX12_loses_7 : decode cX12_loses 7 = .ok (.iload_n 1, 1) := by decide +kernel
theorem dX12_loses_8 : decode cX12_loses 8 = .ok (.imul, 1) := by decide +kernel
theorem dX12_loses_9 : decode cX12_loses 9 = .ok (.iadd, 1) := by decide +kernel
theorem dX12_loses_10 : decode cX12_loses 10 = .ok (.iconst 2, 1) := by decide +kernel
theorem dX12_loses_11 : decode cX12_loses 11 = .ok (.iadd, 1) := by decide +kernel
theorem dX12_loses_12 : decode cX12_loses 12 = .ok (.iaload, 1) := by decide +kernel
theorem dX12_loses_13 : decode cX12_loses 13 = .ok (.ireturn, 1) := by decide +kernel
theorem dX12_placeOf_0 : decode cX12_placeOf 0 = .ok (.iconst (-1), 1) := by decide +kernel
theorem dX12_placeOf_1 : decode cX12_placeOf 1 = .ok (.istore_n 2, 1) := by decide +kernel
theorem dX12_placeOf_2 : decode cX12_placeOf 2 = .ok (.iconst 0, 1) := by decide +kernel
theorem dX12_placeOf_3 : decode cX12_placeOf 3 = .ok (.istore_n 3, 1) := by decide +kernel
theorem dX12_placeOf_4 : decode cX12_placeOf 4 = .ok (.iload_n 3, 1) := by decide +kernel
theorem dX12_placeOf_5 : decode cX12_placeOf 5 = .ok (.aload_n 0, 1) := by decide +kernel
theorem dX12_placeOf_6 : decode cX12_placeOf 6 = .ok (.getfield 13, 3) := by decide +kernel
theorem dX12_placeOf_9 : decode cX12_placeOf 9 = .ok (.iconst 0, 1) := by decide +kernel
theorem dX12_placeOf_10 : decode cX12_placeOf 10 = .ok (.iaload, 1) := by decide +kernel
theorem dX12_placeOf_11 : decode cX12_placeOf 11 = .ok (.if_icmp .ge 27, 3) := by decide +kernel
theorem dX12_placeOf_14 : decode cX12_placeOf 14 = .ok (.aload_n 0, 1) := by decide +kernel
theorem dX12_placeOf_15 : decode cX12_placeOf 15 = .ok (.getfield 19, 3) := by decide +kernel
theorem dX12_placeOf_18 : decode cX12_placeOf 18 = .ok (.iconst 1, 1) := by decide +kernel
theorem dX12_placeOf_19 : decode cX12_placeOf 19 = .ok (.iload_n 3, 1) := by decide +kernel
theorem dX12_placeOf_20 : decode cX12_placeOf 20 = .ok (.iadd, 1) := by decide +kernel
theorem dX12_placeOf_21 : decode cX12_placeOf 21 = .ok (.iaload, 1) := by decide +kernel
theorem dX12_placeOf_22 : decode cX12_placeOf 22 = .ok (.iload_n 1, 1) := by decide +kernel
theorem dX12_placeOf_23 : decode cX12_placeOf 23 = .ok (.if_icmp .ne 7, 3) := by decide +kernel
theorem dX12_placeOf_26 : decode cX12_placeOf 26 = .ok (.iload_n 3, 1) := by decide +kernel
theorem dX12_placeOf_27 : decode cX12_placeOf 27 = .ok (.goto 4, 3) := by decide +kernel
theorem dX12_placeOf_30 : decode cX12_placeOf 30 = .ok (.iload_n 2, 1) := by decide +kernel
theorem dX12_placeOf_31 : decode cX12_placeOf 31 = .ok (.istore_n 2, 1) := by decide +kernel
theorem dX12_placeOf_32 : decode cX12_placeOf 32 = .ok (.iinc 3 1, 3) := by decide +kernel
theorem dX12_placeOf_35 : decode cX12_placeOf 35 = .ok (.goto (-31), 3) := by decide +kernel
theorem dX12_placeOf_38 : decode cX12_placeOf 38 = .ok (.iload_n 2, 1) := by decide +kernel
theorem dX12_placeOf_39 : decode cX12_placeOf 39 = .ok (.ireturn, 1) := by decide +kernel
theorem dX12_inBed_0 : decode cX12_inBed 0 = .ok (.iconst 0, 1) := by decide +kernel
theorem dX12_inBed_1 : decode cX12_inBed 1 = .ok (.istore_n 1, 1) := by decide +kernel
theorem dX12_inBed_2 : decode cX12_inBed 2 = .ok (.iconst 0, 1) := by decide +kernel
theorem dX12_inBed_3 : decode cX12_inBed 3 = .ok (.istore_n 2, 1) := by decide +kernel
theorem dX12_inBed_4 : decode cX12_inBed 4 = .ok (.iload_n 2, 1) := by decide +kernel
theorem dX12_inBed_5 : decode cX12_inBed 5 = .ok (.aload_n 0, 1) := by decide +kernel
theorem dX12_inBed_6 : decode cX12_inBed 6 = .ok (.getfield 13, 3) := by decide +kernel
theorem dX12_inBed_9 : decode cX12_inBed 9 = .ok (.iconst 0, 1) := by decide +kernel
theorem dX12_inBed_10 : decode cX12_inBed 10 = .ok (.iaload, 1) := by decide +kernel
theorem dX12_inBed_11 : decode cX12_inBed 11 = .ok (.if_icmp .ge 38, 3) := by decide +kernel
theorem dX12_inBed_14 : decode cX12_inBed 14 = .ok (.iload_n 1, 1) := by decide +kernel
theorem dX12_inBed_15 : decode cX12_inBed 15 = .ok (.aload_n 0, 1) := by decide +kernel
theorem dX12_inBed_16 : decode cX12_inBed 16 = .ok (.getfield 19, 3) := by decide +kernel
theorem dX12_inBed_19 : decode cX12_inBed 19 = .ok (.iconst 1, 1) := by decide +kernel
theorem dX12_inBed_20 : decode cX12_inBed 20 = .ok (.iload_n 2, 1) := by decide +kernel
theorem dX12_inBed_21 : decode cX12_inBed 21 = .ok (.iadd, 1) := by decide +kernel
theorem dX12_inBed_22 : decode cX12_inBed 22 = .ok (.iaload, 1) := by decide +kernel
theorem dX12_inBed_23 : decode cX12_inBed 23 = .ok (.iconst (-1), 1) := by decide +kernel
theorem dX12_inBed_24 : decode cX12_inBed 24 = .ok (.if_icmp .ne 7, 3) := by decide +kernel
theorem dX12_inBed_27 : decode cX12_inBed 27 = .ok (.iconst 0, 1) := by decide +kernel
theorem dX12_inBed_28 : decode cX12_inBed 28 = .ok (.goto 13, 3) := by decide +kernel
theorem dX12_inBed_31 : decode cX12_inBed 31 = .ok (.iconst 1, 1) := by decide +kernel
theorem dX12_inBed_32 : decode cX12_inBed 32 = .ok (.aload_n 0, 1) := by decide +kernel
theorem dX12_inBed_33 : decode cX12_inBed 33 = .ok (.getfield 19, 3) := by decide +kernel
theorem dX12_inBed_36 : decode cX12_inBed 36 = .ok (.iconst 1, 1) := by decide +kernel
theorem dX12_inBed_37 : decode cX12_inBed 37 = .ok (.iload_n 2, 1) := by decide +kernel
theorem dX12_inBed_38 : decode cX12_inBed 38 = .ok (.iadd, 1) := by decide +kernel
theorem dX12_inBed_39 : decode cX12_inBed 39 = .ok (.iaload, 1) := by decide +kernel
theorem dX12_inBed_40 : decode cX12_inBed 40 = .ok (.ishl, 1) := by decide +kernel
theorem dX12_inBed_41 : decode cX12_inBed 41 = .ok (.ior, 1) := by decide +kernel
theorem dX12_inBed_42 : decode cX12_inBed 42 = .ok (.istore_n 1, 1) := by decide +kernel
theorem dX12_inBed_43 : decode cX12_inBed 43 = .ok (.iinc 2 1, 3) := by decide +kernel
theorem dX12_inBed_46 : decode cX12_inBed 46 = .ok (.goto (-42), 3) := by decide +kernel
theorem dX12_inBed_49 : decode cX12_inBed 49 = .ok (.iload_n 1, 1) := by decide +kernel
theorem dX12_inBed_50 : decode cX12_inBed 50 = .ok (.ireturn, 1) := by decide +kernel
theorem dX12_more_0 : decode cX12_more 0 = .ok (.aload_n 0, 1) := by decide +kernel
theorem dX12_more_1 : decode cX12_more 1 = .ok (.getfield 19, 3) := by decide +kernel
theorem dX12_more_4 : decode cX12_more 4 = .ok (.bipush 7, 2) := by decide +kernel
theorem dX12_more_6 : decode cX12_more 6 = .ok (.iload_n 1, 1) := by decide +kernel
theorem dX12_more_7 : decode cX12_more 7 = .ok (.iadd, 1) := by decide +kernel
theorem dX12_more_8 : decode cX12_more 8 = .ok (.iaload, 1) := by decide +kernel
theorem dX12_more_9 : decode cX12_more 9 = .ok (.aload_n 0, 1) := by decide +kernel
theorem dX12_more_10 : decode cX12_more 10 = .ok (.getfield 13, 3) := by decide +kernel
theorem dX12_more_13 : decode cX12_more 13 = .ok (.bipush 12, 2) := by decide +kernel
theorem dX12_more_15 : decode cX12_more 15 = .ok (.iconst 4, 1) := by decide +kernel
theorem dX12_more_16 : decode cX12_more 16 = .ok (.iload_n 1, 1) := by decide +kernel
theorem dX12_more_17 : decode cX12_more 17 = .ok (.imul, 1) := by decide +kernel
theorem dX12_more_18 : decode cX12_more 18 = .ok (.iadd, 1) := by decide +kernel
theorem dX12_more_19 : decode cX12_more 19 = .ok (.iconst 3, 1) := by decide +kernel
theorem dX12_more_20 : decode cX12_more 20 = .ok (.iadd, 1) := by decide +kernel
theorem dX12_more_21 : decode cX12_more 21 = .ok (.iaload, 1) := by decide +kernel
theorem dX12_more_22 : decode cX12_more 22 = .ok (.isub, 1) := by decide +kernel
theorem dX12_more_23 : decode cX12_more 23 = .ok (.ireturn, 1) := by decide +kernel
theorem dX12_awake_0 : decode cX12_awake 0 = .ok (.iconst 0, 1) := by decide +kernel
theorem dX12_awake_1 : decode cX12_awake 1 = .ok (.istore_n 1, 1) := by decide +kernel
theorem dX12_awake_2 : decode cX12_awake 2 = .ok (.iconst 0, 1) := by decide +kernel
theorem dX12_awake_3 : decode cX12_awake 3 = .ok (.istore_n 2, 1) := by decide +kernel
theorem dX12_awake_4 : decode cX12_awake 4 = .ok (.iload_n 2, 1) := by decide +kernel
theorem dX12_awake_5 : decode cX12_awake 5 = .ok (.aload_n 0, 1) := by decide +kernel
theorem dX12_awake_6 : decode cX12_awake 6 = .ok (.getfield 13, 3) := by decide +kernel
theorem dX12_awake_9 : decode cX12_awake 9 = .ok (.iconst 2, 1) := by decide +kernel
theorem dX12_awake_10 : decode cX12_awake 10 = .ok (.iaload, 1) := by decide +kernel
theorem dX12_awake_11 : decode cX12_awake 11 = .ok (.if_icmp .ge 39, 3) := by decide +kernel
theorem dX12_awake_14 : decode cX12_awake 14 = .ok (.iload_n 1, 1) := by decide +kernel
theorem dX12_awake_15 : decode cX12_awake 15 = .ok (.aload_n 0, 1) := by decide +kernel
theorem dX12_awake_16 : decode cX12_awake 16 = .ok (.invokevirtual 122, 3) := by decide +kernel
theorem dX12_awake_19 : decode cX12_awake 19 = .ok (.iload_n 2, 1) := by decide +kernel
theorem dX12_awake_20 : decode cX12_awake 20 = .ok (.ishr, 1) := by decide +kernel
theorem dX12_awake_21 : decode cX12_awake 21 = .ok (.iconst 1, 1) := by decide +kernel
theorem dX12_awake_22 : decode cX12_awake 22 = .ok (.iand, 1) := by decide +kernel
theorem dX12_awake_23 : decode cX12_awake 23 = .ok (.iconst 1, 1) := by decide +kernel
theorem dX12_awake_24 : decode cX12_awake 24 = .ok (.if_icmp .ne 17, 3) := by decide +kernel
theorem dX12_awake_27 : decode cX12_awake 27 = .ok (.aload_n 0, 1) := by decide +kernel
theorem dX12_awake_28 : decode cX12_awake 28 = .ok (.iload_n 2, 1) := by decide +kernel
theorem dX12_awake_29 : decode cX12_awake 29 = .ok (.invokevirtual 125, 3) := by decide +kernel
theorem dX12_awake_32 : decode cX12_awake 32 = .ok (.ifCond .gt 9, 3) := by decide +kernel
theorem dX12_awake_35 : decode cX12_awake 35 = .ok (.iconst 1, 1) := by decide +kernel
theorem dX12_awake_36 : decode cX12_awake 36 = .ok (.iload_n 2, 1) := by decide +kernel
theorem dX12_awake_37 : decode cX12_awake 37 = .ok (.ishl, 1) := by decide +kernel
theorem dX12_awake_38 : decode cX12_awake 38 = .ok (.goto 4, 3) := by decide +kernel
theorem dX12_awake_41 : decode cX12_awake 41 = .ok (.iconst 0, 1) := by decide +kernel
theorem dX12_awake_42 : decode cX12_awake 42 = .ok (.ior, 1) := by decide +kernel
theorem dX12_awake_43 : decode cX12_awake 43 = .ok (.istore_n 1, 1) := by decide +kernel
theorem dX12_awake_44 : decode cX12_awake 44 = .ok (.iinc 2 1, 3) := by decide +kernel
theorem dX12_awake_47 : decode cX12_awake 47 = .ok (.goto (-43), 3) := by decide +kernel
theorem dX12_awake_50 : decode cX12_awake 50 = .ok (.iload_n 1, 1) := by decide +kernel
theorem dX12_awake_51 : decode cX12_awake 51 = .ok (.ireturn, 1) := by decide +kernel
theorem dX12_coldest_0 : decode cX12_coldest 0 = .ok (.iconst (-1), 1) := by decide +kernel
theorem dX12_coldest_1 : decode cX12_coldest 1 = .ok (.istore_n 1, 1) := by decide +kernel
theorem dX12_coldest_2 : decode cX12_coldest 2 = .ok (.iconst 0, 1) := by decide +kernel
theorem dX12_coldest_3 : decode cX12_coldest 3 = .ok (.istore_n 2, 1) := by decide +kernel
theorem dX12_coldest_4 : decode cX12_coldest 4 = .ok (.iload_n 2, 1) := by decide +kernel
theorem dX12_coldest_5 : decode cX12_coldest 5 = .ok (.aload_n 0, 1) := by decide +kernel
theorem dX12_coldest_6 : decode cX12_coldest 6 = .ok (.getfield 13, 3) := by decide +kernel
theorem dX12_coldest_9 : decode cX12_coldest 9 = .ok (.iconst 2, 1) := by decide +kernel
theorem dX12_coldest_10 : decode cX12_coldest 10 = .ok (.iaload, 1) := by decide +kernel
theorem dX12_coldest_11 : decode cX12_coldest 11 = .ok (.if_icmp .ge 61, 3) := by decide +kernel
theorem dX12_coldest_14 : decode cX12_coldest 14 = .ok (.aload_n 0, 1) := by decide +kernel
theorem dX12_coldest_15 : decode cX12_coldest 15 = .ok (.invokevirtual 122, 3) := by decide +kernel
theorem dX12_coldest_18 : decode cX12_coldest 18 = .ok (.iload_n 2, 1) := by decide +kernel
theorem dX12_coldest_19 : decode cX12_coldest 19 = .ok (.ishr, 1) := by decide +kernel
theorem dX12_coldest_20 : decode cX12_coldest 20 = .ok (.iconst 1, 1) := by decide +kernel
theorem dX12_coldest_21 : decode cX12_coldest 21 = .ok (.iand, 1) := by decide +kernel
theorem dX12_coldest_22 : decode cX12_coldest 22 = .ok (.iconst 1, 1) := by decide +kernel
theorem dX12_coldest_23 : decode cX12_coldest 23 = .ok (.if_icmp .ne 24, 3) := by decide +kernel
theorem dX12_coldest_26 : decode cX12_coldest 26 = .ok (.iload_n 1, 1) := by decide +kernel
theorem dX12_coldest_27 : decode cX12_coldest 27 = .ok (.iconst (-1), 1) := by decide +kernel
theorem dX12_coldest_28 : decode cX12_coldest 28 = .ok (.if_icmp .eq 15, 3) := by decide +kernel
theorem dX12_coldest_31 : decode cX12_coldest 31 = .ok (.bipush 100, 2) := by decide +kernel
theorem dX12_coldest_33 : decode cX12_coldest 33 = .ok (.aload_n 0, 1) := by decide +kernel
theorem dX12_coldest_34 : decode cX12_coldest 34 = .ok (.iload_n 2, 1) := by decide +kernel
theorem dX12_coldest_35 : decode cX12_coldest 35 = .ok (.invokevirtual 125, 3) := by decide +kernel
theorem dX12_coldest_38 : decode cX12_coldest 38 = .ok (.iadd, 1) := by decide +kernel
theorem dX12_coldest_39 : decode cX12_coldest 39 = .ok (.iload_n 1, 1) := by decide +kernel
theorem dX12_coldest_40 : decode cX12_coldest 40 = .ok (.if_icmp .ge 7, 3) := by decide +kernel
theorem dX12_coldest_43 : decode cX12_coldest 43 = .ok (.iconst 1, 1) := by decide +kernel
theorem dX12_coldest_44 : decode cX12_coldest 44 = .ok (.goto 4, 3) := by decide +kernel
theorem dX12_coldest_47 : decode cX12_coldest 47 = .ok (.iconst 0, 1) := by decide +kernel
theorem dX12_coldest_48 : decode cX12_coldest 48 = .ok (.istore_n 3, 1) := by decide +kernel
theorem dX12_coldest_49 : decode cX12_coldest 49 = .ok (.iload_n 3, 1) := by decide +kernel
theorem dX12_coldest_50 : decode cX12_coldest 50 = .ok (.ifCond .eq 14, 3) := by decide +kernel
theorem dX12_coldest_53 : decode cX12_coldest 53 = .ok (.bipush 100, 2) := by decide +kernel
theorem dX12_coldest_55 : decode cX12_coldest 55 = .ok (.aload_n 0, 1) := by decide +kernel
theorem dX12_coldest_56 : decode cX12_coldest 56 = .ok (.iload_n 2, 1) := by decide +kernel
theorem dX12_coldest_57 : decode cX12_coldest 57 = .ok (.invokevirtual 125, 3) := by decide +kernel
theorem dX12_coldest_60 : decode cX12_coldest 60 = .ok (.iadd, 1) := by decide +kernel
theorem dX12_coldest_61 : decode cX12_coldest 61 = .ok (.goto 4, 3) := by decide +kernel
theorem dX12_coldest_64 : decode cX12_coldest 64 = .ok (.iload_n 1, 1) := by decide +kernel
theorem dX12_coldest_65 : decode cX12_coldest 65 = .ok (.istore_n 1, 1) := by decide +kernel
theorem dX12_coldest_66 : decode cX12_coldest 66 = .ok (.iinc 2 1, 3) := by decide +kernel
theorem dX12_coldest_69 : decode cX12_coldest 69 = .ok (.goto (-65), 3) := by decide +kernel
theorem dX12_coldest_72 : decode cX12_coldest 72 = .ok (.iload_n 1, 1) := by decide +kernel
theorem dX12_coldest_73 : decode cX12_coldest 73 = .ok (.ireturn, 1) := by decide +kernel
theorem dX12_turns_0 : decode cX12_turns 0 = .ok (.aload_n 0, 1) := by decide +kernel
theorem dX12_turns_1 : decode cX12_turns 1 = .ok (.getfield 13, 3) := by decide +kernel
theorem dX12_turns_4 : decode cX12_turns 4 = .ok (.iconst 0, 1) := by decide +kernel
theorem dX12_turns_5 : decode cX12_turns 5 = .ok (.iaload, 1) := by decide +kernel
theorem dX12_turns_6 : decode cX12_turns 6 = .ok (.istore_n 2, 1) := by decide +kernel
theorem dX12_turns_7 : decode cX12_turns 7 = .ok (.iload_n 1, 1) := by decide +kernel
theorem dX12_turns_8 : decode cX12_turns 8 = .ok (.iconst 1, 1) := by decide +kernel
theorem dX12_turns_9 : decode cX12_turns 9 = .ok (.if_icmp .ne 51, 3) := by decide +kernel
theorem dX12_turns_12 : decode cX12_turns 12 = .ok (.aload_n 0, 1) := by decide +kernel
theorem dX12_turns_13 : decode cX12_turns 13 = .ok (.getfield 19, 3) := by decide +kernel
theorem dX12_turns_16 : decode cX12_turns 16 = .ok (.iload_n 2, 1) := by decide +kernel
theorem dX12_turns_17 : decode cX12_turns 17 = .ok (.iaload, 1) := by decide +kernel
theorem dX12_turns_18 : decode cX12_turns 18 = .ok (.istore_n 3, 1) := by decide +kernel
theorem dX12_turns_19 : decode cX12_turns 19 = .ok (.iload_n 2, 1) := by decide +kernel
theorem dX12_turns_20 : decode cX12_turns 20 = .ok (.istore 4, 2) := by decide +kernel
theorem dX12_turns_22 : decode cX12_turns 22 = .ok (.iload 4, 2) := by decide +kernel
theorem dX12_turns_24 : decode cX12_turns 24 = .ok (.iconst 1, 1) := by decide +kernel
theorem dX12_turns_25 : decode cX12_turns 25 = .ok (.if_icmp .le 25, 3) := by decide +kernel
theorem dX12_turns_28 : decode cX12_turns 28 = .ok (.aload_n 0, 1) := by decide +kernel
theorem dX12_turns_29 : decode cX12_turns 29 = .ok (.getfield 19, 3) := by decide +kernel
theorem dX12_turns_32 : decode cX12_turns 32 = .ok (.iload 4, 2) := by decide +kernel
theorem dX12_turns_34 : decode cX12_turns 34 = .ok (.aload_n 0, 1) := by decide +kernel
theorem dX12_turns_35 : decode cX12_turns 35 = .ok (.getfield 19, 3) := by decide +kernel
theorem dX12_turns_38 : decode cX12_turns 38 = .ok (.iload 4, 2) := by decide +kernel
theorem dX12_turns_40 : decode cX12_turns 40 = .ok (.iconst 1, 1) := by decide +kernel
theorem dX12_turns_41 : decode cX12_turns 41 = .ok (.isub, 1) := by decide +kernel
theorem dX12_turns_42 : decode cX12_turns 42 = .ok (.iaload, 1) := by decide +kernel
theorem dX12_turns_43 : decode cX12_turns 43 = .ok (.iastore, 1) := by decide +kernel
theorem dX12_turns_44 : decode cX12_turns 44 = .ok (.iinc 4 (-1), 3) := by decide +kernel
theorem dX12_turns_47 : decode cX12_turns 47 = .ok (.goto (-25), 3) := by decide +kernel
theorem dX12_turns_50 : decode cX12_turns 50 = .ok (.aload_n 0, 1) := by decide +kernel
theorem dX12_turns_51 : decode cX12_turns 51 = .ok (.getfield 19, 3) := by decide +kernel
theorem dX12_turns_54 : decode cX12_turns 54 = .ok (.iconst 1, 1) := by decide +kernel
theorem dX12_turns_55 : decode cX12_turns 55 = .ok (.iload_n 3, 1) := by decide +kernel
theorem dX12_turns_56 : decode cX12_turns 56 = .ok (.iastore, 1) := by decide +kernel
theorem dX12_turns_57 : decode cX12_turns 57 = .ok (.goto 87, 3) := by decide +kernel
theorem dX12_turns_60 : decode cX12_turns 60 = .ok (.iload_n 1, 1) := by decide +kernel
theorem dX12_turns_61 : decode cX12_turns 61 = .ok (.iconst 2, 1) := by decide +kernel
theorem dX12_turns_62 : decode cX12_turns 62 = .ok (.if_icmp .ne 51, 3) := by decide +kernel
theorem dX12_turns_65 : decode cX12_turns 65 = .ok (.aload_n 0, 1) := by decide +kernel
theorem dX12_turns_66 : decode cX12_turns 66 = .ok (.getfield 19, 3) := by decide +kernel
theorem dX12_turns_69 : decode cX12_turns 69 = .ok (.iconst 1, 1) := by decide +kernel
theorem dX12_turns_70 : decode cX12_turns 70 = .ok (.iaload, 1) := by decide +kernel
theorem dX12_turns_71 : decode cX12_turns 71 = .ok (.istore_n 3, 1) := by decide +kernel
theorem dX12_turns_72 : decode cX12_turns 72 = .ok (.iconst 1, 1) := by decide +kernel
theorem dX12_turns_73 : decode cX12_turns 73 = .ok (.istore 4, 2) := by decide +kernel
theorem dX12_turns_75 : decode cX12_turns 75 = .ok (.iload 4, 2) := by decide +kernel
theorem dX12_turns_77 : decode cX12_turns 77 = .ok (.iload_n 2, 1) := by decide +kernel
theorem dX12_turns_78 : decode cX12_turns 78 = .ok (.if_icmp .ge 25, 3) := by decide +kernel
theorem dX12_turns_81 : decode cX12_turns 81 = .ok (.aload_n 0, 1) := by decide +kernel
theorem dX12_turns_82 : decode cX12_turns 82 = .ok (.getfield 19, 3) := by decide +kernel
theorem dX12_turns_85 : decode cX12_turns 85 = .ok (.iload 4, 2) := by decide +kernel
theorem dX12_turns_87 : decode cX12_turns 87 = .ok (.aload_n 0, 1) := by decide +kernel
theorem dX12_turns_88 : decode cX12_turns 88 = .ok (.getfield 19, 3) := by decide +kernel
theorem dX12_turns_91 : decode cX12_turns 91 = .ok (.iload 4, 2) := by decide +kernel
theorem dX12_turns_93 : decode cX12_turns 93 = .ok (.iconst 1, 1) := by decide +kernel
theorem dX12_turns_94 : decode cX12_turns 94 = .ok (.iadd, 1) := by decide +kernel
theorem dX12_turns_95 : decode cX12_turns 95 = .ok (.iaload, 1) := by decide +kernel
theorem dX12_turns_96 : decode cX12_turns 96 = .ok (.iastore, 1) := by decide +kernel
theorem dX12_turns_97 : decode cX12_turns 97 = .ok (.iinc 4 1, 3) := by decide +kernel
theorem dX12_turns_100 : decode cX12_turns 100 = .ok (.goto (-25), 3) := by decide +kernel
theorem dX12_turns_103 : decode cX12_turns 103 = .ok (.aload_n 0, 1) := by decide +kernel
theorem dX12_turns_104 : decode cX12_turns 104 = .ok (.getfield 19, 3) := by decide +kernel
theorem dX12_turns_107 : decode cX12_turns 107 = .ok (.iload_n 2, 1) := by decide +kernel
theorem dX12_turns_108 : decode cX12_turns 108 = .ok (.iload_n 3, 1) := by decide +kernel
theorem dX12_turns_109 : decode cX12_turns 109 = .ok (.iastore, 1) := by decide +kernel
theorem dX12_turns_110 : decode cX12_turns 110 = .ok (.goto 34, 3) := by decide +kernel
theorem dX12_turns_113 : decode cX12_turns 113 = .ok (.iload_n 1, 1) := by decide +kernel
theorem dX12_turns_114 : decode cX12_turns 114 = .ok (.iconst 3, 1) := by decide +kernel
theorem dX12_turns_115 : decode cX12_turns 115 = .ok (.if_icmp .ne 29, 3) := by decide +kernel
theorem dX12_turns_118 : decode cX12_turns 118 = .ok (.aload_n 0, 1) := by decide +kernel
theorem dX12_turns_119 : decode cX12_turns 119 = .ok (.getfield 19, 3) := by decide +kernel
theorem dX12_turns_122 : decode cX12_turns 122 = .ok (.iconst 1, 1) := by decide +kernel
theorem dX12_turns_123 : decode cX12_turns 123 = .ok (.iaload, 1) := by decide +kernel
theorem dX12_turns_124 : decode cX12_turns 124 = .ok (.istore_n 3, 1) := by decide +kernel
theorem dX12_turns_125 : decode cX12_turns 125 = .ok (.aload_n 0, 1) := by decide +kernel
theorem dX12_turns_126 : decode cX12_turns 126 = .ok (.getfield 19, 3) := by decide +kernel
theorem dX12_turns_129 : decode cX12_turns 129 = .ok (.iconst 1, 1) := by decide +kernel
theorem dX12_turns_130 : decode cX12_turns 130 = .ok (.aload_n 0, 1) := by decide +kernel
theorem dX12_turns_131 : decode cX12_turns 131 = .ok (.getfield 19, 3) := by decide +kernel
theorem dX12_turns_134 : decode cX12_turns 134 = .ok (.iload_n 2, 1) := by decide +kernel
theorem dX12_turns_135 : decode cX12_turns 135 = .ok (.iaload, 1) := by decide +kernel
theorem dX12_turns_136 : decode cX12_turns 136 = .ok (.iastore, 1) := by decide +kernel
theorem dX12_turns_137 : decode cX12_turns 137 = .ok (.aload_n 0, 1) := by decide +kernel
theorem dX12_turns_138 : decode cX12_turns 138 = .ok (.getfield 19, 3) := by decide +kernel
theorem dX12_turns_141 : decode cX12_turns 141 = .ok (.iload_n 2, 1) := by decide +kernel
theorem dX12_turns_142 : decode cX12_turns 142 = .ok (.iload_n 3, 1) := by decide +kernel
theorem dX12_turns_143 : decode cX12_turns 143 = .ok (.iastore, 1) := by decide +kernel
theorem dX12_turns_144 : decode cX12_turns 144 = .ok (.return_, 1) := by decide +kernel
theorem dX12_goesOn_0 : decode cX12_goesOn 0 = .ok (.aload_n 0, 1) := by decide +kernel
theorem dX12_goesOn_1 : decode cX12_goesOn 1 = .ok (.iload_n 1, 1) := by decide +kernel
theorem dX12_goesOn_2 : decode cX12_goesOn 2 = .ok (.invokevirtual 129, 3) := by decide +kernel
theorem dX12_goesOn_5 : decode cX12_goesOn 5 = .ok (.aload_n 0, 1) := by decide +kernel
theorem dX12_goesOn_6 : decode cX12_goesOn 6 = .ok (.getfield 13, 3) := by decide +kernel
theorem dX12_goesOn_9 : decode cX12_goesOn 9 = .ok (.iconst 0, 1) := by decide +kernel
theorem dX12_goesOn_10 : decode cX12_goesOn 10 = .ok (.iaload, 1) := by decide +kernel
theorem dX12_goesOn_11 : decode cX12_goesOn 11 = .ok (.istore_n 2, 1) := by decide +kernel
theorem dX12_goesOn_12 : decode cX12_goesOn 12 = .ok (.iconst 0, 1) := by decide +kernel
theorem dX12_goesOn_13 : decode cX12_goesOn 13 = .ok (.istore_n 3, 1) := by decide +kernel
theorem dX12_goesOn_14 : decode cX12_goesOn 14 = .ok (.iload_n 3, 1) := by decide +kernel
theorem dX12_goesOn_15 : decode cX12_goesOn 15 = .ok (.aload_n 0, 1) := by decide +kernel
theorem dX12_goesOn_16 : decode cX12_goesOn 16 = .ok (.getfield 13, 3) := by decide +kernel
theorem dX12_goesOn_19 : decode cX12_goesOn 19 = .ok (.iconst 2, 1) := by decide +kernel
theorem dX12_goesOn_20 : decode cX12_goesOn 20 = .ok (.iaload, 1) := by decide +kernel
theorem dX12_goesOn_21 : decode cX12_goesOn 21 = .ok (.if_icmp .ge 164, 3) := by decide +kernel
theorem dX12_goesOn_24 : decode cX12_goesOn 24 = .ok (.aload_n 0, 1) := by decide +kernel
theorem dX12_goesOn_25 : decode cX12_goesOn 25 = .ok (.iload_n 3, 1) := by decide +kernel
theorem dX12_goesOn_26 : decode cX12_goesOn 26 = .ok (.invokevirtual 133, 3) := by decide +kernel
theorem dX12_goesOn_29 : decode cX12_goesOn 29 = .ok (.istore 4, 2) := by decide +kernel
theorem dX12_goesOn_31 : decode cX12_goesOn 31 = .ok (.iload 4, 2) := by decide +kernel
theorem dX12_goesOn_33 : decode cX12_goesOn 33 = .ok (.iconst (-1), 1) := by decide +kernel
theorem dX12_goesOn_34 : decode cX12_goesOn 34 = .ok (.if_icmp .ne 20, 3) := by decide +kernel
theorem dX12_goesOn_37 : decode cX12_goesOn 37 = .ok (.aload_n 0, 1) := by decide +kernel
theorem dX12_goesOn_38 : decode cX12_goesOn 38 = .ok (.getfield 22, 3) := by decide +kernel
theorem dX12_goesOn_41 : decode cX12_goesOn 41 = .ok (.iload_n 3, 1) := by decide +kernel
theorem dX12_goesOn_42 : decode cX12_goesOn 42 = .ok (.bipush (-2), 2) := by decide +kernel
theorem dX12_goesOn_44 : decode cX12_goesOn 44 = .ok (.aload_n 0, 1) := by decide +kernel
theorem dX12_goesOn_45 : decode cX12_goesOn 45 = .ok (.iload_n 3, 1) := by decide +kernel
theorem dX12_goesOn_46 : decode cX12_goesOn 46 = .ok (.invokevirtual 136, 3) := by decide +kernel
theorem dX12_goesOn_49 : decode cX12_goesOn 49 = .ok (.imul, 1) := by decide +kernel
theorem dX12_goesOn_50 : decode cX12_goesOn 50 = .ok (.iastore, 1) := by decide +kernel
theorem dX12_goesOn_51 : decode cX12_goesOn 51 = .ok (.goto 128, 3) := by decide +kernel
theorem dX12_goesOn_54 : decode cX12_goesOn 54 = .ok (.iload 4, 2) := by decide +kernel
theorem dX12_goesOn_56 : decode cX12_goesOn 56 = .ok (.ifCond .le 13, 3) := by decide +kernel
theorem dX12_goesOn_59 : decode cX12_goesOn 59 = .ok (.aload_n 0, 1) := by decide +kernel
theorem dX12_goesOn_60 : decode cX12_goesOn 60 = .ok (.getfield 19, 3) := by decide +kernel
theorem dX12_goesOn_63 : decode cX12_goesOn 63 = .ok (.iload 4, 2) := by decide +kernel
theorem dX12_goesOn_65 : decode cX12_goesOn 65 = .ok (.iaload, 1) := by decide +kernel
theorem dX12_goesOn_66 : decode cX12_goesOn 66 = .ok (.goto 28, 3) := by decide +kernel
theorem dX12_goesOn_69 : decode cX12_goesOn 69 = .ok (.aload_n 0, 1) := by decide +kernel
theorem dX12_goesOn_70 : decode cX12_goesOn 70 = .ok (.getfield 13, 3) := by decide +kernel
theorem dX12_goesOn_73 : decode cX12_goesOn 73 = .ok (.iconst 1, 1) := by decide +kernel
theorem dX12_goesOn_74 : decode cX12_goesOn 74 = .ok (.iaload, 1) := by decide +kernel
theorem dX12_goesOn_75 : decode cX12_goesOn 75 = .ok (.iconst 1, 1) := by decide +kernel
theorem dX12_goesOn_76 : decode cX12_goesOn 76 = .ok (.if_icmp .ne 17, 3) := by decide +kernel
theorem dX12_goesOn_79 : decode cX12_goesOn 79 = .ok (.iload_n 2, 1) := by decide +kernel
theorem dX12_goesOn_80 : decode cX12_goesOn 80 = .ok (.iconst 2, 1) := by decide +kernel
theorem dX12_goesOn_81 : decode cX12_goesOn 81 = .ok (.if_icmp .le 12, 3) := by decide +kernel
theorem dX12_goesOn_84 : decode cX12_goesOn 84 = .ok (.aload_n 0, 1) := by decide +kernel
theorem dX12_goesOn_85 : decode cX12_goesOn 85 = .ok (.getfield 19, 3) := by decide +kernel
theorem dX12_goesOn_88 : decode cX12_goesOn 88 = .ok (.iload_n 2, 1) := by decide +kernel
theorem dX12_goesOn_89 : decode cX12_goesOn 89 = .ok (.iaload, 1) := by decide +kernel
theorem dX12_goesOn_90 : decode cX12_goesOn 90 = .ok (.goto 4, 3) := by decide +kernel
theorem dX12_goesOn_93 : decode cX12_goesOn 93 = .ok (.iconst (-1), 1) := by decide +kernel
theorem dX12_goesOn_94 : decode cX12_goesOn 94 = .ok (.istore 5, 2) := by decide +kernel
theorem dX12_goesOn_96 : decode cX12_goesOn 96 = .ok (.iload 4, 2) := by decide +kernel
theorem dX12_goesOn_98 : decode cX12_goesOn 98 = .ok (.iload_n 2, 1) := by decide +kernel
theorem dX12_goesOn_99 : decode cX12_goesOn 99 = .ok (.iconst 1, 1) := by decide +kernel
theorem dX12_goesOn_100 : decode cX12_goesOn 100 = .ok (.isub, 1) := by decide +kernel
theorem dX12_goesOn_101 : decode cX12_goesOn 101 = .ok (.if_icmp .ge 15, 3) := by decide +kernel
theorem dX12_goesOn_104 : decode cX12_goesOn 104 = .ok (.aload_n 0, 1) := by decide +kernel
theorem dX12_goesOn_105 : decode cX12_goesOn 105 = .ok (.getfield 19, 3) := by decide +kernel
theorem dX12_goesOn_108 : decode cX12_goesOn 108 = .ok (.iload 4, 2) := by decide +kernel
theorem dX12_goesOn_110 : decode cX12_goesOn 110 = .ok (.iconst 2, 1) := by decide +kernel
theorem dX12_goesOn_111 : decode cX12_goesOn 111 = .ok (.iadd, 1) := by decide +kernel
theorem dX12_goesOn_112 : decode cX12_goesOn 112 = .ok (.iaload, 1) := by decide +kernel
theorem dX12_goesOn_113 : decode cX12_goesOn 113 = .ok (.goto 28, 3) := by decide +kernel
theorem dX12_goesOn_116 : decode cX12_goesOn 116 = .ok (.aload_n 0, 1) := by decide +kernel
theorem dX12_goesOn_117 : decode cX12_goesOn 117 = .ok (.getfield 13, 3) := by decide +kernel
theorem dX12_goesOn_120 : decode cX12_goesOn 120 = .ok (.iconst 1, 1) := by decide +kernel
theorem dX12_goesOn_121 : decode cX12_goesOn 121 = .ok (.iaload, 1) := by decide +kernel
theorem dX12_goesOn_122 : decode cX12_goesOn 122 = .ok (.iconst 1, 1) := by decide +kernel
theorem dX12_goesOn_123 : decode cX12_goesOn 123 = .ok (.if_icmp .ne 17, 3) := by decide +kernel
theorem dX12_goesOn_126 : decode cX12_goesOn 126 = .ok (.iload_n 2, 1) := by decide +kernel
theorem dX12_goesOn_127 : decode cX12_goesOn 127 = .ok (.iconst 2, 1) := by decide +kernel
theorem dX12_goesOn_128 : decode cX12_goesOn 128 = .ok (.if_icmp .le 12, 3) := by decide +kernel
theorem dX12_goesOn_131 : decode cX12_goesOn 131 = .ok (.aload_n 0, 1) := by decide +kernel
theorem dX12_goesOn_132 : decode cX12_goesOn 132 = .ok (.getfield 19, 3) := by decide +kernel
theorem dX12_goesOn_135 : decode cX12_goesOn 135 = .ok (.iconst 1, 1) := by decide +kernel
theorem dX12_goesOn_136 : decode cX12_goesOn 136 = .ok (.iaload, 1) := by decide +kernel
theorem dX12_goesOn_137 : decode cX12_goesOn 137 = .ok (.goto 4, 3) := by decide +kernel
theorem dX12_goesOn_140 : decode cX12_goesOn 140 = .ok (.iconst (-1), 1) := by decide +kernel
theorem dX12_goesOn_141 : decode cX12_goesOn 141 = .ok (.istore 6, 2) := by decide +kernel
theorem dX12_goesOn_143 : decode cX12_goesOn 143 = .ok (.aload_n 0, 1) := by decide +kernel
theorem dX12_goesOn_144 : decode cX12_goesOn 144 = .ok (.getfield 22, 3) := by decide +kernel
theorem dX12_goesOn_147 : decode cX12_goesOn 147 = .ok (.iload_n 3, 1) := by decide +kernel
theorem dX12_goesOn_148 : decode cX12_goesOn 148 = .ok (.aload_n 0, 1) := by decide +kernel
theorem dX12_goesOn_149 : decode cX12_goesOn 149 = .ok (.getfield 13, 3) := by decide +kernel
theorem dX12_goesOn_152 : decode cX12_goesOn 152 = .ok (.bipush 6, 2) := by decide +kernel
theorem dX12_goesOn_154 : decode cX12_goesOn 154 = .ok (.iload 4, 2) := by decide +kernel
theorem dX12_goesOn_156 : decode cX12_goesOn 156 = .ok (.iadd, 1) := by decide +kernel
theorem dX12_goesOn_157 : decode cX12_goesOn 157 = .ok (.iaload, 1) := by decide +kernel
theorem dX12_goesOn_158 : decode cX12_goesOn 158 = .ok (.aload_n 0, 1) := by decide +kernel
theorem dX12_goesOn_159 : decode cX12_goesOn 159 = .ok (.iload 5, 2) := by decide +kernel
theorem dX12_goesOn_161 : decode cX12_goesOn 161 = .ok (.invokevirtual 139, 3) := by decide +kernel
theorem dX12_goesOn_164 : decode cX12_goesOn 164 = .ok (.iadd, 1) := by decide +kernel
theorem dX12_goesOn_165 : decode cX12_goesOn 165 = .ok (.aload_n 0, 1) := by decide +kernel
theorem dX12_goesOn_166 : decode cX12_goesOn 166 = .ok (.iload 6, 2) := by decide +kernel
theorem dX12_goesOn_168 : decode cX12_goesOn 168 = .ok (.invokevirtual 139, 3) := by decide +kernel
theorem dX12_goesOn_171 : decode cX12_goesOn 171 = .ok (.iadd, 1) := by decide +kernel
theorem dX12_goesOn_172 : decode cX12_goesOn 172 = .ok (.aload_n 0, 1) := by decide +kernel
theorem dX12_goesOn_173 : decode cX12_goesOn 173 = .ok (.iload_n 3, 1) := by decide +kernel
theorem dX12_goesOn_174 : decode cX12_goesOn 174 = .ok (.invokevirtual 136, 3) := by decide +kernel
theorem dX12_goesOn_177 : decode cX12_goesOn 177 = .ok (.isub, 1) := by decide +kernel
theorem dX12_goesOn_178 : decode cX12_goesOn 178 = .ok (.iastore, 1) := by decide +kernel
theorem dX12_goesOn_179 : decode cX12_goesOn 179 = .ok (.iinc 3 1, 3) := by decide +kernel
theorem dX12_goesOn_182 : decode cX12_goesOn 182 = .ok (.goto (-168), 3) := by decide +kernel
theorem dX12_goesOn_185 : decode cX12_goesOn 185 = .ok (.iconst 0, 1) := by decide +kernel
theorem dX12_goesOn_186 : decode cX12_goesOn 186 = .ok (.istore_n 3, 1) := by decide +kernel
theorem dX12_goesOn_187 : decode cX12_goesOn 187 = .ok (.iload_n 3, 1) := by decide +kernel
theorem dX12_goesOn_188 : decode cX12_goesOn 188 = .ok (.aload_n 0, 1) := by decide +kernel
theorem dX12_goesOn_189 : decode cX12_goesOn 189 = .ok (.getfield 13, 3) := by decide +kernel
theorem dX12_goesOn_192 : decode cX12_goesOn 192 = .ok (.iconst 2, 1) := by decide +kernel
theorem dX12_goesOn_193 : decode cX12_goesOn 193 = .ok (.iaload, 1) := by decide +kernel
theorem dX12_goesOn_194 : decode cX12_goesOn 194 = .ok (.if_icmp .ge 59, 3) := by decide +kernel
theorem dX12_goesOn_197 : decode cX12_goesOn 197 = .ok (.aload_n 0, 1) := by decide +kernel
theorem dX12_goesOn_198 : decode cX12_goesOn 198 = .ok (.getfield 19, 3) := by decide +kernel
theorem dX12_goesOn_201 : decode cX12_goesOn 201 = .ok (.bipush 7, 2) := by decide +kernel
theorem dX12_goesOn_203 : decode cX12_goesOn 203 = .ok (.iload_n 3, 1) := by decide +kernel
theorem dX12_goesOn_204 : decode cX12_goesOn 204 = .ok (.iadd, 1) := by decide +kernel
theorem dX12_goesOn_205 : decode cX12_goesOn 205 = .ok (.iaload, 1) := by decide +kernel
theorem dX12_goesOn_206 : decode cX12_goesOn 206 = .ok (.aload_n 0, 1) := by decide +kernel
theorem dX12_goesOn_207 : decode cX12_goesOn 207 = .ok (.getfield 22, 3) := by decide +kernel
theorem dX12_goesOn_210 : decode cX12_goesOn 210 = .ok (.iload_n 3, 1) := by decide +kernel
theorem dX12_goesOn_211 : decode cX12_goesOn 211 = .ok (.iaload, 1) := by decide +kernel
theorem dX12_goesOn_212 : decode cX12_goesOn 212 = .ok (.iadd, 1) := by decide +kernel
theorem dX12_goesOn_213 : decode cX12_goesOn 213 = .ok (.istore 4, 2) := by decide +kernel
theorem dX12_goesOn_215 : decode cX12_goesOn 215 = .ok (.aload_n 0, 1) := by decide +kernel
theorem dX12_goesOn_216 : decode cX12_goesOn 216 = .ok (.getfield 19, 3) := by decide +kernel
theorem dX12_goesOn_219 : decode cX12_goesOn 219 = .ok (.bipush 7, 2) := by decide +kernel
theorem dX12_goesOn_221 : decode cX12_goesOn 221 = .ok (.iload_n 3, 1) := by decide +kernel
theorem dX12_goesOn_222 : decode cX12_goesOn 222 = .ok (.iadd, 1) := by decide +kernel
theorem dX12_goesOn_223 : decode cX12_goesOn 223 = .ok (.iload 4, 2) := by decide +kernel
theorem dX12_goesOn_225 : decode cX12_goesOn 225 = .ok (.ifCond .ge 7, 3) := by decide +kernel
theorem dX12_goesOn_228 : decode cX12_goesOn 228 = .ok (.iconst 0, 1) := by decide +kernel
theorem dX12_goesOn_229 : decode cX12_goesOn 229 = .ok (.goto 17, 3) := by decide +kernel
theorem dX12_goesOn_232 : decode cX12_goesOn 232 = .ok (.iload 4, 2) := by decide +kernel
theorem dX12_goesOn_234 : decode cX12_goesOn 234 = .ok (.bipush 99, 2) := by decide +kernel
theorem dX12_goesOn_236 : decode cX12_goesOn 236 = .ok (.if_icmp .le 8, 3) := by decide +kernel
theorem dX12_goesOn_239 : decode cX12_goesOn 239 = .ok (.bipush 99, 2) := by decide +kernel
theorem dX12_goesOn_241 : decode cX12_goesOn 241 = .ok (.goto 5, 3) := by decide +kernel
theorem dX12_goesOn_244 : decode cX12_goesOn 244 = .ok (.iload 4, 2) := by decide +kernel
theorem dX12_goesOn_246 : decode cX12_goesOn 246 = .ok (.iastore, 1) := by decide +kernel
theorem dX12_goesOn_247 : decode cX12_goesOn 247 = .ok (.iinc 3 1, 3) := by decide +kernel
theorem dX12_goesOn_250 : decode cX12_goesOn 250 = .ok (.goto (-63), 3) := by decide +kernel
theorem dX12_goesOn_253 : decode cX12_goesOn 253 = .ok (.aload_n 0, 1) := by decide +kernel
theorem dX12_goesOn_254 : decode cX12_goesOn 254 = .ok (.getfield 19, 3) := by decide +kernel
theorem dX12_goesOn_257 : decode cX12_goesOn 257 = .ok (.iconst 0, 1) := by decide +kernel
theorem dX12_goesOn_258 : decode cX12_goesOn 258 = .ok (.dup2, 1) := by decide +kernel
theorem dX12_goesOn_259 : decode cX12_goesOn 259 = .ok (.iaload, 1) := by decide +kernel
theorem dX12_goesOn_260 : decode cX12_goesOn 260 = .ok (.iconst 1, 1) := by decide +kernel
theorem dX12_goesOn_261 : decode cX12_goesOn 261 = .ok (.iadd, 1) := by decide +kernel
theorem dX12_goesOn_262 : decode cX12_goesOn 262 = .ok (.iastore, 1) := by decide +kernel
theorem dX12_goesOn_263 : decode cX12_goesOn 263 = .ok (.return_, 1) := by decide +kernel
theorem dX12_lawful_0 : decode cX12_lawful 0 = .ok (.aload_n 0, 1) := by decide +kernel
theorem dX12_lawful_1 : decode cX12_lawful 1 = .ok (.getfield 13, 3) := by decide +kernel
theorem dX12_lawful_4 : decode cX12_lawful 4 = .ok (.bipush 36, 2) := by decide +kernel
theorem dX12_lawful_6 : decode cX12_lawful 6 = .ok (.aload_n 0, 1) := by decide +kernel
theorem dX12_lawful_7 : decode cX12_lawful 7 = .ok (.getfield 19, 3) := by decide +kernel
theorem dX12_lawful_10 : decode cX12_lawful 10 = .ok (.iconst 0, 1) := by decide +kernel
theorem dX12_lawful_11 : decode cX12_lawful 11 = .ok (.iaload, 1) := by decide +kernel
theorem dX12_lawful_12 : decode cX12_lawful 12 = .ok (.aload_n 0, 1) := by decide +kernel
theorem dX12_lawful_13 : decode cX12_lawful 13 = .ok (.getfield 13, 3) := by decide +kernel
theorem dX12_lawful_16 : decode cX12_lawful 16 = .ok (.iconst 3, 1) := by decide +kernel
theorem dX12_lawful_17 : decode cX12_lawful 17 = .ok (.iaload, 1) := by decide +kernel
theorem dX12_lawful_18 : decode cX12_lawful 18 = .ok (.irem, 1) := by decide +kernel
theorem dX12_lawful_19 : decode cX12_lawful 19 = .ok (.iadd, 1) := by decide +kernel
theorem dX12_lawful_20 : decode cX12_lawful 20 = .ok (.iaload, 1) := by decide +kernel
theorem dX12_lawful_21 : decode cX12_lawful 21 = .ok (.ireturn, 1) := by decide +kernel
theorem dX12_told_0 : decode cX12_told 0 = .ok (.iload_n 1, 1) := by decide +kernel
theorem dX12_told_1 : decode cX12_told 1 = .ok (.tableswitch 125 0 11 #[63, 63, 63, 63, 70, 75, 82, 100, 105, 110, 115, 120], 63) := by decide +kernel
theorem dX12_told_64 : decode cX12_told 64 = .ok (.aload_n 0, 1) := by decide +kernel
theorem dX12_told_65 : decode cX12_told 65 = .ok (.getfield 13, 3) := by decide +kernel
theorem dX12_told_68 : decode cX12_told 68 = .ok (.iload_n 1, 1) := by decide +kernel
theorem dX12_told_69 : decode cX12_told 69 = .ok (.iaload, 1) := by decide +kernel
theorem dX12_told_70 : decode cX12_told 70 = .ok (.ireturn, 1) := by decide +kernel
theorem dX12_told_71 : decode cX12_told 71 = .ok (.aload_n 0, 1) := by decide +kernel
theorem dX12_told_72 : decode cX12_told 72 = .ok (.getfield 72, 3) := by decide +kernel
theorem dX12_told_75 : decode cX12_told 75 = .ok (.ireturn, 1) := by decide +kernel
theorem dX12_told_76 : decode cX12_told 76 = .ok (.aload_n 0, 1) := by decide +kernel
theorem dX12_told_77 : decode cX12_told 77 = .ok (.getfield 19, 3) := by decide +kernel
theorem dX12_told_80 : decode cX12_told 80 = .ok (.iconst 0, 1) := by decide +kernel
theorem dX12_told_81 : decode cX12_told 81 = .ok (.iaload, 1) := by decide +kernel
theorem dX12_told_82 : decode cX12_told 82 = .ok (.ireturn, 1) := by decide +kernel
theorem dX12_told_83 : decode cX12_told 83 = .ok (.iconst 1, 1) := by decide +kernel
theorem dX12_told_84 : decode cX12_told 84 = .ok (.aload_n 0, 1) := by decide +kernel
theorem dX12_told_85 : decode cX12_told 85 = .ok (.getfield 13, 3) := by decide +kernel
theorem dX12_told_88 : decode cX12_told 88 = .ok (.iconst 2, 1) := by decide +kernel
theorem dX12_told_89 : decode cX12_told 89 = .ok (.iaload, 1) := by decide +kernel
theorem dX12_told_90 : decode cX12_told 90 = .ok (.ishl, 1) := by decide +kernel
theorem dX12_told_91 : decode cX12_told 91 = .ok (.iconst 1, 1) := by decide +kernel
theorem dX12_told_92 : decode cX12_told 92 = .ok (.isub, 1) := by decide +kernel
theorem dX12_told_93 : decode cX12_told 93 = .ok (.aload_n 0, 1) := by decide +kernel
theorem dX12_told_94 : decode cX12_told 94 = .ok (.invokevirtual 122, 3) := by decide +kernel
theorem dX12_told_97 : decode cX12_told 97 = .ok (.iconst (-1), 1) := by decide +kernel
theorem dX12_told_98 : decode cX12_told 98 = .ok (.ixor, 1) := by decide +kernel
theorem dX12_told_99 : decode cX12_told 99 = .ok (.iand, 1) := by decide +kernel
theorem dX12_told_100 : decode cX12_told 100 = .ok (.ireturn, 1) := by decide +kernel
theorem dX12_told_101 : decode cX12_told 101 = .ok (.aload_n 0, 1) := by decide +kernel
theorem dX12_told_102 : decode cX12_told 102 = .ok (.invokevirtual 142, 3) := by decide +kernel
theorem dX12_told_105 : decode cX12_told 105 = .ok (.ireturn, 1) := by decide +kernel
theorem dX12_told_106 : decode cX12_told 106 = .ok (.aload_n 0, 1) := by decide +kernel
theorem dX12_told_107 : decode cX12_told 107 = .ok (.invokevirtual 145, 3) := by decide +kernel
theorem dX12_told_110 : decode cX12_told 110 = .ok (.ireturn, 1) := by decide +kernel
theorem dX12_told_111 : decode cX12_told 111 = .ok (.aload_n 0, 1) := by decide +kernel
theorem dX12_told_112 : decode cX12_told 112 = .ok (.getfield 113, 3) := by decide +kernel
theorem dX12_told_115 : decode cX12_told 115 = .ok (.ireturn, 1) := by decide +kernel
theorem dX12_told_116 : decode cX12_told 116 = .ok (.aload_n 0, 1) := by decide +kernel
theorem dX12_told_117 : decode cX12_told 117 = .ok (.getfield 116, 3) := by decide +kernel
theorem dX12_told_120 : decode cX12_told 120 = .ok (.ireturn, 1) := by decide +kernel
theorem dX12_told_121 : decode cX12_told 121 = .ok (.aload_n 0, 1) := by decide +kernel
theorem dX12_told_122 : decode cX12_told 122 = .ok (.getfield 119, 3) := by decide +kernel
theorem dX12_told_125 : decode cX12_told 125 = .ok (.ireturn, 1) := by decide +kernel
theorem dX12_told_126 : decode cX12_told 126 = .ok (.ldc 71, 2) := by decide +kernel
theorem dX12_told_128 : decode cX12_told 128 = .ok (.ireturn, 1) := by decide +kernel
theorem dX12_place_0 : decode cX12_place 0 = .ok (.aload_n 0, 1) := by decide +kernel
theorem dX12_place_1 : decode cX12_place 1 = .ok (.iload_n 1, 1) := by decide +kernel
theorem dX12_place_2 : decode cX12_place 2 = .ok (.invokevirtual 148, 3) := by decide +kernel
theorem dX12_place_5 : decode cX12_place 5 = .ok (.ifCond .ne 6, 3) := by decide +kernel
theorem dX12_place_8 : decode cX12_place 8 = .ok (.ldc 152, 2) := by decide +kernel
theorem dX12_place_10 : decode cX12_place 10 = .ok (.ireturn, 1) := by decide +kernel
theorem dX12_place_11 : decode cX12_place 11 = .ok (.iload_n 2, 1) := by decide +kernel
theorem dX12_place_12 : decode cX12_place 12 = .ok (.ifCond .ne 15, 3) := by decide +kernel
theorem dX12_place_15 : decode cX12_place 15 = .ok (.aload_n 0, 1) := by decide +kernel
theorem dX12_place_16 : decode cX12_place 16 = .ok (.getfield 13, 3) := by decide +kernel
theorem dX12_place_19 : decode cX12_place 19 = .ok (.bipush 6, 2) := by decide +kernel
theorem dX12_place_21 : decode cX12_place 21 = .ok (.iload_n 1, 1) := by decide +kernel
theorem dX12_place_22 : decode cX12_place 22 = .ok (.iadd, 1) := by decide +kernel
theorem dX12_place_23 : decode cX12_place 23 = .ok (.iaload, 1) := by decide +kernel
theorem dX12_place_24 : decode cX12_place 24 = .ok (.goto 21, 3) := by decide +kernel
theorem dX12_place_27 : decode cX12_place 27 = .ok (.iload_n 2, 1) := by decide +kernel
theorem dX12_place_28 : decode cX12_place 28 = .ok (.iconst 1, 1) := by decide +kernel
theorem dX12_place_29 : decode cX12_place 29 = .ok (.if_icmp .ne 14, 3) := by decide +kernel
theorem dX12_place_32 : decode cX12_place 32 = .ok (.aload_n 0, 1) := by decide +kernel
theorem dX12_place_33 : decode cX12_place 33 = .ok (.getfield 19, 3) := by decide +kernel
theorem dX12_place_36 : decode cX12_place 36 = .ok (.iconst 1, 1) := by decide +kernel
theorem dX12_place_37 : decode cX12_place 37 = .ok (.iload_n 1, 1) := by decide +kernel
theorem dX12_place_38 : decode cX12_place 38 = .ok (.iadd, 1) := by decide +kernel
theorem dX12_place_39 : decode cX12_place 39 = .ok (.iaload, 1) := by decide +kernel
theorem dX12_place_40 : decode cX12_place 40 = .ok (.goto 5, 3) := by decide +kernel
theorem dX12_place_43 : decode cX12_place 43 = .ok (.ldc 71, 2) := by decide +kernel
theorem dX12_place_45 : decode cX12_place 45 = .ok (.ireturn, 1) := by decide +kernel
theorem dX12_sleeper_0 : decode cX12_sleeper 0 = .ok (.aload_n 0, 1) := by decide +kernel
theorem dX12_sleeper_1 : decode cX12_sleeper 1 = .ok (.iload_n 1, 1) := by decide +kernel
theorem dX12_sleeper_2 : decode cX12_sleeper 2 = .ok (.invokevirtual 153, 3) := by decide +kernel
theorem dX12_sleeper_5 : decode cX12_sleeper 5 = .ok (.ifCond .ne 6, 3) := by decide +kernel
theorem dX12_sleeper_8 : decode cX12_sleeper 8 = .ok (.ldc 152, 2) := by decide +kernel
theorem dX12_sleeper_10 : decode cX12_sleeper 10 = .ok (.ireturn, 1) := by decide +kernel
theorem dX12_sleeper_11 : decode cX12_sleeper 11 = .ok (.iload_n 2, 1) := by decide +kernel
theorem dX12_sleeper_12 : decode cX12_sleeper 12 = .ok (.ifCond .ne 15, 3) := by decide +kernel
theorem dX12_sleeper_15 : decode cX12_sleeper 15 = .ok (.aload_n 0, 1) := by decide +kernel
theorem dX12_sleeper_16 : decode cX12_sleeper 16 = .ok (.getfield 19, 3) := by decide +kernel
theorem dX12_sleeper_19 : decode cX12_sleeper 19 = .ok (.bipush 7, 2) := by decide +kernel
theorem dX12_sleeper_21 : decode cX12_sleeper 21 = .ok (.iload_n 1, 1) := by decide +kernel
theorem dX12_sleeper_22 : decode cX12_sleeper 22 = .ok (.iadd, 1) := by decide +kernel
theorem dX12_sleeper_23 : decode cX12_sleeper 23 = .ok (.iaload, 1) := by decide +kernel
theorem dX12_sleeper_24 : decode cX12_sleeper 24 = .ok (.goto 46, 3) := by decide +kernel
theorem dX12_sleeper_27 : decode cX12_sleeper 27 = .ok (.iload_n 2, 1) := by decide +kernel
theorem dX12_sleeper_28 : decode cX12_sleeper 28 = .ok (.i2l, 1) := by decide +kernel
theorem dX12_sleeper_29 : decode cX12_sleeper 29 = .ok (.lconst 1, 1) := by decide +kernel
theorem dX12_sleeper_30 : decode cX12_sleeper 30 = .ok (.ldc2_w 156, 3) := by decide +kernel
theorem dX12_sleeper_33 : decode cX12_sleeper 33 = .ok (.invokestatic 67, 3) := by decide +kernel
theorem dX12_sleeper_36 : decode cX12_sleeper 36 = .ok (.ifCond .eq 19, 3) := by decide +kernel
theorem dX12_sleeper_39 : decode cX12_sleeper 39 = .ok (.aload_n 0, 1) := by decide +kernel
theorem dX12_sleeper_40 : decode cX12_sleeper 40 = .ok (.getfield 13, 3) := by decide +kernel
theorem dX12_sleeper_43 : decode cX12_sleeper 43 = .ok (.bipush 12, 2) := by decide +kernel
theorem dX12_sleeper_45 : decode cX12_sleeper 45 = .ok (.iconst 4, 1) := by decide +kernel
theorem dX12_sleeper_46 : decode cX12_sleeper 46 = .ok (.iload_n 1, 1) := by decide +kernel
theorem dX12_sleeper_47 : decode cX12_sleeper 47 = .ok (.imul, 1) := by decide +kernel
theorem dX12_sleeper_48 : decode cX12_sleeper 48 = .ok (.iadd, 1) := by decide +kernel
theorem dX12_sleeper_49 : decode cX12_sleeper 49 = .ok (.iload_n 2, 1) := by decide +kernel
theorem dX12_sleeper_50 : decode cX12_sleeper 50 = .ok (.iadd, 1) := by decide +kernel
theorem dX12_sleeper_51 : decode cX12_sleeper 51 = .ok (.iaload, 1) := by decide +kernel
theorem dX12_sleeper_52 : decode cX12_sleeper 52 = .ok (.goto 18, 3) := by decide +kernel
theorem dX12_sleeper_55 : decode cX12_sleeper 55 = .ok (.iload_n 2, 1) := by decide +kernel
theorem dX12_sleeper_56 : decode cX12_sleeper 56 = .ok (.iconst 4, 1) := by decide +kernel
theorem dX12_sleeper_57 : decode cX12_sleeper 57 = .ok (.if_icmp .ne 11, 3) := by decide +kernel
theorem dX12_sleeper_60 : decode cX12_sleeper 60 = .ok (.aload_n 0, 1) := by decide +kernel
theorem dX12_sleeper_61 : decode cX12_sleeper 61 = .ok (.iload_n 1, 1) := by decide +kernel
theorem dX12_sleeper_62 : decode cX12_sleeper 62 = .ok (.invokevirtual 133, 3) := by decide +kernel
theorem dX12_sleeper_65 : decode cX12_sleeper 65 = .ok (.goto 5, 3) := by decide +kernel
theorem dX12_sleeper_68 : decode cX12_sleeper 68 = .ok (.ldc 71, 2) := by decide +kernel
theorem dX12_sleeper_70 : decode cX12_sleeper 70 = .ok (.ireturn, 1) := by decide +kernel
theorem dX12_rule_0 : decode cX12_rule 0 = .ok (.iload_n 1, 1) := by decide +kernel
theorem dX12_rule_1 : decode cX12_rule 1 = .ok (.i2l, 1) := by decide +kernel
theorem dX12_rule_2 : decode cX12_rule 2 = .ok (.lconst 0, 1) := by decide +kernel
theorem dX12_rule_3 : decode cX12_rule 3 = .ok (.aload_n 0, 1) := by decide +kernel
theorem dX12_rule_4 : decode cX12_rule 4 = .ok (.getfield 13, 3) := by decide +kernel
theorem dX12_rule_7 : decode cX12_rule 7 = .ok (.iconst 3, 1) := by decide +kernel
theorem dX12_rule_8 : decode cX12_rule 8 = .ok (.iaload, 1) := by decide +kernel
theorem dX12_rule_9 : decode cX12_rule 9 = .ok (.iconst 1, 1) := by decide +kernel
theorem dX12_rule_10 : decode cX12_rule 10 = .ok (.isub, 1) := by decide +kernel
theorem dX12_rule_11 : decode cX12_rule 11 = .ok (.i2l, 1) := by decide +kernel
theorem dX12_rule_12 : decode cX12_rule 12 = .ok (.invokestatic 67, 3) := by decide +kernel
theorem dX12_rule_15 : decode cX12_rule 15 = .ok (.ifCond .eq 15, 3) := by decide +kernel
theorem dX12_rule_18 : decode cX12_rule 18 = .ok (.aload_n 0, 1) := by decide +kernel
theorem dX12_rule_19 : decode cX12_rule 19 = .ok (.getfield 13, 3) := by decide +kernel
theorem dX12_rule_22 : decode cX12_rule 22 = .ok (.bipush 36, 2) := by decide +kernel
theorem dX12_rule_24 : decode cX12_rule 24 = .ok (.iload_n 1, 1) := by decide +kernel
theorem dX12_rule_25 : decode cX12_rule 25 = .ok (.iadd, 1) := by decide +kernel
theorem dX12_rule_26 : decode cX12_rule 26 = .ok (.iaload, 1) := by decide +kernel
theorem dX12_rule_27 : decode cX12_rule 27 = .ok (.goto 4, 3) := by decide +kernel
theorem dX12_rule_30 : decode cX12_rule 30 = .ok (.iconst (-1), 1) := by decide +kernel
theorem dX12_rule_31 : decode cX12_rule 31 = .ok (.ireturn, 1) := by decide +kernel
theorem dX12_notes_0 : decode cX12_notes 0 = .ok (.aload_n 0, 1) := by decide +kernel
theorem dX12_notes_1 : decode cX12_notes 1 = .ok (.getfield 119, 3) := by decide +kernel
theorem dX12_notes_4 : decode cX12_notes 4 = .ok (.bipush 30, 2) := by decide +kernel
theorem dX12_notes_6 : decode cX12_notes 6 = .ok (.if_icmp .ne 40, 3) := by decide +kernel
theorem dX12_notes_9 : decode cX12_notes 9 = .ok (.bipush 13, 2) := by decide +kernel
theorem dX12_notes_11 : decode cX12_notes 11 = .ok (.istore_n 1, 1) := by decide +kernel
theorem dX12_notes_12 : decode cX12_notes 12 = .ok (.iload_n 1, 1) := by decide +kernel
theorem dX12_notes_13 : decode cX12_notes 13 = .ok (.sipush 390, 3) := by decide +kernel
theorem dX12_notes_16 : decode cX12_notes 16 = .ok (.if_icmp .ge 24, 3) := by decide +kernel
theorem dX12_notes_19 : decode cX12_notes 19 = .ok (.aload_n 0, 1) := by decide +kernel
theorem dX12_notes_20 : decode cX12_notes 20 = .ok (.getfield 25, 3) := by decide +kernel
theorem dX12_notes_23 : decode cX12_notes 23 = .ok (.iload_n 1, 1) := by decide +kernel
theorem dX12_notes_24 : decode cX12_notes 24 = .ok (.bipush 13, 2) := by decide +kernel
theorem dX12_notes_26 : decode cX12_notes 26 = .ok (.isub, 1) := by decide +kernel
theorem dX12_notes_27 : decode cX12_notes 27 = .ok (.aload_n 0, 1) := by decide +kernel
theorem dX12_notes_28 : decode cX12_notes 28 = .ok (.getfield 25, 3) := by decide +kernel
theorem dX12_notes_31 : decode cX12_notes 31 = .ok (.iload_n 1, 1) := by decide +kernel
theorem dX12_notes_32 : decode cX12_notes 32 = .ok (.iaload, 1) := by decide +kernel
theorem dX12_notes_33 : decode cX12_notes 33 = .ok (.iastore, 1) := by decide +kernel
theorem dX12_notes_34 : decode cX12_notes 34 = .ok (.iinc 1 1, 3) := by decide +kernel
theorem dX12_notes_37 : decode cX12_notes 37 = .ok (.goto (-25), 3) := by decide +kernel
theorem dX12_notes_40 : decode cX12_notes 40 = .ok (.aload_n 0, 1) := by decide +kernel
theorem dX12_notes_41 : decode cX12_notes 41 = .ok (.bipush 29, 2) := by decide +kernel
theorem dX12_notes_43 : decode cX12_notes 43 = .ok (.putfield 119, 3) := by decide +kernel
theorem dX12_notes_46 : decode cX12_notes 46 = .ok (.iconst 0, 1) := by decide +kernel
theorem dX12_notes_47 : decode cX12_notes 47 = .ok (.istore_n 1, 1) := by decide +kernel
theorem dX12_notes_48 : decode cX12_notes 48 = .ok (.iload_n 1, 1) := by decide +kernel
theorem dX12_notes_49 : decode cX12_notes 49 = .ok (.bipush 13, 2) := by decide +kernel
theorem dX12_notes_51 : decode cX12_notes 51 = .ok (.if_icmp .ge 29, 3) := by decide +kernel
theorem dX12_notes_54 : decode cX12_notes 54 = .ok (.aload_n 0, 1) := by decide +kernel
theorem dX12_notes_55 : decode cX12_notes 55 = .ok (.getfield 25, 3) := by decide +kernel
theorem dX12_notes_58 : decode cX12_notes 58 = .ok (.bipush 13, 2) := by decide +kernel
theorem dX12_notes_60 : decode cX12_notes 60 = .ok (.aload_n 0, 1) := by decide +kernel
theorem dX12_notes_61 : decode cX12_notes 61 = .ok (.getfield 119, 3) := by decide +kernel
theorem dX12_notes_64 : decode cX12_notes 64 = .ok (.imul, 1) := by decide +kernel
theorem dX12_notes_65 : decode cX12_notes 65 = .ok (.iload_n 1, 1) := by decide +kernel
theorem dX12_notes_66 : decode cX12_notes 66 = .ok (.iadd, 1) := by decide +kernel
theorem dX12_notes_67 : decode cX12_notes 67 = .ok (.aload_n 0, 1) := by decide +kernel
theorem dX12_notes_68 : decode cX12_notes 68 = .ok (.getfield 19, 3) := by decide +kernel
theorem dX12_notes_71 : decode cX12_notes 71 = .ok (.iload_n 1, 1) := by decide +kernel
theorem dX12_notes_72 : decode cX12_notes 72 = .ok (.iaload, 1) := by decide +kernel
theorem dX12_notes_73 : decode cX12_notes 73 = .ok (.iastore, 1) := by decide +kernel
theorem dX12_notes_74 : decode cX12_notes 74 = .ok (.iinc 1 1, 3) := by decide +kernel
theorem dX12_notes_77 : decode cX12_notes 77 = .ok (.goto (-29), 3) := by decide +kernel
theorem dX12_notes_80 : decode cX12_notes 80 = .ok (.aload_n 0, 1) := by decide +kernel
theorem dX12_notes_81 : decode cX12_notes 81 = .ok (.dup, 1) := by decide +kernel
theorem dX12_notes_82 : decode cX12_notes 82 = .ok (.getfield 119, 3) := by decide +kernel
theorem dX12_notes_85 : decode cX12_notes 85 = .ok (.iconst 1, 1) := by decide +kernel
theorem dX12_notes_86 : decode cX12_notes 86 = .ok (.iadd, 1) := by decide +kernel
theorem dX12_notes_87 : decode cX12_notes 87 = .ok (.putfield 119, 3) := by decide +kernel
theorem dX12_notes_90 : decode cX12_notes 90 = .ok (.return_, 1) := by decide +kernel
theorem dX12_refusal_0 : decode cX12_refusal 0 = .ok (.aload_n 0, 1) := by decide +kernel
theorem dX12_refusal_1 : decode cX12_refusal 1 = .ok (.getfield 13, 3) := by decide +kernel
theorem dX12_refusal_4 : decode cX12_refusal 4 = .ok (.iconst 0, 1) := by decide +kernel
theorem dX12_refusal_5 : decode cX12_refusal 5 = .ok (.iaload, 1) := by decide +kernel
theorem dX12_refusal_6 : decode cX12_refusal 6 = .ok (.ifCond .ne 8, 3) := by decide +kernel
theorem dX12_refusal_9 : decode cX12_refusal 9 = .ok (.ldc 158, 2) := by decide +kernel
theorem dX12_refusal_11 : decode cX12_refusal 11 = .ok (.goto 20, 3) := by decide +kernel
theorem dX12_refusal_14 : decode cX12_refusal 14 = .ok (.aload_n 0, 1) := by decide +kernel
theorem dX12_refusal_15 : decode cX12_refusal 15 = .ok (.getfield 19, 3) := by decide +kernel
theorem dX12_refusal_18 : decode cX12_refusal 18 = .ok (.iconst 0, 1) := by decide +kernel
theorem dX12_refusal_19 : decode cX12_refusal 19 = .ok (.iaload, 1) := by decide +kernel
theorem dX12_refusal_20 : decode cX12_refusal 20 = .ok (.ldc 159, 2) := by decide +kernel
theorem dX12_refusal_22 : decode cX12_refusal 22 = .ok (.if_icmp .le 8, 3) := by decide +kernel
theorem dX12_refusal_25 : decode cX12_refusal 25 = .ok (.ldc 75, 2) := by decide +kernel
theorem dX12_refusal_27 : decode cX12_refusal 27 = .ok (.goto 4, 3) := by decide +kernel
theorem dX12_refusal_30 : decode cX12_refusal 30 = .ok (.iconst 0, 1) := by decide +kernel
theorem dX12_refusal_31 : decode cX12_refusal 31 = .ok (.ireturn, 1) := by decide +kernel
theorem dX12_hour_0 : decode cX12_hour 0 = .ok (.iload_n 1, 1) := by decide +kernel
theorem dX12_hour_1 : decode cX12_hour 1 = .ok (.i2l, 1) := by decide +kernel
theorem dX12_hour_2 : decode cX12_hour 2 = .ok (.lconst 0, 1) := by decide +kernel
theorem dX12_hour_3 : decode cX12_hour 3 = .ok (.ldc2_w 156, 3) := by decide +kernel
theorem dX12_hour_6 : decode cX12_hour 6 = .ok (.invokestatic 67, 3) := by decide +kernel
theorem dX12_hour_9 : decode cX12_hour 9 = .ok (.ifCond .ne 6, 3) := by decide +kernel
theorem dX12_hour_12 : decode cX12_hour 12 = .ok (.ldc 152, 2) := by decide +kernel
theorem dX12_hour_14 : decode cX12_hour 14 = .ok (.ireturn, 1) := by decide +kernel
theorem dX12_hour_15 : decode cX12_hour 15 = .ok (.aload_n 0, 1) := by decide +kernel
theorem dX12_hour_16 : decode cX12_hour 16 = .ok (.invokevirtual 160, 3) := by decide +kernel
theorem dX12_hour_19 : decode cX12_hour 19 = .ok (.ifCond .ge 8, 3) := by decide +kernel
theorem dX12_hour_22 : decode cX12_hour 22 = .ok (.aload_n 0, 1) := by decide +kernel
theorem dX12_hour_23 : decode cX12_hour 23 = .ok (.invokevirtual 160, 3) := by decide +kernel
theorem dX12_hour_26 : decode cX12_hour 26 = .ok (.ireturn, 1) := by decide +kernel
theorem dX12_hour_27 : decode cX12_hour 27 = .ok (.aload_n 0, 1) := by decide +kernel
theorem dX12_hour_28 : decode cX12_hour 28 = .ok (.invokevirtual 163, 3) := by decide +kernel
theorem dX12_hour_31 : decode cX12_hour 31 = .ok (.aload_n 0, 1) := by decide +kernel
theorem dX12_hour_32 : decode cX12_hour 32 = .ok (.iload_n 1, 1) := by decide +kernel
theorem dX12_hour_33 : decode cX12_hour 33 = .ok (.invokevirtual 166, 3) := by decide +kernel
theorem dX12_hour_36 : decode cX12_hour 36 = .ok (.aload_n 0, 1) := by decide +kernel
theorem dX12_hour_37 : decode cX12_hour 37 = .ok (.invokevirtual 145, 3) := by decide +kernel
theorem dX12_hour_40 : decode cX12_hour 40 = .ok (.ireturn, 1) := by decide +kernel
theorem dX12_night_0 : decode cX12_night 0 = .ok (.iload_n 1, 1) := by decide +kernel
theorem dX12_night_1 : decode cX12_night 1 = .ok (.i2l, 1) := by decide +kernel
theorem dX12_night_2 : decode cX12_night 2 = .ok (.lconst 1, 1) := by decide +kernel
theorem dX12_night_3 : decode cX12_night 3 = .ok (.ldc2_w 169, 3) := by decide +kernel
theorem dX12_night_6 : decode cX12_night 6 = .ok (.invokestatic 67, 3) := by decide +kernel
theorem dX12_night_9 : decode cX12_night 9 = .ok (.ifCond .ne 6, 3) := by decide +kernel
theorem dX12_night_12 : decode cX12_night 12 = .ok (.ldc 71, 2) := by decide +kernel
theorem dX12_night_14 : decode cX12_night 14 = .ok (.ireturn, 1) := by decide +kernel
theorem dX12_night_15 : decode cX12_night 15 = .ok (.aload_n 0, 1) := by decide +kernel
theorem dX12_night_16 : decode cX12_night 16 = .ok (.invokevirtual 160, 3) := by decide +kernel
theorem dX12_night_19 : decode cX12_night 19 = .ok (.ifCond .ge 8, 3) := by decide +kernel
theorem dX12_night_22 : decode cX12_night 22 = .ok (.aload_n 0, 1) := by decide +kernel
theorem dX12_night_23 : decode cX12_night 23 = .ok (.invokevirtual 160, 3) := by decide +kernel
theorem dX12_night_26 : decode cX12_night 26 = .ok (.ireturn, 1) := by decide +kernel
theorem dX12_night_27 : decode cX12_night 27 = .ok (.iconst 0, 1) := by decide +kernel
theorem dX12_night_28 : decode cX12_night 28 = .ok (.istore_n 2, 1) := by decide +kernel
theorem dX12_night_29 : decode cX12_night 29 = .ok (.iload_n 2, 1) := by decide +kernel
theorem dX12_night_30 : decode cX12_night 30 = .ok (.iload_n 1, 1) := by decide +kernel
theorem dX12_night_31 : decode cX12_night 31 = .ok (.if_icmp .ge 21, 3) := by decide +kernel
theorem dX12_night_34 : decode cX12_night 34 = .ok (.aload_n 0, 1) := by decide +kernel
theorem dX12_night_35 : decode cX12_night 35 = .ok (.invokevirtual 163, 3) := by decide +kernel
theorem dX12_night_38 : decode cX12_night 38 = .ok (.aload_n 0, 1) := by decide +kernel
theorem dX12_night_39 : decode cX12_night 39 = .ok (.aload_n 0, 1) := by decide +kernel
theorem dX12_night_40 : decode cX12_night 40 = .ok (.invokevirtual 171, 3) := by decide +kernel
theorem dX12_night_43 : decode cX12_night 43 = .ok (.invokevirtual 166, 3) := by decide +kernel
theorem dX12_night_46 : decode cX12_night 46 = .ok (.iinc 2 1, 3) := by decide +kernel
theorem dX12_night_49 : decode cX12_night 49 = .ok (.goto (-20), 3) := by decide +kernel
theorem dX12_night_52 : decode cX12_night 52 = .ok (.aload_n 0, 1) := by decide +kernel
theorem dX12_night_53 : decode cX12_night 53 = .ok (.invokevirtual 145, 3) := by decide +kernel
theorem dX12_night_56 : decode cX12_night 56 = .ok (.ireturn, 1) := by decide +kernel
theorem dX12_getUp_0 : decode cX12_getUp 0 = .ok (.aload_n 0, 1) := by decide +kernel
theorem dX12_getUp_1 : decode cX12_getUp 1 = .ok (.iload_n 1, 1) := by decide +kernel
theorem dX12_getUp_2 : decode cX12_getUp 2 = .ok (.invokevirtual 153, 3) := by decide +kernel
theorem dX12_getUp_5 : decode cX12_getUp 5 = .ok (.ifCond .ne 6, 3) := by decide +kernel
theorem dX12_getUp_8 : decode cX12_getUp 8 = .ok (.ldc 152, 2) := by decide +kernel
theorem dX12_getUp_10 : decode cX12_getUp 10 = .ok (.ireturn, 1) := by decide +kernel
theorem dX12_getUp_11 : decode cX12_getUp 11 = .ok (.aload_n 0, 1) := by decide +kernel
theorem dX12_getUp_12 : decode cX12_getUp 12 = .ok (.iload_n 1, 1) := by decide +kernel
theorem dX12_getUp_13 : decode cX12_getUp 13 = .ok (.invokevirtual 133, 3) := by decide +kernel
theorem dX12_getUp_16 : decode cX12_getUp 16 = .ok (.istore_n 2, 1) := by decide +kernel
theorem dX12_getUp_17 : decode cX12_getUp 17 = .ok (.iload_n 2, 1) := by decide +kernel
theorem dX12_getUp_18 : decode cX12_getUp 18 = .ok (.iconst (-1), 1) := by decide +kernel
theorem dX12_getUp_19 : decode cX12_getUp 19 = .ok (.if_icmp .ne 6, 3) := by decide +kernel
theorem dX12_getUp_22 : decode cX12_getUp 22 = .ok (.ldc 158, 2) := by decide +kernel
theorem dX12_getUp_24 : decode cX12_getUp 24 = .ok (.ireturn, 1) := by decide +kernel
theorem dX12_getUp_25 : decode cX12_getUp 25 = .ok (.aload_n 0, 1) := by decide +kernel
theorem dX12_getUp_26 : decode cX12_getUp 26 = .ok (.invokevirtual 163, 3) := by decide +kernel
theorem dX12_getUp_29 : decode cX12_getUp 29 = .ok (.iload_n 2, 1) := by decide +kernel
theorem dX12_getUp_30 : decode cX12_getUp 30 = .ok (.istore_n 3, 1) := by decide +kernel
theorem dX12_getUp_31 : decode cX12_getUp 31 = .ok (.iload_n 3, 1) := by decide +kernel
theorem dX12_getUp_32 : decode cX12_getUp 32 = .ok (.aload_n 0, 1) := by decide +kernel
theorem dX12_getUp_33 : decode cX12_getUp 33 = .ok (.getfield 13, 3) := by decide +kernel
theorem dX12_getUp_36 : decode cX12_getUp 36 = .ok (.iconst 0, 1) := by decide +kernel
theorem dX12_getUp_37 : decode cX12_getUp 37 = .ok (.iaload, 1) := by decide +kernel
theorem dX12_getUp_38 : decode cX12_getUp 38 = .ok (.iconst 1, 1) := by decide +kernel
theorem dX12_getUp_39 : decode cX12_getUp 39 = .ok (.isub, 1) := by decide +kernel
theorem dX12_getUp_40 : decode cX12_getUp 40 = .ok (.if_icmp .ge 25, 3) := by decide +kernel
theorem dX12_getUp_43 : decode cX12_getUp 43 = .ok (.aload_n 0, 1) := by decide +kernel
theorem dX12_getUp_44 : decode cX12_getUp 44 = .ok (.getfield 19, 3) := by decide +kernel
theorem dX12_getUp_47 : decode cX12_getUp 47 = .ok (.iconst 1, 1) := by decide +kernel
theorem dX12_getUp_48 : decode cX12_getUp 48 = .ok (.iload_n 3, 1) := by decide +kernel
theorem dX12_getUp_49 : decode cX12_getUp 49 = .ok (.iadd, 1) := by decide +kernel
theorem dX12_getUp_50 : decode cX12_getUp 50 = .ok (.aload_n 0, 1) := by decide +kernel
theorem dX12_getUp_51 : decode cX12_getUp 51 = .ok (.getfield 19, 3) := by decide +kernel
theorem dX12_getUp_54 : decode cX12_getUp 54 = .ok (.iconst 2, 1) := by decide +kernel
theorem dX12_getUp_55 : decode cX12_getUp 55 = .ok (.iload_n 3, 1) := by decide +kernel
theorem dX12_getUp_56 : decode cX12_getUp 56 = .ok (.iadd, 1) := by decide +kernel
theorem dX12_getUp_57 : decode cX12_getUp 57 = .ok (.iaload, 1) := by decide +kernel
theorem dX12_getUp_58 : decode cX12_getUp 58 = .ok (.iastore, 1) := by decide +kernel
theorem dX12_getUp_59 : decode cX12_getUp 59 = .ok (.iinc 3 1, 3) := by decide +kernel
theorem dX12_getUp_62 : decode cX12_getUp 62 = .ok (.goto (-31), 3) := by decide +kernel
theorem dX12_getUp_65 : decode cX12_getUp 65 = .ok (.aload_n 0, 1) := by decide +kernel
theorem dX12_getUp_66 : decode cX12_getUp 66 = .ok (.getfield 19, 3) := by decide +kernel
theorem dX12_getUp_69 : decode cX12_getUp 69 = .ok (.aload_n 0, 1) := by decide +kernel
theorem dX12_getUp_70 : decode cX12_getUp 70 = .ok (.getfield 13, 3) := by decide +kernel
theorem dX12_getUp_73 : decode cX12_getUp 73 = .ok (.iconst 0, 1) := by decide +kernel
theorem dX12_getUp_74 : decode cX12_getUp 74 = .ok (.iaload, 1) := by decide +kernel
theorem dX12_getUp_75 : decode cX12_getUp 75 = .ok (.iconst (-1), 1) := by decide +kernel
theorem dX12_getUp_76 : decode cX12_getUp 76 = .ok (.iastore, 1) := by decide +kernel
theorem dX12_getUp_77 : decode cX12_getUp 77 = .ok (.iload_n 2, 1) := by decide +kernel
theorem dX12_getUp_78 : decode cX12_getUp 78 = .ok (.ireturn, 1) := by decide +kernel
theorem dX12_comeIn_0 : decode cX12_comeIn 0 = .ok (.aload_n 0, 1) := by decide +kernel
theorem dX12_comeIn_1 : decode cX12_comeIn 1 = .ok (.iload_n 1, 1) := by decide +kernel
theorem dX12_comeIn_2 : decode cX12_comeIn 2 = .ok (.invokevirtual 153, 3) := by decide +kernel
theorem dX12_comeIn_5 : decode cX12_comeIn 5 = .ok (.ifCond .ne 6, 3) := by decide +kernel
theorem dX12_comeIn_8 : decode cX12_comeIn 8 = .ok (.ldc 152, 2) := by decide +kernel
theorem dX12_comeIn_10 : decode cX12_comeIn 10 = .ok (.ireturn, 1) := by decide +kernel
theorem dX12_comeIn_11 : decode cX12_comeIn 11 = .ok (.aload_n 0, 1) := by decide +kernel
theorem dX12_comeIn_12 : decode cX12_comeIn 12 = .ok (.iload_n 1, 1) := by decide +kernel
theorem dX12_comeIn_13 : decode cX12_comeIn 13 = .ok (.invokevirtual 133, 3) := by decide +kernel
theorem dX12_comeIn_16 : decode cX12_comeIn 16 = .ok (.iconst (-1), 1) := by decide +kernel
theorem dX12_comeIn_17 : decode cX12_comeIn 17 = .ok (.if_icmp .eq 6, 3) := by decide +kernel
theorem dX12_comeIn_20 : decode cX12_comeIn 20 = .ok (.ldc 158, 2) := by decide +kernel
theorem dX12_comeIn_22 : decode cX12_comeIn 22 = .ok (.ireturn, 1) := by decide +kernel
theorem dX12_comeIn_23 : decode cX12_comeIn 23 = .ok (.aload_n 0, 1) := by decide +kernel
theorem dX12_comeIn_24 : decode cX12_comeIn 24 = .ok (.invokevirtual 163, 3) := by decide +kernel
theorem dX12_comeIn_27 : decode cX12_comeIn 27 = .ok (.aload_n 0, 1) := by decide +kernel
theorem dX12_comeIn_28 : decode cX12_comeIn 28 = .ok (.getfield 13, 3) := by decide +kernel
theorem dX12_comeIn_31 : decode cX12_comeIn 31 = .ok (.iconst 0, 1) := by decide +kernel
theorem dX12_comeIn_32 : decode cX12_comeIn 32 = .ok (.iaload, 1) := by decide +kernel
theorem dX12_comeIn_33 : decode cX12_comeIn 33 = .ok (.iconst 1, 1) := by decide +kernel
theorem dX12_comeIn_34 : decode cX12_comeIn 34 = .ok (.isub, 1) := by decide +kernel
theorem dX12_comeIn_35 : decode cX12_comeIn 35 = .ok (.istore_n 2, 1) := by decide +kernel
theorem dX12_comeIn_36 : decode cX12_comeIn 36 = .ok (.aload_n 0, 1) := by decide +kernel
theorem dX12_comeIn_37 : decode cX12_comeIn 37 = .ok (.getfield 19, 3) := by decide +kernel
theorem dX12_comeIn_40 : decode cX12_comeIn 40 = .ok (.iconst 1, 1) := by decide +kernel
theorem dX12_comeIn_41 : decode cX12_comeIn 41 = .ok (.iload_n 2, 1) := by decide +kernel
theorem dX12_comeIn_42 : decode cX12_comeIn 42 = .ok (.iadd, 1) := by decide +kernel
theorem dX12_comeIn_43 : decode cX12_comeIn 43 = .ok (.iaload, 1) := by decide +kernel
theorem dX12_comeIn_44 : decode cX12_comeIn 44 = .ok (.iconst (-1), 1) := by decide +kernel
theorem dX12_comeIn_45 : decode cX12_comeIn 45 = .ok (.if_icmp .eq 9, 3) := by decide +kernel
theorem dX12_comeIn_48 : decode cX12_comeIn 48 = .ok (.iinc 2 (-1), 3) := by decide +kernel
theorem dX12_comeIn_51 : decode cX12_comeIn 51 = .ok (.goto (-15), 3) := by decide +kernel
theorem dX12_comeIn_54 : decode cX12_comeIn 54 = .ok (.aload_n 0, 1) := by decide +kernel
theorem dX12_comeIn_55 : decode cX12_comeIn 55 = .ok (.getfield 19, 3) := by decide +kernel
theorem dX12_comeIn_58 : decode cX12_comeIn 58 = .ok (.iconst 1, 1) := by decide +kernel
end
section
theorem dX12_comeIn_59 : decode cX12_comeIn 59 = .ok (.iload_n 2, 1) := by decide +kernel
theorem dX12_comeIn_60 : decode cX12_comeIn 60 = .ok (.iadd, 1) := by decide +kernel
theorem dX12_comeIn_61 : decode cX12_comeIn 61 = .ok (.iload_n 1, 1) := by decide +kernel
theorem dX12_comeIn_62 : decode cX12_comeIn 62 = .ok (.iastore, 1) := by decide +kernel
theorem dX12_comeIn_63 : decode cX12_comeIn 63 = .ok (.iload_n 2, 1) := by decide +kernel
theorem dX12_comeIn_64 : decode cX12_comeIn 64 = .ok (.ireturn, 1) := by decide +kernel
theorem dX12_draws_0 : decode cX12_draws 0 = .ok (.aload_n 0, 1) := by decide +kernel
theorem dX12_draws_1 : decode cX12_draws 1 = .ok (.aload_n 0, 1) := by decide +kernel
theorem dX12_draws_2 : decode cX12_draws 2 = .ok (.getfield 174, 3) := by decide +kernel
theorem dX12_draws_5 : decode cX12_draws 5 = .ok (.i2l, 1) := by decide +kernel
theorem dX12_draws_6 : decode cX12_draws 6 = .ok (.ldc2_w 177, 3) := by decide +kernel
theorem dX12_draws_9 : decode cX12_draws 9 = .ok (.lmul, 1) := by decide +kernel
theorem dX12_draws_10 : decode cX12_draws 10 = .ok (.ldc2_w 179, 3) := by decide +kernel
theorem dX12_draws_13 : decode cX12_draws 13 = .ok (.ladd, 1) := by decide +kernel
theorem dX12_draws_14 : decode cX12_draws 14 = .ok (.ldc2_w 181, 3) := by decide +kernel
theorem dX12_draws_17 : decode cX12_draws 17 = .ok (.lrem, 1) := by decide +kernel
theorem dX12_draws_18 : decode cX12_draws 18 = .ok (.l2i, 1) := by decide +kernel
theorem dX12_draws_19 : decode cX12_draws 19 = .ok (.putfield 174, 3) := by decide +kernel
theorem dX12_draws_22 : decode cX12_draws 22 = .ok (.aload_n 0, 1) := by decide +kernel
theorem dX12_draws_23 : decode cX12_draws 23 = .ok (.getfield 174, 3) := by decide +kernel
theorem dX12_draws_26 : decode cX12_draws 26 = .ok (.ldc 183, 2) := by decide +kernel
theorem dX12_draws_28 : decode cX12_draws 28 = .ok (.idiv, 1) := by decide +kernel
theorem dX12_draws_29 : decode cX12_draws 29 = .ok (.iload_n 1, 1) := by decide +kernel
theorem dX12_draws_30 : decode cX12_draws 30 = .ok (.irem, 1) := by decide +kernel
theorem dX12_draws_31 : decode cX12_draws 31 = .ok (.ireturn, 1) := by decide +kernel
theorem dX12_drift_0 : decode cX12_drift 0 = .ok (.iload_n 1, 1) := by decide +kernel
theorem dX12_drift_1 : decode cX12_drift 1 = .ok (.i2l, 1) := by decide +kernel
theorem dX12_drift_2 : decode cX12_drift 2 = .ok (.lconst 1, 1) := by decide +kernel
theorem dX12_drift_3 : decode cX12_drift 3 = .ok (.ldc2_w 169, 3) := by decide +kernel
theorem dX12_drift_6 : decode cX12_drift 6 = .ok (.invokestatic 67, 3) := by decide +kernel
theorem dX12_drift_9 : decode cX12_drift 9 = .ok (.ifCond .ne 6, 3) := by decide +kernel
theorem dX12_drift_12 : decode cX12_drift 12 = .ok (.ldc 71, 2) := by decide +kernel
theorem dX12_drift_14 : decode cX12_drift 14 = .ok (.ireturn, 1) := by decide +kernel
theorem dX12_drift_15 : decode cX12_drift 15 = .ok (.aload_n 0, 1) := by decide +kernel
theorem dX12_drift_16 : decode cX12_drift 16 = .ok (.invokevirtual 160, 3) := by decide +kernel
theorem dX12_drift_19 : decode cX12_drift 19 = .ok (.ifCond .ge 8, 3) := by decide +kernel
theorem dX12_drift_22 : decode cX12_drift 22 = .ok (.aload_n 0, 1) := by decide +kernel
theorem dX12_drift_23 : decode cX12_drift 23 = .ok (.invokevirtual 160, 3) := by decide +kernel
theorem dX12_drift_26 : decode cX12_drift 26 = .ok (.ireturn, 1) := by decide +kernel
theorem dX12_drift_27 : decode cX12_drift 27 = .ok (.iconst 0, 1) := by decide +kernel
theorem dX12_drift_28 : decode cX12_drift 28 = .ok (.istore_n 2, 1) := by decide +kernel
theorem dX12_drift_29 : decode cX12_drift 29 = .ok (.iload_n 2, 1) := by decide +kernel
theorem dX12_drift_30 : decode cX12_drift 30 = .ok (.iload_n 1, 1) := by decide +kernel
theorem dX12_drift_31 : decode cX12_drift 31 = .ok (.if_icmp .ge 37, 3) := by decide +kernel
theorem dX12_drift_34 : decode cX12_drift 34 = .ok (.aload_n 0, 1) := by decide +kernel
theorem dX12_drift_35 : decode cX12_drift 35 = .ok (.invokevirtual 163, 3) := by decide +kernel
theorem dX12_drift_38 : decode cX12_drift 38 = .ok (.aload_n 0, 1) := by decide +kernel
theorem dX12_drift_39 : decode cX12_drift 39 = .ok (.bipush 6, 2) := by decide +kernel
theorem dX12_drift_41 : decode cX12_drift 41 = .ok (.invokevirtual 184, 3) := by decide +kernel
theorem dX12_drift_44 : decode cX12_drift 44 = .ok (.istore_n 3, 1) := by decide +kernel
theorem dX12_drift_45 : decode cX12_drift 45 = .ok (.aload_n 0, 1) := by decide +kernel
theorem dX12_drift_46 : decode cX12_drift 46 = .ok (.iload_n 3, 1) := by decide +kernel
theorem dX12_drift_47 : decode cX12_drift 47 = .ok (.iconst 4, 1) := by decide +kernel
theorem dX12_drift_48 : decode cX12_drift 48 = .ok (.if_icmp .ge 7, 3) := by decide +kernel
theorem dX12_drift_51 : decode cX12_drift 51 = .ok (.iload_n 3, 1) := by decide +kernel
theorem dX12_drift_52 : decode cX12_drift 52 = .ok (.goto 7, 3) := by decide +kernel
theorem dX12_drift_55 : decode cX12_drift 55 = .ok (.aload_n 0, 1) := by decide +kernel
theorem dX12_drift_56 : decode cX12_drift 56 = .ok (.invokevirtual 171, 3) := by decide +kernel
theorem dX12_drift_59 : decode cX12_drift 59 = .ok (.invokevirtual 166, 3) := by decide +kernel
theorem dX12_drift_62 : decode cX12_drift 62 = .ok (.iinc 2 1, 3) := by decide +kernel
theorem dX12_drift_65 : decode cX12_drift 65 = .ok (.goto (-36), 3) := by decide +kernel
theorem dX12_drift_68 : decode cX12_drift 68 = .ok (.aload_n 0, 1) := by decide +kernel
theorem dX12_drift_69 : decode cX12_drift 69 = .ok (.invokevirtual 145, 3) := by decide +kernel
theorem dX12_drift_72 : decode cX12_drift 72 = .ok (.ireturn, 1) := by decide +kernel
theorem dX12_undo_0 : decode cX12_undo 0 = .ok (.iload_n 1, 1) := by decide +kernel
theorem dX12_undo_1 : decode cX12_undo 1 = .ok (.i2l, 1) := by decide +kernel
theorem dX12_undo_2 : decode cX12_undo 2 = .ok (.lconst 1, 1) := by decide +kernel
theorem dX12_undo_3 : decode cX12_undo 3 = .ok (.ldc2_w 187, 3) := by decide +kernel
theorem dX12_undo_6 : decode cX12_undo 6 = .ok (.invokestatic 67, 3) := by decide +kernel
theorem dX12_undo_9 : decode cX12_undo 9 = .ok (.ifCond .ne 6, 3) := by decide +kernel
theorem dX12_undo_12 : decode cX12_undo 12 = .ok (.ldc 71, 2) := by decide +kernel
theorem dX12_undo_14 : decode cX12_undo 14 = .ok (.ireturn, 1) := by decide +kernel
theorem dX12_undo_15 : decode cX12_undo 15 = .ok (.iload_n 1, 1) := by decide +kernel
theorem dX12_undo_16 : decode cX12_undo 16 = .ok (.aload_n 0, 1) := by decide +kernel
theorem dX12_undo_17 : decode cX12_undo 17 = .ok (.getfield 119, 3) := by decide +kernel
theorem dX12_undo_20 : decode cX12_undo 20 = .ok (.if_icmp .le 6, 3) := by decide +kernel
theorem dX12_undo_23 : decode cX12_undo 23 = .ok (.ldc 158, 2) := by decide +kernel
theorem dX12_undo_25 : decode cX12_undo 25 = .ok (.ireturn, 1) := by decide +kernel
theorem dX12_undo_26 : decode cX12_undo 26 = .ok (.aload_n 0, 1) := by decide +kernel
theorem dX12_undo_27 : decode cX12_undo 27 = .ok (.dup, 1) := by decide +kernel
theorem dX12_undo_28 : decode cX12_undo 28 = .ok (.getfield 119, 3) := by decide +kernel
theorem dX12_undo_31 : decode cX12_undo 31 = .ok (.iload_n 1, 1) := by decide +kernel
theorem dX12_undo_32 : decode cX12_undo 32 = .ok (.isub, 1) := by decide +kernel
theorem dX12_undo_33 : decode cX12_undo 33 = .ok (.putfield 119, 3) := by decide +kernel
theorem dX12_undo_36 : decode cX12_undo 36 = .ok (.iconst 0, 1) := by decide +kernel
theorem dX12_undo_37 : decode cX12_undo 37 = .ok (.istore_n 2, 1) := by decide +kernel
theorem dX12_undo_38 : decode cX12_undo 38 = .ok (.iload_n 2, 1) := by decide +kernel
theorem dX12_undo_39 : decode cX12_undo 39 = .ok (.bipush 13, 2) := by decide +kernel
theorem dX12_undo_41 : decode cX12_undo 41 = .ok (.if_icmp .ge 29, 3) := by decide +kernel
theorem dX12_undo_44 : decode cX12_undo 44 = .ok (.aload_n 0, 1) := by decide +kernel
theorem dX12_undo_45 : decode cX12_undo 45 = .ok (.getfield 19, 3) := by decide +kernel
theorem dX12_undo_48 : decode cX12_undo 48 = .ok (.iload_n 2, 1) := by decide +kernel
theorem dX12_undo_49 : decode cX12_undo 49 = .ok (.aload_n 0, 1) := by decide +kernel
theorem dX12_undo_50 : decode cX12_undo 50 = .ok (.getfield 25, 3) := by decide +kernel
theorem dX12_undo_53 : decode cX12_undo 53 = .ok (.bipush 13, 2) := by decide +kernel
theorem dX12_undo_55 : decode cX12_undo 55 = .ok (.aload_n 0, 1) := by decide +kernel
theorem dX12_undo_56 : decode cX12_undo 56 = .ok (.getfield 119, 3) := by decide +kernel
theorem dX12_undo_59 : decode cX12_undo 59 = .ok (.imul, 1) := by decide +kernel
theorem dX12_undo_60 : decode cX12_undo 60 = .ok (.iload_n 2, 1) := by decide +kernel
theorem dX12_undo_61 : decode cX12_undo 61 = .ok (.iadd, 1) := by decide +kernel
theorem dX12_undo_62 : decode cX12_undo 62 = .ok (.iaload, 1) := by decide +kernel
theorem dX12_undo_63 : decode cX12_undo 63 = .ok (.iastore, 1) := by decide +kernel
theorem dX12_undo_64 : decode cX12_undo 64 = .ok (.iinc 2 1, 3) := by decide +kernel
theorem dX12_undo_67 : decode cX12_undo 67 = .ok (.goto (-29), 3) := by decide +kernel
theorem dX12_undo_70 : decode cX12_undo 70 = .ok (.aload_n 0, 1) := by decide +kernel
theorem dX12_undo_71 : decode cX12_undo 71 = .ok (.getfield 19, 3) := by decide +kernel
theorem dX12_undo_74 : decode cX12_undo 74 = .ok (.iconst 0, 1) := by decide +kernel
theorem dX12_undo_75 : decode cX12_undo 75 = .ok (.iaload, 1) := by decide +kernel
theorem dX12_undo_76 : decode cX12_undo 76 = .ok (.ireturn, 1) := by decide +kernel
theorem dX12_asides_0 : decode cX12_asides 0 = .ok (.iconst 0, 1) := by decide +kernel
theorem dX12_asides_1 : decode cX12_asides 1 = .ok (.istore_n 1, 1) := by decide +kernel
theorem dX12_asides_2 : decode cX12_asides 2 = .ok (.iload_n 1, 1) := by decide +kernel
theorem dX12_asides_3 : decode cX12_asides 3 = .ok (.bipush 13, 2) := by decide +kernel
theorem dX12_asides_5 : decode cX12_asides 5 = .ok (.if_icmp .ge 21, 3) := by decide +kernel
theorem dX12_asides_8 : decode cX12_asides 8 = .ok (.aload_n 0, 1) := by decide +kernel
theorem dX12_asides_9 : decode cX12_asides 9 = .ok (.getfield 28, 3) := by decide +kernel
theorem dX12_asides_12 : decode cX12_asides 12 = .ok (.iload_n 1, 1) := by decide +kernel
theorem dX12_asides_13 : decode cX12_asides 13 = .ok (.aload_n 0, 1) := by decide +kernel
theorem dX12_asides_14 : decode cX12_asides 14 = .ok (.getfield 19, 3) := by decide +kernel
theorem dX12_asides_17 : decode cX12_asides 17 = .ok (.iload_n 1, 1) := by decide +kernel
theorem dX12_asides_18 : decode cX12_asides 18 = .ok (.iaload, 1) := by decide +kernel
theorem dX12_asides_19 : decode cX12_asides 19 = .ok (.iastore, 1) := by decide +kernel
theorem dX12_asides_20 : decode cX12_asides 20 = .ok (.iinc 1 1, 3) := by decide +kernel
theorem dX12_asides_23 : decode cX12_asides 23 = .ok (.goto (-21), 3) := by decide +kernel
theorem dX12_asides_26 : decode cX12_asides 26 = .ok (.return_, 1) := by decide +kernel
theorem dX12_backs_0 : decode cX12_backs 0 = .ok (.iconst 0, 1) := by decide +kernel
theorem dX12_backs_1 : decode cX12_backs 1 = .ok (.istore_n 1, 1) := by decide +kernel
theorem dX12_backs_2 : decode cX12_backs 2 = .ok (.iload_n 1, 1) := by decide +kernel
theorem dX12_backs_3 : decode cX12_backs 3 = .ok (.bipush 13, 2) := by decide +kernel
theorem dX12_backs_5 : decode cX12_backs 5 = .ok (.if_icmp .ge 21, 3) := by decide +kernel
theorem dX12_backs_8 : decode cX12_backs 8 = .ok (.aload_n 0, 1) := by decide +kernel
theorem dX12_backs_9 : decode cX12_backs 9 = .ok (.getfield 19, 3) := by decide +kernel
theorem dX12_backs_12 : decode cX12_backs 12 = .ok (.iload_n 1, 1) := by decide +kernel
theorem dX12_backs_13 : decode cX12_backs 13 = .ok (.aload_n 0, 1) := by decide +kernel
theorem dX12_backs_14 : decode cX12_backs 14 = .ok (.getfield 28, 3) := by decide +kernel
theorem dX12_backs_17 : decode cX12_backs 17 = .ok (.iload_n 1, 1) := by decide +kernel
theorem dX12_backs_18 : decode cX12_backs 18 = .ok (.iaload, 1) := by decide +kernel
theorem dX12_backs_19 : decode cX12_backs 19 = .ok (.iastore, 1) := by decide +kernel
theorem dX12_backs_20 : decode cX12_backs 20 = .ok (.iinc 1 1, 3) := by decide +kernel
theorem dX12_backs_23 : decode cX12_backs 23 = .ok (.goto (-21), 3) := by decide +kernel
theorem dX12_backs_26 : decode cX12_backs 26 = .ok (.return_, 1) := by decide +kernel
theorem dX12_least_0 : decode cX12_least 0 = .ok (.iconst 0, 1) := by decide +kernel
theorem dX12_least_1 : decode cX12_least 1 = .ok (.istore_n 1, 1) := by decide +kernel
theorem dX12_least_2 : decode cX12_least 2 = .ok (.iload_n 0, 1) := by decide +kernel
theorem dX12_least_3 : decode cX12_least 3 = .ok (.iload_n 1, 1) := by decide +kernel
theorem dX12_least_4 : decode cX12_least 4 = .ok (.ishr, 1) := by decide +kernel
theorem dX12_least_5 : decode cX12_least 5 = .ok (.iconst 1, 1) := by decide +kernel
theorem dX12_least_6 : decode cX12_least 6 = .ok (.iand, 1) := by decide +kernel
theorem dX12_least_7 : decode cX12_least 7 = .ok (.ifCond .ne 9, 3) := by decide +kernel
theorem dX12_least_10 : decode cX12_least 10 = .ok (.iinc 1 1, 3) := by decide +kernel
theorem dX12_least_13 : decode cX12_least 13 = .ok (.goto (-11), 3) := by decide +kernel
theorem dX12_least_16 : decode cX12_least 16 = .ok (.iload_n 1, 1) := by decide +kernel
theorem dX12_least_17 : decode cX12_least 17 = .ok (.ireturn, 1) := by decide +kernel
theorem dX12_firstAwake_0 : decode cX12_firstAwake 0 = .ok (.iload_n 1, 1) := by decide +kernel
theorem dX12_firstAwake_1 : decode cX12_firstAwake 1 = .ok (.i2l, 1) := by decide +kernel
theorem dX12_firstAwake_2 : decode cX12_firstAwake 2 = .ok (.lconst 0, 1) := by decide +kernel
theorem dX12_firstAwake_3 : decode cX12_firstAwake 3 = .ok (.lconst 1, 1) := by decide +kernel
theorem dX12_firstAwake_4 : decode cX12_firstAwake 4 = .ok (.invokestatic 67, 3) := by decide +kernel
theorem dX12_firstAwake_7 : decode cX12_firstAwake 7 = .ok (.ifCond .ne 6, 3) := by decide +kernel
theorem dX12_firstAwake_10 : decode cX12_firstAwake 10 = .ok (.ldc 71, 2) := by decide +kernel
theorem dX12_firstAwake_12 : decode cX12_firstAwake 12 = .ok (.ireturn, 1) := by decide +kernel
theorem dX12_firstAwake_13 : decode cX12_firstAwake 13 = .ok (.aload_n 0, 1) := by decide +kernel
theorem dX12_firstAwake_14 : decode cX12_firstAwake 14 = .ok (.invokevirtual 189, 3) := by decide +kernel
theorem dX12_firstAwake_17 : decode cX12_firstAwake 17 = .ok (.iconst (-1), 1) := by decide +kernel
theorem dX12_firstAwake_18 : decode cX12_firstAwake 18 = .ok (.istore_n 2, 1) := by decide +kernel
theorem dX12_firstAwake_19 : decode cX12_firstAwake 19 = .ok (.iconst 0, 1) := by decide +kernel
theorem dX12_firstAwake_20 : decode cX12_firstAwake 20 = .ok (.istore_n 3, 1) := by decide +kernel
theorem dX12_firstAwake_21 : decode cX12_firstAwake 21 = .ok (.iload_n 3, 1) := by decide +kernel
theorem dX12_firstAwake_22 : decode cX12_firstAwake 22 = .ok (.bipush 100, 2) := by decide +kernel
theorem dX12_firstAwake_24 : decode cX12_firstAwake 24 = .ok (.if_icmp .ge 56, 3) := by decide +kernel
theorem dX12_firstAwake_27 : decode cX12_firstAwake 27 = .ok (.iload_n 2, 1) := by decide +kernel
theorem dX12_firstAwake_28 : decode cX12_firstAwake 28 = .ok (.iconst (-1), 1) := by decide +kernel
theorem dX12_firstAwake_29 : decode cX12_firstAwake 29 = .ok (.if_icmp .ne 51, 3) := by decide +kernel
theorem dX12_firstAwake_32 : decode cX12_firstAwake 32 = .ok (.aload_n 0, 1) := by decide +kernel
theorem dX12_firstAwake_33 : decode cX12_firstAwake 33 = .ok (.invokevirtual 122, 3) := by decide +kernel
theorem dX12_firstAwake_36 : decode cX12_firstAwake 36 = .ok (.ifCond .eq 44, 3) := by decide +kernel
theorem dX12_firstAwake_39 : decode cX12_firstAwake 39 = .ok (.aload_n 0, 1) := by decide +kernel
theorem dX12_firstAwake_40 : decode cX12_firstAwake 40 = .ok (.invokevirtual 142, 3) := by decide +kernel
theorem dX12_firstAwake_43 : decode cX12_firstAwake 43 = .ok (.ifCond .ne 7, 3) := by decide +kernel
theorem dX12_firstAwake_46 : decode cX12_firstAwake 46 = .ok (.iconst (-1), 1) := by decide +kernel
theorem dX12_firstAwake_47 : decode cX12_firstAwake 47 = .ok (.goto 18, 3) := by decide +kernel
theorem dX12_firstAwake_50 : decode cX12_firstAwake 50 = .ok (.iload_n 1, 1) := by decide +kernel
theorem dX12_firstAwake_51 : decode cX12_firstAwake 51 = .ok (.ifCond .ne 7, 3) := by decide +kernel
theorem dX12_firstAwake_54 : decode cX12_firstAwake 54 = .ok (.iload_n 3, 1) := by decide +kernel
theorem dX12_firstAwake_55 : decode cX12_firstAwake 55 = .ok (.goto 10, 3) := by decide +kernel
theorem dX12_firstAwake_58 : decode cX12_firstAwake 58 = .ok (.aload_n 0, 1) := by decide +kernel
theorem dX12_firstAwake_59 : decode cX12_firstAwake 59 = .ok (.invokevirtual 142, 3) := by decide +kernel
theorem dX12_firstAwake_62 : decode cX12_firstAwake 62 = .ok (.invokestatic 192, 3) := by decide +kernel
theorem dX12_firstAwake_65 : decode cX12_firstAwake 65 = .ok (.istore_n 2, 1) := by decide +kernel
theorem dX12_firstAwake_66 : decode cX12_firstAwake 66 = .ok (.aload_n 0, 1) := by decide +kernel
theorem dX12_firstAwake_67 : decode cX12_firstAwake 67 = .ok (.aload_n 0, 1) := by decide +kernel
theorem dX12_firstAwake_68 : decode cX12_firstAwake 68 = .ok (.invokevirtual 171, 3) := by decide +kernel
theorem dX12_firstAwake_71 : decode cX12_firstAwake 71 = .ok (.invokevirtual 166, 3) := by decide +kernel
theorem dX12_firstAwake_74 : decode cX12_firstAwake 74 = .ok (.iinc 3 1, 3) := by decide +kernel
theorem dX12_firstAwake_77 : decode cX12_firstAwake 77 = .ok (.goto (-56), 3) := by decide +kernel
theorem dX12_firstAwake_80 : decode cX12_firstAwake 80 = .ok (.aload_n 0, 1) := by decide +kernel
theorem dX12_firstAwake_81 : decode cX12_firstAwake 81 = .ok (.invokevirtual 195, 3) := by decide +kernel
theorem dX12_firstAwake_84 : decode cX12_firstAwake 84 = .ok (.iload_n 2, 1) := by decide +kernel
theorem dX12_firstAwake_85 : decode cX12_firstAwake 85 = .ok (.ireturn, 1) := by decide +kernel
theorem dX12_power_0 : decode cX12_power 0 = .ok (.iconst 1, 1) := by decide +kernel
theorem dX12_power_1 : decode cX12_power 1 = .ok (.iconst 2, 1) := by decide +kernel
theorem dX12_power_2 : decode cX12_power 2 = .ok (.iload_n 0, 1) := by decide +kernel
theorem dX12_power_3 : decode cX12_power 3 = .ok (.imul, 1) := by decide +kernel
theorem dX12_power_4 : decode cX12_power 4 = .ok (.ishl, 1) := by decide +kernel
theorem dX12_power_5 : decode cX12_power 5 = .ok (.ireturn, 1) := by decide +kernel
theorem dX12_word_0 : decode cX12_word 0 = .ok (.iload_n 0, 1) := by decide +kernel
theorem dX12_word_1 : decode cX12_word 1 = .ok (.iconst 2, 1) := by decide +kernel
theorem dX12_word_2 : decode cX12_word 2 = .ok (.iload_n 1, 1) := by decide +kernel
theorem dX12_word_3 : decode cX12_word 3 = .ok (.iconst 1, 1) := by decide +kernel
theorem dX12_word_4 : decode cX12_word 4 = .ok (.isub, 1) := by decide +kernel
theorem dX12_word_5 : decode cX12_word 5 = .ok (.iload_n 2, 1) := by decide +kernel
theorem dX12_word_6 : decode cX12_word 6 = .ok (.isub, 1) := by decide +kernel
theorem dX12_word_7 : decode cX12_word 7 = .ok (.imul, 1) := by decide +kernel
theorem dX12_word_8 : decode cX12_word 8 = .ok (.ishr, 1) := by decide +kernel
theorem dX12_word_9 : decode cX12_word 9 = .ok (.iconst 3, 1) := by decide +kernel
theorem dX12_word_10 : decode cX12_word 10 = .ok (.iand, 1) := by decide +kernel
theorem dX12_word_11 : decode cX12_word 11 = .ok (.ireturn, 1) := by decide +kernel
theorem dX12_sleeps_0 : decode cX12_sleeps 0 = .ok (.iconst 1, 1) := by decide +kernel
theorem dX12_sleeps_1 : decode cX12_sleeps 1 = .ok (.istore 4, 2) := by decide +kernel
theorem dX12_sleeps_3 : decode cX12_sleeps 3 = .ok (.iconst 0, 1) := by decide +kernel
theorem dX12_sleeps_4 : decode cX12_sleeps 4 = .ok (.istore 5, 2) := by decide +kernel
theorem dX12_sleeps_6 : decode cX12_sleeps 6 = .ok (.iload 5, 2) := by decide +kernel
theorem dX12_sleeps_8 : decode cX12_sleeps 8 = .ok (.iload_n 3, 1) := by decide +kernel
theorem dX12_sleeps_9 : decode cX12_sleeps 9 = .ok (.if_icmp .ge 41, 3) := by decide +kernel
theorem dX12_sleeps_12 : decode cX12_sleeps 12 = .ok (.iload 4, 2) := by decide +kernel
theorem dX12_sleeps_14 : decode cX12_sleeps 14 = .ok (.ifCond .eq 36, 3) := by decide +kernel
theorem dX12_sleeps_17 : decode cX12_sleeps 17 = .ok (.aload_n 0, 1) := by decide +kernel
theorem dX12_sleeps_18 : decode cX12_sleeps 18 = .ok (.iload_n 1, 1) := by decide +kernel
theorem dX12_sleeps_19 : decode cX12_sleeps 19 = .ok (.iload_n 2, 1) := by decide +kernel
theorem dX12_sleeps_20 : decode cX12_sleeps 20 = .ok (.iload 5, 2) := by decide +kernel
theorem dX12_sleeps_22 : decode cX12_sleeps 22 = .ok (.iload_n 2, 1) := by decide +kernel
theorem dX12_sleeps_23 : decode cX12_sleeps 23 = .ok (.irem, 1) := by decide +kernel
theorem dX12_sleeps_24 : decode cX12_sleeps 24 = .ok (.invokestatic 198, 3) := by decide +kernel
theorem dX12_sleeps_27 : decode cX12_sleeps 27 = .ok (.invokevirtual 166, 3) := by decide +kernel
theorem dX12_sleeps_30 : decode cX12_sleeps 30 = .ok (.aload_n 0, 1) := by decide +kernel
theorem dX12_sleeps_31 : decode cX12_sleeps 31 = .ok (.invokevirtual 142, 3) := by decide +kernel
theorem dX12_sleeps_34 : decode cX12_sleeps 34 = .ok (.ifCond .ne 7, 3) := by decide +kernel
theorem dX12_sleeps_37 : decode cX12_sleeps 37 = .ok (.iconst 1, 1) := by decide +kernel
theorem dX12_sleeps_38 : decode cX12_sleeps 38 = .ok (.goto 4, 3) := by decide +kernel
theorem dX12_sleeps_41 : decode cX12_sleeps 41 = .ok (.iconst 0, 1) := by decide +kernel
theorem dX12_sleeps_42 : decode cX12_sleeps 42 = .ok (.istore 4, 2) := by decide +kernel
theorem dX12_sleeps_44 : decode cX12_sleeps 44 = .ok (.iinc 5 1, 3) := by decide +kernel
theorem dX12_sleeps_47 : decode cX12_sleeps 47 = .ok (.goto (-41), 3) := by decide +kernel
theorem dX12_sleeps_50 : decode cX12_sleeps 50 = .ok (.iload 4, 2) := by decide +kernel
theorem dX12_sleeps_52 : decode cX12_sleeps 52 = .ok (.ireturn, 1) := by decide +kernel
theorem dX12_turnsFor_0 : decode cX12_turnsFor 0 = .ok (.iload_n 1, 1) := by decide +kernel
theorem dX12_turnsFor_1 : decode cX12_turnsFor 1 = .ok (.i2l, 1) := by decide +kernel
theorem dX12_turnsFor_2 : decode cX12_turnsFor 2 = .ok (.lconst 1, 1) := by decide +kernel
theorem dX12_turnsFor_3 : decode cX12_turnsFor 3 = .ok (.ldc2_w 202, 3) := by decide +kernel
theorem dX12_turnsFor_6 : decode cX12_turnsFor 6 = .ok (.invokestatic 67, 3) := by decide +kernel
theorem dX12_turnsFor_9 : decode cX12_turnsFor 9 = .ok (.ifCond .ne 6, 3) := by decide +kernel
theorem dX12_turnsFor_12 : decode cX12_turnsFor 12 = .ok (.ldc 71, 2) := by decide +kernel
theorem dX12_turnsFor_14 : decode cX12_turnsFor 14 = .ok (.ireturn, 1) := by decide +kernel
theorem dX12_turnsFor_15 : decode cX12_turnsFor 15 = .ok (.aload_n 0, 1) := by decide +kernel
theorem dX12_turnsFor_16 : decode cX12_turnsFor 16 = .ok (.invokevirtual 122, 3) := by decide +kernel
theorem dX12_turnsFor_19 : decode cX12_turnsFor 19 = .ok (.ifCond .ne 6, 3) := by decide +kernel
theorem dX12_turnsFor_22 : decode cX12_turnsFor 22 = .ok (.ldc 158, 2) := by decide +kernel
theorem dX12_turnsFor_24 : decode cX12_turnsFor 24 = .ok (.ireturn, 1) := by decide +kernel
theorem dX12_turnsFor_25 : decode cX12_turnsFor 25 = .ok (.aload_n 0, 1) := by decide +kernel
theorem dX12_turnsFor_26 : decode cX12_turnsFor 26 = .ok (.invokevirtual 189, 3) := by decide +kernel
theorem dX12_turnsFor_29 : decode cX12_turnsFor 29 = .ok (.iconst (-1), 1) := by decide +kernel
theorem dX12_turnsFor_30 : decode cX12_turnsFor 30 = .ok (.istore_n 3, 1) := by decide +kernel
theorem dX12_turnsFor_31 : decode cX12_turnsFor 31 = .ok (.iconst (-1), 1) := by decide +kernel
theorem dX12_turnsFor_32 : decode cX12_turnsFor 32 = .ok (.istore 4, 2) := by decide +kernel
theorem dX12_turnsFor_34 : decode cX12_turnsFor 34 = .ok (.iconst 0, 1) := by decide +kernel
theorem dX12_turnsFor_35 : decode cX12_turnsFor 35 = .ok (.istore 5, 2) := by decide +kernel
theorem dX12_turnsFor_37 : decode cX12_turnsFor 37 = .ok (.iconst 0, 1) := by decide +kernel
theorem dX12_turnsFor_38 : decode cX12_turnsFor 38 = .ok (.istore 6, 2) := by decide +kernel
theorem dX12_turnsFor_40 : decode cX12_turnsFor 40 = .ok (.iload 6, 2) := by decide +kernel
theorem dX12_turnsFor_42 : decode cX12_turnsFor 42 = .ok (.iload_n 1, 1) := by decide +kernel
theorem dX12_turnsFor_43 : decode cX12_turnsFor 43 = .ok (.invokestatic 204, 3) := by decide +kernel
theorem dX12_turnsFor_46 : decode cX12_turnsFor 46 = .ok (.if_icmp .ge 105, 3) := by decide +kernel
theorem dX12_turnsFor_49 : decode cX12_turnsFor 49 = .ok (.aload_n 0, 1) := by decide +kernel
theorem dX12_turnsFor_50 : decode cX12_turnsFor 50 = .ok (.iload 6, 2) := by decide +kernel
theorem dX12_turnsFor_52 : decode cX12_turnsFor 52 = .ok (.iload_n 1, 1) := by decide +kernel
theorem dX12_turnsFor_53 : decode cX12_turnsFor 53 = .ok (.iload_n 1, 1) := by decide +kernel
theorem dX12_turnsFor_54 : decode cX12_turnsFor 54 = .ok (.invokevirtual 207, 3) := by decide +kernel
theorem dX12_turnsFor_57 : decode cX12_turnsFor 57 = .ok (.istore 7, 2) := by decide +kernel
theorem dX12_turnsFor_59 : decode cX12_turnsFor 59 = .ok (.aload_n 0, 1) := by decide +kernel
theorem dX12_turnsFor_60 : decode cX12_turnsFor 60 = .ok (.invokevirtual 145, 3) := by decide +kernel
theorem dX12_turnsFor_63 : decode cX12_turnsFor 63 = .ok (.istore 8, 2) := by decide +kernel
theorem dX12_turnsFor_65 : decode cX12_turnsFor 65 = .ok (.iconst 0, 1) := by decide +kernel
theorem dX12_turnsFor_66 : decode cX12_turnsFor 66 = .ok (.istore 9, 2) := by decide +kernel
theorem dX12_turnsFor_68 : decode cX12_turnsFor 68 = .ok (.iconst 0, 1) := by decide +kernel
theorem dX12_turnsFor_69 : decode cX12_turnsFor 69 = .ok (.istore 10, 2) := by decide +kernel
theorem dX12_turnsFor_71 : decode cX12_turnsFor 71 = .ok (.iload 10, 2) := by decide +kernel
theorem dX12_turnsFor_73 : decode cX12_turnsFor 73 = .ok (.iload_n 1, 1) := by decide +kernel
theorem dX12_turnsFor_74 : decode cX12_turnsFor 74 = .ok (.if_icmp .ge 30, 3) := by decide +kernel
theorem dX12_turnsFor_77 : decode cX12_turnsFor 77 = .ok (.iload 9, 2) := by decide +kernel
theorem dX12_turnsFor_79 : decode cX12_turnsFor 79 = .ok (.iload 6, 2) := by decide +kernel
theorem dX12_turnsFor_81 : decode cX12_turnsFor 81 = .ok (.iload_n 1, 1) := by decide +kernel
theorem dX12_turnsFor_82 : decode cX12_turnsFor 82 = .ok (.iload 10, 2) := by decide +kernel
theorem dX12_turnsFor_84 : decode cX12_turnsFor 84 = .ok (.invokestatic 198, 3) := by decide +kernel
theorem dX12_turnsFor_87 : decode cX12_turnsFor 87 = .ok (.ifCond .ne 7, 3) := by decide +kernel
theorem dX12_turnsFor_90 : decode cX12_turnsFor 90 = .ok (.iconst 0, 1) := by decide +kernel
theorem dX12_turnsFor_91 : decode cX12_turnsFor 91 = .ok (.goto 4, 3) := by decide +kernel
theorem dX12_turnsFor_94 : decode cX12_turnsFor 94 = .ok (.iconst 1, 1) := by decide +kernel
theorem dX12_turnsFor_95 : decode cX12_turnsFor 95 = .ok (.iadd, 1) := by decide +kernel
theorem dX12_turnsFor_96 : decode cX12_turnsFor 96 = .ok (.istore 9, 2) := by decide +kernel
theorem dX12_turnsFor_98 : decode cX12_turnsFor 98 = .ok (.iinc 10 1, 3) := by decide +kernel
theorem dX12_turnsFor_101 : decode cX12_turnsFor 101 = .ok (.goto (-30), 3) := by decide +kernel
theorem dX12_turnsFor_104 : decode cX12_turnsFor 104 = .ok (.aload_n 0, 1) := by decide +kernel
theorem dX12_turnsFor_105 : decode cX12_turnsFor 105 = .ok (.invokevirtual 195, 3) := by decide +kernel
theorem dX12_turnsFor_108 : decode cX12_turnsFor 108 = .ok (.iload 7, 2) := by decide +kernel
theorem dX12_turnsFor_110 : decode cX12_turnsFor 110 = .ok (.ifCond .eq 35, 3) := by decide +kernel
theorem dX12_turnsFor_113 : decode cX12_turnsFor 113 = .ok (.iload 8, 2) := by decide +kernel
theorem dX12_turnsFor_115 : decode cX12_turnsFor 115 = .ok (.iload 4, 2) := by decide +kernel
theorem dX12_turnsFor_117 : decode cX12_turnsFor 117 = .ok (.if_icmp .gt 17, 3) := by decide +kernel
theorem dX12_turnsFor_120 : decode cX12_turnsFor 120 = .ok (.iload 8, 2) := by decide +kernel
theorem dX12_turnsFor_122 : decode cX12_turnsFor 122 = .ok (.iload 4, 2) := by decide +kernel
theorem dX12_turnsFor_124 : decode cX12_turnsFor 124 = .ok (.if_icmp .ne 21, 3) := by decide +kernel
theorem dX12_turnsFor_127 : decode cX12_turnsFor 127 = .ok (.iload 9, 2) := by decide +kernel
theorem dX12_turnsFor_129 : decode cX12_turnsFor 129 = .ok (.iload 5, 2) := by decide +kernel
theorem dX12_turnsFor_131 : decode cX12_turnsFor 131 = .ok (.if_icmp .ge 14, 3) := by decide +kernel
theorem dX12_turnsFor_134 : decode cX12_turnsFor 134 = .ok (.iload 6, 2) := by decide +kernel
theorem dX12_turnsFor_136 : decode cX12_turnsFor 136 = .ok (.istore_n 3, 1) := by decide +kernel
theorem dX12_turnsFor_137 : decode cX12_turnsFor 137 = .ok (.iload 8, 2) := by decide +kernel
theorem dX12_turnsFor_139 : decode cX12_turnsFor 139 = .ok (.istore 4, 2) := by decide +kernel
theorem dX12_turnsFor_141 : decode cX12_turnsFor 141 = .ok (.iload 9, 2) := by decide +kernel
theorem dX12_turnsFor_143 : decode cX12_turnsFor 143 = .ok (.istore 5, 2) := by decide +kernel
theorem dX12_turnsFor_145 : decode cX12_turnsFor 145 = .ok (.iinc 6 1, 3) := by decide +kernel
theorem dX12_turnsFor_148 : decode cX12_turnsFor 148 = .ok (.goto (-108), 3) := by decide +kernel
theorem dX12_turnsFor_151 : decode cX12_turnsFor 151 = .ok (.iload_n 3, 1) := by decide +kernel
theorem dX12_turnsFor_152 : decode cX12_turnsFor 152 = .ok (.iconst (-1), 1) := by decide +kernel
theorem dX12_turnsFor_153 : decode cX12_turnsFor 153 = .ok (.if_icmp .ne 7, 3) := by decide +kernel
theorem dX12_turnsFor_156 : decode cX12_turnsFor 156 = .ok (.iconst (-1), 1) := by decide +kernel
theorem dX12_turnsFor_157 : decode cX12_turnsFor 157 = .ok (.goto 36, 3) := by decide +kernel
theorem dX12_turnsFor_160 : decode cX12_turnsFor 160 = .ok (.iload_n 2, 1) := by decide +kernel
theorem dX12_turnsFor_161 : decode cX12_turnsFor 161 = .ok (.iconst (-1), 1) := by decide +kernel
theorem dX12_turnsFor_162 : decode cX12_turnsFor 162 = .ok (.if_icmp .ne 8, 3) := by decide +kernel
theorem dX12_turnsFor_165 : decode cX12_turnsFor 165 = .ok (.iload 4, 2) := by decide +kernel
theorem dX12_turnsFor_167 : decode cX12_turnsFor 167 = .ok (.goto 26, 3) := by decide +kernel
theorem dX12_turnsFor_170 : decode cX12_turnsFor 170 = .ok (.iload_n 2, 1) := by decide +kernel
theorem dX12_turnsFor_171 : decode cX12_turnsFor 171 = .ok (.i2l, 1) := by decide +kernel
theorem dX12_turnsFor_172 : decode cX12_turnsFor 172 = .ok (.lconst 0, 1) := by decide +kernel
theorem dX12_turnsFor_173 : decode cX12_turnsFor 173 = .ok (.iload_n 1, 1) := by decide +kernel
theorem dX12_turnsFor_174 : decode cX12_turnsFor 174 = .ok (.iconst 1, 1) := by decide +kernel
theorem dX12_turnsFor_175 : decode cX12_turnsFor 175 = .ok (.isub, 1) := by decide +kernel
theorem dX12_turnsFor_176 : decode cX12_turnsFor 176 = .ok (.i2l, 1) := by decide +kernel
theorem dX12_turnsFor_177 : decode cX12_turnsFor 177 = .ok (.invokestatic 67, 3) := by decide +kernel
theorem dX12_turnsFor_180 : decode cX12_turnsFor 180 = .ok (.ifCond .eq 12, 3) := by decide +kernel
theorem dX12_turnsFor_183 : decode cX12_turnsFor 183 = .ok (.iload_n 3, 1) := by decide +kernel
theorem dX12_turnsFor_184 : decode cX12_turnsFor 184 = .ok (.iload_n 1, 1) := by decide +kernel
theorem dX12_turnsFor_185 : decode cX12_turnsFor 185 = .ok (.iload_n 2, 1) := by decide +kernel
theorem dX12_turnsFor_186 : decode cX12_turnsFor 186 = .ok (.invokestatic 198, 3) := by decide +kernel
theorem dX12_turnsFor_189 : decode cX12_turnsFor 189 = .ok (.goto 4, 3) := by decide +kernel
theorem dX12_turnsFor_192 : decode cX12_turnsFor 192 = .ok (.iconst (-1), 1) := by decide +kernel
theorem dX12_turnsFor_193 : decode cX12_turnsFor 193 = .ok (.ireturn, 1) := by decide +kernel
theorem dX12_rhyme_0 : decode cX12_rhyme 0 = .ok (.iload_n 1, 1) := by decide +kernel
theorem dX12_rhyme_1 : decode cX12_rhyme 1 = .ok (.i2l, 1) := by decide +kernel
theorem dX12_rhyme_2 : decode cX12_rhyme 2 = .ok (.lconst 1, 1) := by decide +kernel
theorem dX12_rhyme_3 : decode cX12_rhyme 3 = .ok (.ldc2_w 187, 3) := by decide +kernel
theorem dX12_rhyme_6 : decode cX12_rhyme 6 = .ok (.invokestatic 67, 3) := by decide +kernel
theorem dX12_rhyme_9 : decode cX12_rhyme 9 = .ok (.ifCond .ne 6, 3) := by decide +kernel
theorem dX12_rhyme_12 : decode cX12_rhyme 12 = .ok (.ldc 71, 2) := by decide +kernel
theorem dX12_rhyme_14 : decode cX12_rhyme 14 = .ok (.ireturn, 1) := by decide +kernel
theorem dX12_rhyme_15 : decode cX12_rhyme 15 = .ok (.aload_n 0, 1) := by decide +kernel
theorem dX12_rhyme_16 : decode cX12_rhyme 16 = .ok (.invokevirtual 122, 3) := by decide +kernel
theorem dX12_rhyme_19 : decode cX12_rhyme 19 = .ok (.ifCond .ne 6, 3) := by decide +kernel
theorem dX12_rhyme_22 : decode cX12_rhyme 22 = .ok (.ldc 158, 2) := by decide +kernel
theorem dX12_rhyme_24 : decode cX12_rhyme 24 = .ok (.ireturn, 1) := by decide +kernel
theorem dX12_rhyme_25 : decode cX12_rhyme 25 = .ok (.aload_n 0, 1) := by decide +kernel
theorem dX12_rhyme_26 : decode cX12_rhyme 26 = .ok (.invokevirtual 189, 3) := by decide +kernel
theorem dX12_rhyme_29 : decode cX12_rhyme 29 = .ok (.iconst 1, 1) := by decide +kernel
theorem dX12_rhyme_30 : decode cX12_rhyme 30 = .ok (.istore_n 3, 1) := by decide +kernel
theorem dX12_rhyme_31 : decode cX12_rhyme 31 = .ok (.iload_n 3, 1) := by decide +kernel
theorem dX12_rhyme_32 : decode cX12_rhyme 32 = .ok (.iconst 5, 1) := by decide +kernel
theorem dX12_rhyme_33 : decode cX12_rhyme 33 = .ok (.if_icmp .ge 80, 3) := by decide +kernel
theorem dX12_rhyme_36 : decode cX12_rhyme 36 = .ok (.iconst 0, 1) := by decide +kernel
theorem dX12_rhyme_37 : decode cX12_rhyme 37 = .ok (.istore 4, 2) := by decide +kernel
theorem dX12_rhyme_39 : decode cX12_rhyme 39 = .ok (.iload 4, 2) := by decide +kernel
theorem dX12_rhyme_41 : decode cX12_rhyme 41 = .ok (.iload_n 3, 1) := by decide +kernel
theorem dX12_rhyme_42 : decode cX12_rhyme 42 = .ok (.invokestatic 204, 3) := by decide +kernel
theorem dX12_rhyme_45 : decode cX12_rhyme 45 = .ok (.if_icmp .ge 62, 3) := by decide +kernel
theorem dX12_rhyme_48 : decode cX12_rhyme 48 = .ok (.aload_n 0, 1) := by decide +kernel
theorem dX12_rhyme_49 : decode cX12_rhyme 49 = .ok (.iload 4, 2) := by decide +kernel
theorem dX12_rhyme_51 : decode cX12_rhyme 51 = .ok (.iload_n 3, 1) := by decide +kernel
theorem dX12_rhyme_52 : decode cX12_rhyme 52 = .ok (.iload_n 1, 1) := by decide +kernel
theorem dX12_rhyme_53 : decode cX12_rhyme 53 = .ok (.invokevirtual 207, 3) := by decide +kernel
theorem dX12_rhyme_56 : decode cX12_rhyme 56 = .ok (.istore 5, 2) := by decide +kernel
theorem dX12_rhyme_58 : decode cX12_rhyme 58 = .ok (.aload_n 0, 1) := by decide +kernel
theorem dX12_rhyme_59 : decode cX12_rhyme 59 = .ok (.invokevirtual 195, 3) := by decide +kernel
theorem dX12_rhyme_62 : decode cX12_rhyme 62 = .ok (.iload 5, 2) := by decide +kernel
theorem dX12_rhyme_64 : decode cX12_rhyme 64 = .ok (.ifCond .eq 37, 3) := by decide +kernel
theorem dX12_rhyme_67 : decode cX12_rhyme 67 = .ok (.iload_n 2, 1) := by decide +kernel
theorem dX12_rhyme_68 : decode cX12_rhyme 68 = .ok (.iconst (-1), 1) := by decide +kernel
theorem dX12_rhyme_69 : decode cX12_rhyme 69 = .ok (.if_icmp .ne 7, 3) := by decide +kernel
theorem dX12_rhyme_72 : decode cX12_rhyme 72 = .ok (.iload_n 3, 1) := by decide +kernel
theorem dX12_rhyme_73 : decode cX12_rhyme 73 = .ok (.goto 27, 3) := by decide +kernel
theorem dX12_rhyme_76 : decode cX12_rhyme 76 = .ok (.iload_n 2, 1) := by decide +kernel
theorem dX12_rhyme_77 : decode cX12_rhyme 77 = .ok (.i2l, 1) := by decide +kernel
theorem dX12_rhyme_78 : decode cX12_rhyme 78 = .ok (.lconst 0, 1) := by decide +kernel
theorem dX12_rhyme_79 : decode cX12_rhyme 79 = .ok (.iload_n 3, 1) := by decide +kernel
theorem dX12_rhyme_80 : decode cX12_rhyme 80 = .ok (.iconst 1, 1) := by decide +kernel
theorem dX12_rhyme_81 : decode cX12_rhyme 81 = .ok (.isub, 1) := by decide +kernel
theorem dX12_rhyme_82 : decode cX12_rhyme 82 = .ok (.i2l, 1) := by decide +kernel
theorem dX12_rhyme_83 : decode cX12_rhyme 83 = .ok (.invokestatic 67, 3) := by decide +kernel
theorem dX12_rhyme_86 : decode cX12_rhyme 86 = .ok (.ifCond .eq 13, 3) := by decide +kernel
theorem dX12_rhyme_89 : decode cX12_rhyme 89 = .ok (.iload 4, 2) := by decide +kernel
theorem dX12_rhyme_91 : decode cX12_rhyme 91 = .ok (.iload_n 3, 1) := by decide +kernel
theorem dX12_rhyme_92 : decode cX12_rhyme 92 = .ok (.iload_n 2, 1) := by decide +kernel
theorem dX12_rhyme_93 : decode cX12_rhyme 93 = .ok (.invokestatic 198, 3) := by decide +kernel
theorem dX12_rhyme_96 : decode cX12_rhyme 96 = .ok (.goto 4, 3) := by decide +kernel
theorem dX12_rhyme_99 : decode cX12_rhyme 99 = .ok (.iconst (-1), 1) := by decide +kernel
theorem dX12_rhyme_100 : decode cX12_rhyme 100 = .ok (.ireturn, 1) := by decide +kernel
theorem dX12_rhyme_101 : decode cX12_rhyme 101 = .ok (.iinc 4 1, 3) := by decide +kernel
theorem dX12_rhyme_104 : decode cX12_rhyme 104 = .ok (.goto (-65), 3) := by decide +kernel
theorem dX12_rhyme_107 : decode cX12_rhyme 107 = .ok (.iinc 3 1, 3) := by decide +kernel
theorem dX12_rhyme_110 : decode cX12_rhyme 110 = .ok (.goto (-79), 3) := by decide +kernel
theorem dX12_rhyme_113 : decode cX12_rhyme 113 = .ok (.iconst (-1), 1) := by decide +kernel
theorem dX12_rhyme_114 : decode cX12_rhyme 114 = .ok (.ireturn, 1) := by decide +kernel
theorem dX12_laid_0 : decode cX12_laid 0 = .ok (.iload_n 1, 1) := by decide +kernel
theorem dX12_laid_1 : decode cX12_laid 1 = .ok (.i2l, 1) := by decide +kernel
theorem dX12_laid_2 : decode cX12_laid 2 = .ok (.lconst 1, 1) := by decide +kernel
theorem dX12_laid_3 : decode cX12_laid 3 = .ok (.ldc2_w 211, 3) := by decide +kernel
theorem dX12_laid_6 : decode cX12_laid 6 = .ok (.invokestatic 67, 3) := by decide +kernel
theorem dX12_laid_9 : decode cX12_laid 9 = .ok (.ifCond .ne 6, 3) := by decide +kernel
theorem dX12_laid_12 : decode cX12_laid 12 = .ok (.ldc 71, 2) := by decide +kernel
theorem dX12_laid_14 : decode cX12_laid 14 = .ok (.ireturn, 1) := by decide +kernel
theorem dX12_laid_15 : decode cX12_laid 15 = .ok (.iconst 0, 1) := by decide +kernel
theorem dX12_laid_16 : decode cX12_laid 16 = .ok (.istore_n 3, 1) := by decide +kernel
theorem dX12_laid_17 : decode cX12_laid 17 = .ok (.iconst 0, 1) := by decide +kernel
theorem dX12_laid_18 : decode cX12_laid 18 = .ok (.istore 4, 2) := by decide +kernel
theorem dX12_laid_20 : decode cX12_laid 20 = .ok (.iload 4, 2) := by decide +kernel
theorem dX12_laid_22 : decode cX12_laid 22 = .ok (.aload_n 0, 1) := by decide +kernel
theorem dX12_laid_23 : decode cX12_laid 23 = .ok (.getfield 13, 3) := by decide +kernel
theorem dX12_laid_26 : decode cX12_laid 26 = .ok (.iconst 0, 1) := by decide +kernel
theorem dX12_laid_27 : decode cX12_laid 27 = .ok (.iaload, 1) := by decide +kernel
theorem dX12_laid_28 : decode cX12_laid 28 = .ok (.if_icmp .ge 33, 3) := by decide +kernel
theorem dX12_laid_31 : decode cX12_laid 31 = .ok (.aload_n 0, 1) := by decide +kernel
theorem dX12_laid_32 : decode cX12_laid 32 = .ok (.getfield 19, 3) := by decide +kernel
theorem dX12_laid_35 : decode cX12_laid 35 = .ok (.iconst 1, 1) := by decide +kernel
theorem dX12_laid_36 : decode cX12_laid 36 = .ok (.iload 4, 2) := by decide +kernel
theorem dX12_laid_38 : decode cX12_laid 38 = .ok (.iadd, 1) := by decide +kernel
theorem dX12_laid_39 : decode cX12_laid 39 = .ok (.iaload, 1) := by decide +kernel
theorem dX12_laid_40 : decode cX12_laid 40 = .ok (.iconst (-1), 1) := by decide +kernel
theorem dX12_laid_41 : decode cX12_laid 41 = .ok (.if_icmp .eq 14, 3) := by decide +kernel
theorem dX12_laid_44 : decode cX12_laid 44 = .ok (.aload_n 0, 1) := by decide +kernel
theorem dX12_laid_45 : decode cX12_laid 45 = .ok (.getfield 31, 3) := by decide +kernel
theorem dX12_laid_48 : decode cX12_laid 48 = .ok (.iload_n 3, 1) := by decide +kernel
theorem dX12_laid_49 : decode cX12_laid 49 = .ok (.iload 4, 2) := by decide +kernel
theorem dX12_laid_51 : decode cX12_laid 51 = .ok (.iastore, 1) := by decide +kernel
theorem dX12_laid_52 : decode cX12_laid 52 = .ok (.iinc 3 1, 3) := by decide +kernel
theorem dX12_laid_55 : decode cX12_laid 55 = .ok (.iinc 4 1, 3) := by decide +kernel
theorem dX12_laid_58 : decode cX12_laid 58 = .ok (.goto (-38), 3) := by decide +kernel
theorem dX12_laid_61 : decode cX12_laid 61 = .ok (.iload_n 3, 1) := by decide +kernel
theorem dX12_laid_62 : decode cX12_laid 62 = .ok (.ifCond .ne 5, 3) := by decide +kernel
theorem dX12_laid_65 : decode cX12_laid 65 = .ok (.iconst (-1), 1) := by decide +kernel
theorem dX12_laid_66 : decode cX12_laid 66 = .ok (.ireturn, 1) := by decide +kernel
theorem dX12_laid_67 : decode cX12_laid 67 = .ok (.aload_n 0, 1) := by decide +kernel
theorem dX12_laid_68 : decode cX12_laid 68 = .ok (.invokevirtual 189, 3) := by decide +kernel
theorem dX12_laid_71 : decode cX12_laid 71 = .ok (.aload_n 0, 1) := by decide +kernel
theorem dX12_laid_72 : decode cX12_laid 72 = .ok (.invokevirtual 122, 3) := by decide +kernel
theorem dX12_laid_75 : decode cX12_laid 75 = .ok (.istore 4, 2) := by decide +kernel
theorem dX12_laid_77 : decode cX12_laid 77 = .ok (.iconst 1, 1) := by decide +kernel
theorem dX12_laid_78 : decode cX12_laid 78 = .ok (.istore 5, 2) := by decide +kernel
theorem dX12_laid_80 : decode cX12_laid 80 = .ok (.iconst 0, 1) := by decide +kernel
theorem dX12_laid_81 : decode cX12_laid 81 = .ok (.istore 6, 2) := by decide +kernel
theorem dX12_laid_83 : decode cX12_laid 83 = .ok (.iload 6, 2) := by decide +kernel
theorem dX12_laid_85 : decode cX12_laid 85 = .ok (.iload_n 3, 1) := by decide +kernel
theorem dX12_laid_86 : decode cX12_laid 86 = .ok (.if_icmp .ge 16, 3) := by decide +kernel
theorem dX12_laid_89 : decode cX12_laid 89 = .ok (.iload 5, 2) := by decide +kernel
theorem dX12_laid_91 : decode cX12_laid 91 = .ok (.bipush 6, 2) := by decide +kernel
theorem dX12_laid_93 : decode cX12_laid 93 = .ok (.imul, 1) := by decide +kernel
theorem dX12_laid_94 : decode cX12_laid 94 = .ok (.istore 5, 2) := by decide +kernel
theorem dX12_laid_96 : decode cX12_laid 96 = .ok (.iinc 6 1, 3) := by decide +kernel
theorem dX12_laid_99 : decode cX12_laid 99 = .ok (.goto (-16), 3) := by decide +kernel
theorem dX12_laid_102 : decode cX12_laid 102 = .ok (.iconst (-1), 1) := by decide +kernel
theorem dX12_laid_103 : decode cX12_laid 103 = .ok (.istore 6, 2) := by decide +kernel
theorem dX12_laid_105 : decode cX12_laid 105 = .ok (.iconst 0, 1) := by decide +kernel
theorem dX12_laid_106 : decode cX12_laid 106 = .ok (.istore 7, 2) := by decide +kernel
theorem dX12_laid_108 : decode cX12_laid 108 = .ok (.iload 7, 2) := by decide +kernel
theorem dX12_laid_110 : decode cX12_laid 110 = .ok (.iload 5, 2) := by decide +kernel
theorem dX12_laid_112 : decode cX12_laid 112 = .ok (.if_icmp .ge 190, 3) := by decide +kernel
theorem dX12_laid_115 : decode cX12_laid 115 = .ok (.iconst 0, 1) := by decide +kernel
theorem dX12_laid_116 : decode cX12_laid 116 = .ok (.istore 8, 2) := by decide +kernel
theorem dX12_laid_118 : decode cX12_laid 118 = .ok (.iload 7, 2) := by decide +kernel
theorem dX12_laid_120 : decode cX12_laid 120 = .ok (.istore 9, 2) := by decide +kernel
theorem dX12_laid_122 : decode cX12_laid 122 = .ok (.iload_n 3, 1) := by decide +kernel
theorem dX12_laid_123 : decode cX12_laid 123 = .ok (.iconst 1, 1) := by decide +kernel
theorem dX12_laid_124 : decode cX12_laid 124 = .ok (.isub, 1) := by decide +kernel
theorem dX12_laid_125 : decode cX12_laid 125 = .ok (.istore 10, 2) := by decide +kernel
theorem dX12_laid_127 : decode cX12_laid 127 = .ok (.iload 10, 2) := by decide +kernel
theorem dX12_laid_129 : decode cX12_laid 129 = .ok (.ifCond .lt 42, 3) := by decide +kernel
theorem dX12_laid_132 : decode cX12_laid 132 = .ok (.aload_n 0, 1) := by decide +kernel
theorem dX12_laid_133 : decode cX12_laid 133 = .ok (.getfield 34, 3) := by decide +kernel
theorem dX12_laid_136 : decode cX12_laid 136 = .ok (.iload 10, 2) := by decide +kernel
theorem dX12_laid_138 : decode cX12_laid 138 = .ok (.iload 9, 2) := by decide +kernel
theorem dX12_laid_140 : decode cX12_laid 140 = .ok (.bipush 6, 2) := by decide +kernel
theorem dX12_laid_142 : decode cX12_laid 142 = .ok (.irem, 1) := by decide +kernel
theorem dX12_laid_143 : decode cX12_laid 143 = .ok (.iastore, 1) := by decide +kernel
theorem dX12_laid_144 : decode cX12_laid 144 = .ok (.iload 9, 2) := by decide +kernel
theorem dX12_laid_146 : decode cX12_laid 146 = .ok (.bipush 6, 2) := by decide +kernel
theorem dX12_laid_148 : decode cX12_laid 148 = .ok (.idiv, 1) := by decide +kernel
theorem dX12_laid_149 : decode cX12_laid 149 = .ok (.istore 9, 2) := by decide +kernel
theorem dX12_laid_151 : decode cX12_laid 151 = .ok (.iload 8, 2) := by decide +kernel
theorem dX12_laid_153 : decode cX12_laid 153 = .ok (.iconst 1, 1) := by decide +kernel
theorem dX12_laid_154 : decode cX12_laid 154 = .ok (.aload_n 0, 1) := by decide +kernel
theorem dX12_laid_155 : decode cX12_laid 155 = .ok (.getfield 34, 3) := by decide +kernel
theorem dX12_laid_158 : decode cX12_laid 158 = .ok (.iload 10, 2) := by decide +kernel
theorem dX12_laid_160 : decode cX12_laid 160 = .ok (.iaload, 1) := by decide +kernel
theorem dX12_laid_161 : decode cX12_laid 161 = .ok (.ishl, 1) := by decide +kernel
theorem dX12_laid_162 : decode cX12_laid 162 = .ok (.ior, 1) := by decide +kernel
theorem dX12_laid_163 : decode cX12_laid 163 = .ok (.istore 8, 2) := by decide +kernel
theorem dX12_laid_165 : decode cX12_laid 165 = .ok (.iinc 10 (-1), 3) := by decide +kernel
theorem dX12_laid_168 : decode cX12_laid 168 = .ok (.goto (-41), 3) := by decide +kernel
theorem dX12_laid_171 : decode cX12_laid 171 = .ok (.iload 8, 2) := by decide +kernel
theorem dX12_laid_173 : decode cX12_laid 173 = .ok (.iload 4, 2) := by decide +kernel
theorem dX12_laid_175 : decode cX12_laid 175 = .ok (.if_icmp .ne 121, 3) := by decide +kernel
theorem dX12_laid_178 : decode cX12_laid 178 = .ok (.iconst 0, 1) := by decide +kernel
theorem dX12_laid_179 : decode cX12_laid 179 = .ok (.istore 10, 2) := by decide +kernel
theorem dX12_laid_181 : decode cX12_laid 181 = .ok (.iload 10, 2) := by decide +kernel
theorem dX12_laid_183 : decode cX12_laid 183 = .ok (.iload_n 3, 1) := by decide +kernel
theorem dX12_laid_184 : decode cX12_laid 184 = .ok (.if_icmp .ge 30, 3) := by decide +kernel
theorem dX12_laid_187 : decode cX12_laid 187 = .ok (.aload_n 0, 1) := by decide +kernel
theorem dX12_laid_188 : decode cX12_laid 188 = .ok (.getfield 19, 3) := by decide +kernel
theorem dX12_laid_191 : decode cX12_laid 191 = .ok (.iconst 1, 1) := by decide +kernel
theorem dX12_laid_192 : decode cX12_laid 192 = .ok (.aload_n 0, 1) := by decide +kernel
theorem dX12_laid_193 : decode cX12_laid 193 = .ok (.getfield 31, 3) := by decide +kernel
theorem dX12_laid_196 : decode cX12_laid 196 = .ok (.iload 10, 2) := by decide +kernel
theorem dX12_laid_198 : decode cX12_laid 198 = .ok (.iaload, 1) := by decide +kernel
theorem dX12_laid_199 : decode cX12_laid 199 = .ok (.iadd, 1) := by decide +kernel
theorem dX12_laid_200 : decode cX12_laid 200 = .ok (.aload_n 0, 1) := by decide +kernel
theorem dX12_laid_201 : decode cX12_laid 201 = .ok (.getfield 34, 3) := by decide +kernel
theorem dX12_laid_204 : decode cX12_laid 204 = .ok (.iload 10, 2) := by decide +kernel
theorem dX12_laid_206 : decode cX12_laid 206 = .ok (.iaload, 1) := by decide +kernel
theorem dX12_laid_207 : decode cX12_laid 207 = .ok (.iastore, 1) := by decide +kernel
theorem dX12_laid_208 : decode cX12_laid 208 = .ok (.iinc 10 1, 3) := by decide +kernel
theorem dX12_laid_211 : decode cX12_laid 211 = .ok (.goto (-30), 3) := by decide +kernel
theorem dX12_laid_214 : decode cX12_laid 214 = .ok (.iconst 0, 1) := by decide +kernel
theorem dX12_laid_215 : decode cX12_laid 215 = .ok (.istore 10, 2) := by decide +kernel
theorem dX12_laid_217 : decode cX12_laid 217 = .ok (.iload 10, 2) := by decide +kernel
theorem dX12_laid_219 : decode cX12_laid 219 = .ok (.iload_n 1, 1) := by decide +kernel
theorem dX12_laid_220 : decode cX12_laid 220 = .ok (.if_icmp .ge 14, 3) := by decide +kernel
theorem dX12_laid_223 : decode cX12_laid 223 = .ok (.aload_n 0, 1) := by decide +kernel
theorem dX12_laid_224 : decode cX12_laid 224 = .ok (.iconst 0, 1) := by decide +kernel
theorem dX12_laid_225 : decode cX12_laid 225 = .ok (.invokevirtual 166, 3) := by decide +kernel
theorem dX12_laid_228 : decode cX12_laid 228 = .ok (.iinc 10 1, 3) := by decide +kernel
theorem dX12_laid_231 : decode cX12_laid 231 = .ok (.goto (-14), 3) := by decide +kernel
theorem dX12_laid_234 : decode cX12_laid 234 = .ok (.aload_n 0, 1) := by decide +kernel
theorem dX12_laid_235 : decode cX12_laid 235 = .ok (.invokevirtual 145, 3) := by decide +kernel
theorem dX12_laid_238 : decode cX12_laid 238 = .ok (.istore 10, 2) := by decide +kernel
theorem dX12_laid_240 : decode cX12_laid 240 = .ok (.iconst 0, 1) := by decide +kernel
theorem dX12_laid_241 : decode cX12_laid 241 = .ok (.istore 11, 2) := by decide +kernel
theorem dX12_laid_243 : decode cX12_laid 243 = .ok (.iload 11, 2) := by decide +kernel
theorem dX12_laid_245 : decode cX12_laid 245 = .ok (.iload_n 3, 1) := by decide +kernel
theorem dX12_laid_246 : decode cX12_laid 246 = .ok (.if_icmp .ge 30, 3) := by decide +kernel
theorem dX12_laid_249 : decode cX12_laid 249 = .ok (.iload 10, 2) := by decide +kernel
theorem dX12_laid_251 : decode cX12_laid 251 = .ok (.iload 6, 2) := by decide +kernel
theorem dX12_laid_253 : decode cX12_laid 253 = .ok (.if_icmp .le 23, 3) := by decide +kernel
theorem dX12_laid_256 : decode cX12_laid 256 = .ok (.aload_n 0, 1) := by decide +kernel
theorem dX12_laid_257 : decode cX12_laid 257 = .ok (.getfield 37, 3) := by decide +kernel
theorem dX12_laid_260 : decode cX12_laid 260 = .ok (.iload 11, 2) := by decide +kernel
theorem dX12_laid_262 : decode cX12_laid 262 = .ok (.aload_n 0, 1) := by decide +kernel
theorem dX12_laid_263 : decode cX12_laid 263 = .ok (.getfield 34, 3) := by decide +kernel
theorem dX12_laid_266 : decode cX12_laid 266 = .ok (.iload 11, 2) := by decide +kernel
theorem dX12_laid_268 : decode cX12_laid 268 = .ok (.iaload, 1) := by decide +kernel
theorem dX12_laid_269 : decode cX12_laid 269 = .ok (.iastore, 1) := by decide +kernel
theorem dX12_laid_270 : decode cX12_laid 270 = .ok (.iinc 11 1, 3) := by decide +kernel
theorem dX12_laid_273 : decode cX12_laid 273 = .ok (.goto (-30), 3) := by decide +kernel
theorem dX12_laid_276 : decode cX12_laid 276 = .ok (.iload 10, 2) := by decide +kernel
theorem dX12_laid_278 : decode cX12_laid 278 = .ok (.iload 6, 2) := by decide +kernel
theorem dX12_laid_280 : decode cX12_laid 280 = .ok (.if_icmp .le 8, 3) := by decide +kernel
theorem dX12_laid_283 : decode cX12_laid 283 = .ok (.iload 10, 2) := by decide +kernel
theorem dX12_laid_285 : decode cX12_laid 285 = .ok (.goto 5, 3) := by decide +kernel
theorem dX12_laid_288 : decode cX12_laid 288 = .ok (.iload 6, 2) := by decide +kernel
theorem dX12_laid_290 : decode cX12_laid 290 = .ok (.istore 6, 2) := by decide +kernel
theorem dX12_laid_292 : decode cX12_laid 292 = .ok (.aload_n 0, 1) := by decide +kernel
theorem dX12_laid_293 : decode cX12_laid 293 = .ok (.invokevirtual 195, 3) := by decide +kernel
theorem dX12_laid_296 : decode cX12_laid 296 = .ok (.iinc 7 1, 3) := by decide +kernel
theorem dX12_laid_299 : decode cX12_laid 299 = .ok (.goto (-191), 3) := by decide +kernel
theorem dX12_laid_302 : decode cX12_laid 302 = .ok (.iload_n 2, 1) := by decide +kernel
theorem dX12_laid_303 : decode cX12_laid 303 = .ok (.iconst (-1), 1) := by decide +kernel
theorem dX12_laid_304 : decode cX12_laid 304 = .ok (.if_icmp .ne 8, 3) := by decide +kernel
theorem dX12_laid_307 : decode cX12_laid 307 = .ok (.iload 6, 2) := by decide +kernel
theorem dX12_laid_309 : decode cX12_laid 309 = .ok (.goto 26, 3) := by decide +kernel
theorem dX12_laid_312 : decode cX12_laid 312 = .ok (.iload_n 2, 1) := by decide +kernel
theorem dX12_laid_313 : decode cX12_laid 313 = .ok (.i2l, 1) := by decide +kernel
theorem dX12_laid_314 : decode cX12_laid 314 = .ok (.lconst 0, 1) := by decide +kernel
theorem dX12_laid_315 : decode cX12_laid 315 = .ok (.iload_n 3, 1) := by decide +kernel
theorem dX12_laid_316 : decode cX12_laid 316 = .ok (.iconst 1, 1) := by decide +kernel
theorem dX12_laid_317 : decode cX12_laid 317 = .ok (.isub, 1) := by decide +kernel
theorem dX12_laid_318 : decode cX12_laid 318 = .ok (.i2l, 1) := by decide +kernel
theorem dX12_laid_319 : decode cX12_laid 319 = .ok (.invokestatic 67, 3) := by decide +kernel
theorem dX12_laid_322 : decode cX12_laid 322 = .ok (.ifCond .eq 12, 3) := by decide +kernel
theorem dX12_laid_325 : decode cX12_laid 325 = .ok (.aload_n 0, 1) := by decide +kernel
theorem dX12_laid_326 : decode cX12_laid 326 = .ok (.getfield 37, 3) := by decide +kernel
theorem dX12_laid_329 : decode cX12_laid 329 = .ok (.iload_n 2, 1) := by decide +kernel
theorem dX12_laid_330 : decode cX12_laid 330 = .ok (.iaload, 1) := by decide +kernel
theorem dX12_laid_331 : decode cX12_laid 331 = .ok (.goto 4, 3) := by decide +kernel
theorem dX12_laid_334 : decode cX12_laid 334 = .ok (.iconst (-1), 1) := by decide +kernel
theorem dX12_laid_335 : decode cX12_laid 335 = .ok (.ireturn, 1) := by decide +kernel
theorem dX12_change_0 : decode cX12_change 0 = .ok (.aload_n 0, 1) := by decide +kernel
theorem dX12_change_1 : decode cX12_change 1 = .ok (.invokevirtual 189, 3) := by decide +kernel
theorem dX12_change_4 : decode cX12_change 4 = .ok (.aload_n 0, 1) := by decide +kernel
theorem dX12_change_5 : decode cX12_change 5 = .ok (.iconst 0, 1) := by decide +kernel
theorem dX12_change_6 : decode cX12_change 6 = .ok (.invokevirtual 166, 3) := by decide +kernel
theorem dX12_change_9 : decode cX12_change 9 = .ok (.iconst 0, 1) := by decide +kernel
theorem dX12_change_10 : decode cX12_change 10 = .ok (.istore_n 2, 1) := by decide +kernel
theorem dX12_change_11 : decode cX12_change 11 = .ok (.iload_n 2, 1) := by decide +kernel
theorem dX12_change_12 : decode cX12_change 12 = .ok (.aload_n 0, 1) := by decide +kernel
theorem dX12_change_13 : decode cX12_change 13 = .ok (.getfield 13, 3) := by decide +kernel
theorem dX12_change_16 : decode cX12_change 16 = .ok (.iconst 2, 1) := by decide +kernel
theorem dX12_change_17 : decode cX12_change 17 = .ok (.iaload, 1) := by decide +kernel
theorem dX12_change_18 : decode cX12_change 18 = .ok (.if_icmp .ge 24, 3) := by decide +kernel
theorem dX12_change_21 : decode cX12_change 21 = .ok (.aload_n 0, 1) := by decide +kernel
theorem dX12_change_22 : decode cX12_change 22 = .ok (.getfield 34, 3) := by decide +kernel
theorem dX12_change_25 : decode cX12_change 25 = .ok (.iload_n 2, 1) := by decide +kernel
theorem dX12_change_26 : decode cX12_change 26 = .ok (.aload_n 0, 1) := by decide +kernel
theorem dX12_change_27 : decode cX12_change 27 = .ok (.getfield 19, 3) := by decide +kernel
theorem dX12_change_30 : decode cX12_change 30 = .ok (.bipush 7, 2) := by decide +kernel
theorem dX12_change_32 : decode cX12_change 32 = .ok (.iload_n 2, 1) := by decide +kernel
theorem dX12_change_33 : decode cX12_change 33 = .ok (.iadd, 1) := by decide +kernel
theorem dX12_change_34 : decode cX12_change 34 = .ok (.iaload, 1) := by decide +kernel
theorem dX12_change_35 : decode cX12_change 35 = .ok (.iastore, 1) := by decide +kernel
theorem dX12_change_36 : decode cX12_change 36 = .ok (.iinc 2 1, 3) := by decide +kernel
theorem dX12_change_39 : decode cX12_change 39 = .ok (.goto (-28), 3) := by decide +kernel
theorem dX12_change_42 : decode cX12_change 42 = .ok (.aload_n 0, 1) := by decide +kernel
theorem dX12_change_43 : decode cX12_change 43 = .ok (.invokevirtual 195, 3) := by decide +kernel
theorem dX12_change_46 : decode cX12_change 46 = .ok (.iconst 0, 1) := by decide +kernel
theorem dX12_change_47 : decode cX12_change 47 = .ok (.istore_n 2, 1) := by decide +kernel
theorem dX12_change_48 : decode cX12_change 48 = .ok (.iconst (-1), 1) := by decide +kernel
theorem dX12_change_49 : decode cX12_change 49 = .ok (.istore_n 3, 1) := by decide +kernel
theorem dX12_change_50 : decode cX12_change 50 = .ok (.iconst 0, 1) := by decide +kernel
theorem dX12_change_51 : decode cX12_change 51 = .ok (.istore 4, 2) := by decide +kernel
theorem dX12_change_53 : decode cX12_change 53 = .ok (.iload 4, 2) := by decide +kernel
theorem dX12_change_55 : decode cX12_change 55 = .ok (.aload_n 0, 1) := by decide +kernel
theorem dX12_change_56 : decode cX12_change 56 = .ok (.getfield 13, 3) := by decide +kernel
theorem dX12_change_59 : decode cX12_change 59 = .ok (.iconst 2, 1) := by decide +kernel
theorem dX12_change_60 : decode cX12_change 60 = .ok (.iaload, 1) := by decide +kernel
theorem dX12_change_61 : decode cX12_change 61 = .ok (.if_icmp .ge 174, 3) := by decide +kernel
theorem dX12_change_64 : decode cX12_change 64 = .ok (.iload 4, 2) := by decide +kernel
theorem dX12_change_66 : decode cX12_change 66 = .ok (.iconst 1, 1) := by decide +kernel
theorem dX12_change_67 : decode cX12_change 67 = .ok (.iadd, 1) := by decide +kernel
theorem dX12_change_68 : decode cX12_change 68 = .ok (.istore 5, 2) := by decide +kernel
theorem dX12_change_70 : decode cX12_change 70 = .ok (.iload 5, 2) := by decide +kernel
theorem dX12_change_72 : decode cX12_change 72 = .ok (.aload_n 0, 1) := by decide +kernel
theorem dX12_change_73 : decode cX12_change 73 = .ok (.getfield 13, 3) := by decide +kernel
theorem dX12_change_76 : decode cX12_change 76 = .ok (.iconst 2, 1) := by decide +kernel
theorem dX12_change_77 : decode cX12_change 77 = .ok (.iaload, 1) := by decide +kernel
theorem dX12_change_78 : decode cX12_change 78 = .ok (.if_icmp .ge 151, 3) := by decide +kernel
theorem dX12_change_81 : decode cX12_change 81 = .ok (.aload_n 0, 1) := by decide +kernel
theorem dX12_change_82 : decode cX12_change 82 = .ok (.iload 4, 2) := by decide +kernel
theorem dX12_change_84 : decode cX12_change 84 = .ok (.invokevirtual 133, 3) := by decide +kernel
theorem dX12_change_87 : decode cX12_change 87 = .ok (.istore 6, 2) := by decide +kernel
theorem dX12_change_89 : decode cX12_change 89 = .ok (.aload_n 0, 1) := by decide +kernel
theorem dX12_change_90 : decode cX12_change 90 = .ok (.iload 5, 2) := by decide +kernel
theorem dX12_change_92 : decode cX12_change 92 = .ok (.invokevirtual 133, 3) := by decide +kernel
theorem dX12_change_95 : decode cX12_change 95 = .ok (.istore 7, 2) := by decide +kernel
theorem dX12_change_97 : decode cX12_change 97 = .ok (.iload 6, 2) := by decide +kernel
theorem dX12_change_99 : decode cX12_change 99 = .ok (.iconst (-1), 1) := by decide +kernel
theorem dX12_change_100 : decode cX12_change 100 = .ok (.if_icmp .eq 123, 3) := by decide +kernel
theorem dX12_change_103 : decode cX12_change 103 = .ok (.iload 7, 2) := by decide +kernel
theorem dX12_change_105 : decode cX12_change 105 = .ok (.iconst (-1), 1) := by decide +kernel
theorem dX12_change_106 : decode cX12_change 106 = .ok (.if_icmp .eq 117, 3) := by decide +kernel
theorem dX12_change_109 : decode cX12_change 109 = .ok (.aload_n 0, 1) := by decide +kernel
theorem dX12_change_110 : decode cX12_change 110 = .ok (.getfield 19, 3) := by decide +kernel
theorem dX12_change_113 : decode cX12_change 113 = .ok (.iconst 1, 1) := by decide +kernel
theorem dX12_change_114 : decode cX12_change 114 = .ok (.iload 6, 2) := by decide +kernel
theorem dX12_change_116 : decode cX12_change 116 = .ok (.iadd, 1) := by decide +kernel
theorem dX12_change_117 : decode cX12_change 117 = .ok (.iload 5, 2) := by decide +kernel
theorem dX12_change_119 : decode cX12_change 119 = .ok (.iastore, 1) := by decide +kernel
theorem dX12_change_120 : decode cX12_change 120 = .ok (.aload_n 0, 1) := by decide +kernel
theorem dX12_change_121 : decode cX12_change 121 = .ok (.getfield 19, 3) := by decide +kernel
theorem dX12_change_124 : decode cX12_change 124 = .ok (.iconst 1, 1) := by decide +kernel
theorem dX12_change_125 : decode cX12_change 125 = .ok (.iload 7, 2) := by decide +kernel
theorem dX12_change_127 : decode cX12_change 127 = .ok (.iadd, 1) := by decide +kernel
theorem dX12_change_128 : decode cX12_change 128 = .ok (.iload 4, 2) := by decide +kernel
theorem dX12_change_130 : decode cX12_change 130 = .ok (.iastore, 1) := by decide +kernel
theorem dX12_change_131 : decode cX12_change 131 = .ok (.aload_n 0, 1) := by decide +kernel
theorem dX12_change_132 : decode cX12_change 132 = .ok (.iconst 0, 1) := by decide +kernel
theorem dX12_change_133 : decode cX12_change 133 = .ok (.invokevirtual 166, 3) := by decide +kernel
theorem dX12_change_136 : decode cX12_change 136 = .ok (.aload_n 0, 1) := by decide +kernel
theorem dX12_change_137 : decode cX12_change 137 = .ok (.getfield 19, 3) := by decide +kernel
theorem dX12_change_140 : decode cX12_change 140 = .ok (.bipush 7, 2) := by decide +kernel
theorem dX12_change_142 : decode cX12_change 142 = .ok (.iload 4, 2) := by decide +kernel
theorem dX12_change_144 : decode cX12_change 144 = .ok (.iadd, 1) := by decide +kernel
theorem dX12_change_145 : decode cX12_change 145 = .ok (.iaload, 1) := by decide +kernel
theorem dX12_change_146 : decode cX12_change 146 = .ok (.aload_n 0, 1) := by decide +kernel
theorem dX12_change_147 : decode cX12_change 147 = .ok (.getfield 34, 3) := by decide +kernel
theorem dX12_change_150 : decode cX12_change 150 = .ok (.iload 4, 2) := by decide +kernel
theorem dX12_change_152 : decode cX12_change 152 = .ok (.iaload, 1) := by decide +kernel
theorem dX12_change_153 : decode cX12_change 153 = .ok (.if_icmp .le 27, 3) := by decide +kernel
theorem dX12_change_156 : decode cX12_change 156 = .ok (.aload_n 0, 1) := by decide +kernel
theorem dX12_change_157 : decode cX12_change 157 = .ok (.getfield 19, 3) := by decide +kernel
theorem dX12_change_160 : decode cX12_change 160 = .ok (.bipush 7, 2) := by decide +kernel
theorem dX12_change_162 : decode cX12_change 162 = .ok (.iload 5, 2) := by decide +kernel
theorem dX12_change_164 : decode cX12_change 164 = .ok (.iadd, 1) := by decide +kernel
theorem dX12_change_165 : decode cX12_change 165 = .ok (.iaload, 1) := by decide +kernel
theorem dX12_change_166 : decode cX12_change 166 = .ok (.aload_n 0, 1) := by decide +kernel
theorem dX12_change_167 : decode cX12_change 167 = .ok (.getfield 34, 3) := by decide +kernel
theorem dX12_change_170 : decode cX12_change 170 = .ok (.iload 5, 2) := by decide +kernel
theorem dX12_change_172 : decode cX12_change 172 = .ok (.iaload, 1) := by decide +kernel
theorem dX12_change_173 : decode cX12_change 173 = .ok (.if_icmp .le 7, 3) := by decide +kernel
theorem dX12_change_176 : decode cX12_change 176 = .ok (.iconst 1, 1) := by decide +kernel
theorem dX12_change_177 : decode cX12_change 177 = .ok (.goto 4, 3) := by decide +kernel
theorem dX12_change_180 : decode cX12_change 180 = .ok (.iconst 0, 1) := by decide +kernel
theorem dX12_change_181 : decode cX12_change 181 = .ok (.istore 8, 2) := by decide +kernel
theorem dX12_change_183 : decode cX12_change 183 = .ok (.aload_n 0, 1) := by decide +kernel
theorem dX12_change_184 : decode cX12_change 184 = .ok (.invokevirtual 195, 3) := by decide +kernel
theorem dX12_change_187 : decode cX12_change 187 = .ok (.iload 8, 2) := by decide +kernel
theorem dX12_change_189 : decode cX12_change 189 = .ok (.ifCond .eq 19, 3) := by decide +kernel
theorem dX12_change_192 : decode cX12_change 192 = .ok (.iload_n 2, 1) := by decide +kernel
theorem dX12_change_193 : decode cX12_change 193 = .ok (.iload_n 1, 1) := by decide +kernel
theorem dX12_change_194 : decode cX12_change 194 = .ok (.if_icmp .ne 14, 3) := by decide +kernel
theorem dX12_change_197 : decode cX12_change 197 = .ok (.bipush 10, 2) := by decide +kernel
theorem dX12_change_199 : decode cX12_change 199 = .ok (.iload 4, 2) := by decide +kernel
theorem dX12_change_201 : decode cX12_change 201 = .ok (.imul, 1) := by decide +kernel
theorem dX12_change_202 : decode cX12_change 202 = .ok (.iload 5, 2) := by decide +kernel
theorem dX12_change_204 : decode cX12_change 204 = .ok (.iadd, 1) := by decide +kernel
theorem dX12_change_205 : decode cX12_change 205 = .ok (.goto 4, 3) := by decide +kernel
theorem dX12_change_208 : decode cX12_change 208 = .ok (.iload_n 3, 1) := by decide +kernel
theorem dX12_change_209 : decode cX12_change 209 = .ok (.istore_n 3, 1) := by decide +kernel
theorem dX12_change_210 : decode cX12_change 210 = .ok (.iload_n 2, 1) := by decide +kernel
theorem dX12_change_211 : decode cX12_change 211 = .ok (.iload 8, 2) := by decide +kernel
theorem dX12_change_213 : decode cX12_change 213 = .ok (.ifCond .eq 7, 3) := by decide +kernel
theorem dX12_change_216 : decode cX12_change 216 = .ok (.iconst 1, 1) := by decide +kernel
theorem dX12_change_217 : decode cX12_change 217 = .ok (.goto 4, 3) := by decide +kernel
theorem dX12_change_220 : decode cX12_change 220 = .ok (.iconst 0, 1) := by decide +kernel
theorem dX12_change_221 : decode cX12_change 221 = .ok (.iadd, 1) := by decide +kernel
theorem dX12_change_222 : decode cX12_change 222 = .ok (.istore_n 2, 1) := by decide +kernel
theorem dX12_change_223 : decode cX12_change 223 = .ok (.iinc 5 1, 3) := by decide +kernel
theorem dX12_change_226 : decode cX12_change 226 = .ok (.goto (-156), 3) := by decide +kernel
theorem dX12_change_229 : decode cX12_change 229 = .ok (.iinc 4 1, 3) := by decide +kernel
theorem dX12_change_232 : decode cX12_change 232 = .ok (.goto (-179), 3) := by decide +kernel
theorem dX12_change_235 : decode cX12_change 235 = .ok (.iload_n 1, 1) := by decide +kernel
theorem dX12_change_236 : decode cX12_change 236 = .ok (.iconst (-1), 1) := by decide +kernel
theorem dX12_change_237 : decode cX12_change 237 = .ok (.if_icmp .ne 7, 3) := by decide +kernel
theorem dX12_change_240 : decode cX12_change 240 = .ok (.iload_n 2, 1) := by decide +kernel
theorem dX12_change_241 : decode cX12_change 241 = .ok (.goto 4, 3) := by decide +kernel
theorem dX12_change_244 : decode cX12_change 244 = .ok (.iload_n 3, 1) := by decide +kernel
theorem dX12_change_245 : decode cX12_change 245 = .ok (.ireturn, 1) := by decide +kernel
theorem dX12_isState_0 : decode cX12_isState 0 = .ok (.iconst 1, 1) := by decide +kernel
theorem dX12_isState_1 : decode cX12_isState 1 = .ok (.istore_n 2, 1) := by decide +kernel
theorem dX12_isState_2 : decode cX12_isState 2 = .ok (.iconst 1, 1) := by decide +kernel
theorem dX12_isState_3 : decode cX12_isState 3 = .ok (.istore_n 3, 1) := by decide +kernel
theorem dX12_isState_4 : decode cX12_isState 4 = .ok (.iload_n 3, 1) := by decide +kernel
theorem dX12_isState_5 : decode cX12_isState 5 = .ok (.bipush 13, 2) := by decide +kernel
theorem dX12_isState_7 : decode cX12_isState 7 = .ok (.if_icmp .ge 41, 3) := by decide +kernel
theorem dX12_isState_10 : decode cX12_isState 10 = .ok (.iload_n 2, 1) := by decide +kernel
theorem dX12_isState_11 : decode cX12_isState 11 = .ok (.ifCond .eq 29, 3) := by decide +kernel
theorem dX12_isState_14 : decode cX12_isState 14 = .ok (.aload_n 0, 1) := by decide +kernel
theorem dX12_isState_15 : decode cX12_isState 15 = .ok (.getfield 40, 3) := by decide +kernel
theorem dX12_isState_18 : decode cX12_isState 18 = .ok (.bipush 12, 2) := by decide +kernel
theorem dX12_isState_20 : decode cX12_isState 20 = .ok (.iload_n 1, 1) := by decide +kernel
theorem dX12_isState_21 : decode cX12_isState 21 = .ok (.imul, 1) := by decide +kernel
theorem dX12_isState_22 : decode cX12_isState 22 = .ok (.iload_n 3, 1) := by decide +kernel
theorem dX12_isState_23 : decode cX12_isState 23 = .ok (.iadd, 1) := by decide +kernel
theorem dX12_isState_24 : decode cX12_isState 24 = .ok (.iconst 1, 1) := by decide +kernel
theorem dX12_isState_25 : decode cX12_isState 25 = .ok (.isub, 1) := by decide +kernel
theorem dX12_isState_26 : decode cX12_isState 26 = .ok (.iaload, 1) := by decide +kernel
theorem dX12_isState_27 : decode cX12_isState 27 = .ok (.aload_n 0, 1) := by decide +kernel
theorem dX12_isState_28 : decode cX12_isState 28 = .ok (.getfield 19, 3) := by decide +kernel
theorem dX12_isState_31 : decode cX12_isState 31 = .ok (.iload_n 3, 1) := by decide +kernel
theorem dX12_isState_32 : decode cX12_isState 32 = .ok (.iaload, 1) := by decide +kernel
theorem dX12_isState_33 : decode cX12_isState 33 = .ok (.if_icmp .ne 7, 3) := by decide +kernel
theorem dX12_isState_36 : decode cX12_isState 36 = .ok (.iconst 1, 1) := by decide +kernel
theorem dX12_isState_37 : decode cX12_isState 37 = .ok (.goto 4, 3) := by decide +kernel
theorem dX12_isState_40 : decode cX12_isState 40 = .ok (.iconst 0, 1) := by decide +kernel
theorem dX12_isState_41 : decode cX12_isState 41 = .ok (.istore_n 2, 1) := by decide +kernel
theorem dX12_isState_42 : decode cX12_isState 42 = .ok (.iinc 3 1, 3) := by decide +kernel
theorem dX12_isState_45 : decode cX12_isState 45 = .ok (.goto (-41), 3) := by decide +kernel
theorem dX12_isState_48 : decode cX12_isState 48 = .ok (.iload_n 2, 1) := by decide +kernel
theorem dX12_isState_49 : decode cX12_isState 49 = .ok (.ireturn, 1) := by decide +kernel
theorem dX12_hottest_0 : decode cX12_hottest 0 = .ok (.iconst 0, 1) := by decide +kernel
theorem dX12_hottest_1 : decode cX12_hottest 1 = .ok (.istore_n 1, 1) := by decide +kernel
theorem dX12_hottest_2 : decode cX12_hottest 2 = .ok (.iconst 1, 1) := by decide +kernel
theorem dX12_hottest_3 : decode cX12_hottest 3 = .ok (.istore_n 2, 1) := by decide +kernel
theorem dX12_hottest_4 : decode cX12_hottest 4 = .ok (.iload_n 2, 1) := by decide +kernel
theorem dX12_hottest_5 : decode cX12_hottest 5 = .ok (.aload_n 0, 1) := by decide +kernel
theorem dX12_hottest_6 : decode cX12_hottest 6 = .ok (.getfield 13, 3) := by decide +kernel
theorem dX12_hottest_9 : decode cX12_hottest 9 = .ok (.iconst 0, 1) := by decide +kernel
theorem dX12_hottest_10 : decode cX12_hottest 10 = .ok (.iaload, 1) := by decide +kernel
theorem dX12_hottest_11 : decode cX12_hottest 11 = .ok (.if_icmp .ge 36, 3) := by decide +kernel
theorem dX12_hottest_14 : decode cX12_hottest 14 = .ok (.aload_n 0, 1) := by decide +kernel
theorem dX12_hottest_15 : decode cX12_hottest 15 = .ok (.getfield 13, 3) := by decide +kernel
theorem dX12_hottest_18 : decode cX12_hottest 18 = .ok (.bipush 6, 2) := by decide +kernel
theorem dX12_hottest_20 : decode cX12_hottest 20 = .ok (.iload_n 2, 1) := by decide +kernel
theorem dX12_hottest_21 : decode cX12_hottest 21 = .ok (.iadd, 1) := by decide +kernel
theorem dX12_hottest_22 : decode cX12_hottest 22 = .ok (.iaload, 1) := by decide +kernel
theorem dX12_hottest_23 : decode cX12_hottest 23 = .ok (.aload_n 0, 1) := by decide +kernel
theorem dX12_hottest_24 : decode cX12_hottest 24 = .ok (.getfield 13, 3) := by decide +kernel
theorem dX12_hottest_27 : decode cX12_hottest 27 = .ok (.bipush 6, 2) := by decide +kernel
theorem dX12_hottest_29 : decode cX12_hottest 29 = .ok (.iload_n 1, 1) := by decide +kernel
theorem dX12_hottest_30 : decode cX12_hottest 30 = .ok (.iadd, 1) := by decide +kernel
theorem dX12_hottest_31 : decode cX12_hottest 31 = .ok (.iaload, 1) := by decide +kernel
theorem dX12_hottest_32 : decode cX12_hottest 32 = .ok (.if_icmp .le 7, 3) := by decide +kernel
theorem dX12_hottest_35 : decode cX12_hottest 35 = .ok (.iload_n 2, 1) := by decide +kernel
theorem dX12_hottest_36 : decode cX12_hottest 36 = .ok (.goto 4, 3) := by decide +kernel
theorem dX12_hottest_39 : decode cX12_hottest 39 = .ok (.iload_n 1, 1) := by decide +kernel
theorem dX12_hottest_40 : decode cX12_hottest 40 = .ok (.istore_n 1, 1) := by decide +kernel
theorem dX12_hottest_41 : decode cX12_hottest 41 = .ok (.iinc 2 1, 3) := by decide +kernel
theorem dX12_hottest_44 : decode cX12_hottest 44 = .ok (.goto (-40), 3) := by decide +kernel
theorem dX12_hottest_47 : decode cX12_hottest 47 = .ok (.iload_n 1, 1) := by decide +kernel
theorem dX12_hottest_48 : decode cX12_hottest 48 = .ok (.ireturn, 1) := by decide +kernel
theorem dX12_steady_0 : decode cX12_steady 0 = .ok (.iload_n 1, 1) := by decide +kernel
theorem dX12_steady_1 : decode cX12_steady 1 = .ok (.iconst (-1), 1) := by decide +kernel
theorem dX12_steady_2 : decode cX12_steady 2 = .ok (.if_icmp .eq 14, 3) := by decide +kernel
theorem dX12_steady_5 : decode cX12_steady 5 = .ok (.aload_n 0, 1) := by decide +kernel
theorem dX12_steady_6 : decode cX12_steady 6 = .ok (.iload_n 1, 1) := by decide +kernel
theorem dX12_steady_7 : decode cX12_steady 7 = .ok (.invokevirtual 153, 3) := by decide +kernel
theorem dX12_steady_10 : decode cX12_steady 10 = .ok (.ifCond .ne 6, 3) := by decide +kernel
theorem dX12_steady_13 : decode cX12_steady 13 = .ok (.ldc 152, 2) := by decide +kernel
theorem dX12_steady_15 : decode cX12_steady 15 = .ok (.ireturn, 1) := by decide +kernel
theorem dX12_steady_16 : decode cX12_steady 16 = .ok (.aload_n 0, 1) := by decide +kernel
theorem dX12_steady_17 : decode cX12_steady 17 = .ok (.getfield 13, 3) := by decide +kernel
theorem dX12_steady_20 : decode cX12_steady 20 = .ok (.iconst 0, 1) := by decide +kernel
theorem dX12_steady_21 : decode cX12_steady 21 = .ok (.iaload, 1) := by decide +kernel
theorem dX12_steady_22 : decode cX12_steady 22 = .ok (.ifCond .ne 6, 3) := by decide +kernel
theorem dX12_steady_25 : decode cX12_steady 25 = .ok (.ldc 158, 2) := by decide +kernel
theorem dX12_steady_27 : decode cX12_steady 27 = .ok (.ireturn, 1) := by decide +kernel
theorem dX12_steady_28 : decode cX12_steady 28 = .ok (.aload_n 0, 1) := by decide +kernel
theorem dX12_steady_29 : decode cX12_steady 29 = .ok (.invokevirtual 189, 3) := by decide +kernel
theorem dX12_steady_32 : decode cX12_steady 32 = .ok (.iconst (-1), 1) := by decide +kernel
theorem dX12_steady_33 : decode cX12_steady 33 = .ok (.istore_n 2, 1) := by decide +kernel
theorem dX12_steady_34 : decode cX12_steady 34 = .ok (.iconst 0, 1) := by decide +kernel
theorem dX12_steady_35 : decode cX12_steady 35 = .ok (.istore_n 3, 1) := by decide +kernel
theorem dX12_steady_36 : decode cX12_steady 36 = .ok (.iload_n 3, 1) := by decide +kernel
theorem dX12_steady_37 : decode cX12_steady 37 = .ok (.sipush 201, 3) := by decide +kernel
theorem dX12_steady_40 : decode cX12_steady 40 = .ok (.if_icmp .ge 123, 3) := by decide +kernel
theorem dX12_steady_43 : decode cX12_steady 43 = .ok (.iload_n 2, 1) := by decide +kernel
theorem dX12_steady_44 : decode cX12_steady 44 = .ok (.iconst (-1), 1) := by decide +kernel
theorem dX12_steady_45 : decode cX12_steady 45 = .ok (.if_icmp .ne 118, 3) := by decide +kernel
theorem dX12_steady_48 : decode cX12_steady 48 = .ok (.iload_n 3, 1) := by decide +kernel
theorem dX12_steady_49 : decode cX12_steady 49 = .ok (.iconst 1, 1) := by decide +kernel
theorem dX12_steady_50 : decode cX12_steady 50 = .ok (.isub, 1) := by decide +kernel
theorem dX12_steady_51 : decode cX12_steady 51 = .ok (.istore 4, 2) := by decide +kernel
theorem dX12_steady_53 : decode cX12_steady 53 = .ok (.iload 4, 2) := by decide +kernel
theorem dX12_steady_55 : decode cX12_steady 55 = .ok (.ifCond .lt 32, 3) := by decide +kernel
theorem dX12_steady_58 : decode cX12_steady 58 = .ok (.iload_n 2, 1) := by decide +kernel
theorem dX12_steady_59 : decode cX12_steady 59 = .ok (.iconst (-1), 1) := by decide +kernel
theorem dX12_steady_60 : decode cX12_steady 60 = .ok (.if_icmp .ne 27, 3) := by decide +kernel
theorem dX12_steady_63 : decode cX12_steady 63 = .ok (.aload_n 0, 1) := by decide +kernel
theorem dX12_steady_64 : decode cX12_steady 64 = .ok (.iload 4, 2) := by decide +kernel
theorem dX12_steady_66 : decode cX12_steady 66 = .ok (.invokevirtual 213, 3) := by decide +kernel
theorem dX12_steady_69 : decode cX12_steady 69 = .ok (.ifCond .eq 10, 3) := by decide +kernel
theorem dX12_steady_72 : decode cX12_steady 72 = .ok (.iload_n 3, 1) := by decide +kernel
theorem dX12_steady_73 : decode cX12_steady 73 = .ok (.iload 4, 2) := by decide +kernel
theorem dX12_steady_75 : decode cX12_steady 75 = .ok (.isub, 1) := by decide +kernel
theorem dX12_steady_76 : decode cX12_steady 76 = .ok (.goto 4, 3) := by decide +kernel
theorem dX12_steady_79 : decode cX12_steady 79 = .ok (.iconst (-1), 1) := by decide +kernel
theorem dX12_steady_80 : decode cX12_steady 80 = .ok (.istore_n 2, 1) := by decide +kernel
theorem dX12_steady_81 : decode cX12_steady 81 = .ok (.iinc 4 (-1), 3) := by decide +kernel
theorem dX12_steady_84 : decode cX12_steady 84 = .ok (.goto (-31), 3) := by decide +kernel
theorem dX12_steady_87 : decode cX12_steady 87 = .ok (.iconst 1, 1) := by decide +kernel
theorem dX12_steady_88 : decode cX12_steady 88 = .ok (.istore 4, 2) := by decide +kernel
theorem dX12_steady_90 : decode cX12_steady 90 = .ok (.iload 4, 2) := by decide +kernel
theorem dX12_steady_92 : decode cX12_steady 92 = .ok (.bipush 13, 2) := by decide +kernel
theorem dX12_steady_94 : decode cX12_steady 94 = .ok (.if_icmp .ge 30, 3) := by decide +kernel
theorem dX12_steady_97 : decode cX12_steady 97 = .ok (.aload_n 0, 1) := by decide +kernel
theorem dX12_steady_98 : decode cX12_steady 98 = .ok (.getfield 40, 3) := by decide +kernel
theorem dX12_steady_101 : decode cX12_steady 101 = .ok (.bipush 12, 2) := by decide +kernel
theorem dX12_steady_103 : decode cX12_steady 103 = .ok (.iload_n 3, 1) := by decide +kernel
theorem dX12_steady_104 : decode cX12_steady 104 = .ok (.imul, 1) := by decide +kernel
theorem dX12_steady_105 : decode cX12_steady 105 = .ok (.iload 4, 2) := by decide +kernel
theorem dX12_steady_107 : decode cX12_steady 107 = .ok (.iadd, 1) := by decide +kernel
theorem dX12_steady_108 : decode cX12_steady 108 = .ok (.iconst 1, 1) := by decide +kernel
theorem dX12_steady_109 : decode cX12_steady 109 = .ok (.isub, 1) := by decide +kernel
theorem dX12_steady_110 : decode cX12_steady 110 = .ok (.aload_n 0, 1) := by decide +kernel
theorem dX12_steady_111 : decode cX12_steady 111 = .ok (.getfield 19, 3) := by decide +kernel
theorem dX12_steady_114 : decode cX12_steady 114 = .ok (.iload 4, 2) := by decide +kernel
theorem dX12_steady_116 : decode cX12_steady 116 = .ok (.iaload, 1) := by decide +kernel
theorem dX12_steady_117 : decode cX12_steady 117 = .ok (.iastore, 1) := by decide +kernel
theorem dX12_steady_118 : decode cX12_steady 118 = .ok (.iinc 4 1, 3) := by decide +kernel
theorem dX12_steady_121 : decode cX12_steady 121 = .ok (.goto (-31), 3) := by decide +kernel
theorem dX12_steady_124 : decode cX12_steady 124 = .ok (.iconst 0, 1) := by decide +kernel
theorem dX12_steady_125 : decode cX12_steady 125 = .ok (.istore 4, 2) := by decide +kernel
theorem dX12_steady_127 : decode cX12_steady 127 = .ok (.iload 4, 2) := by decide +kernel
theorem dX12_steady_129 : decode cX12_steady 129 = .ok (.aload_n 0, 1) := by decide +kernel
theorem dX12_steady_130 : decode cX12_steady 130 = .ok (.getfield 13, 3) := by decide +kernel
theorem dX12_steady_133 : decode cX12_steady 133 = .ok (.iconst 3, 1) := by decide +kernel
theorem dX12_steady_134 : decode cX12_steady 134 = .ok (.iaload, 1) := by decide +kernel
theorem dX12_steady_135 : decode cX12_steady 135 = .ok (.if_icmp .ge 22, 3) := by decide +kernel
theorem dX12_steady_138 : decode cX12_steady 138 = .ok (.iload_n 2, 1) := by decide +kernel
theorem dX12_steady_139 : decode cX12_steady 139 = .ok (.iconst (-1), 1) := by decide +kernel
theorem dX12_steady_140 : decode cX12_steady 140 = .ok (.if_icmp .ne 17, 3) := by decide +kernel
theorem dX12_steady_143 : decode cX12_steady 143 = .ok (.aload_n 0, 1) := by decide +kernel
theorem dX12_steady_144 : decode cX12_steady 144 = .ok (.aload_n 0, 1) := by decide +kernel
theorem dX12_steady_145 : decode cX12_steady 145 = .ok (.invokevirtual 171, 3) := by decide +kernel
theorem dX12_steady_148 : decode cX12_steady 148 = .ok (.invokevirtual 166, 3) := by decide +kernel
theorem dX12_steady_151 : decode cX12_steady 151 = .ok (.iinc 4 1, 3) := by decide +kernel
theorem dX12_steady_154 : decode cX12_steady 154 = .ok (.goto (-27), 3) := by decide +kernel
theorem dX12_steady_157 : decode cX12_steady 157 = .ok (.iinc 3 1, 3) := by decide +kernel
theorem dX12_steady_160 : decode cX12_steady 160 = .ok (.goto (-124), 3) := by decide +kernel
theorem dX12_steady_163 : decode cX12_steady 163 = .ok (.iconst 0, 1) := by decide +kernel
theorem dX12_steady_164 : decode cX12_steady 164 = .ok (.istore_n 3, 1) := by decide +kernel
theorem dX12_steady_165 : decode cX12_steady 165 = .ok (.iconst 0, 1) := by decide +kernel
theorem dX12_steady_166 : decode cX12_steady 166 = .ok (.istore 4, 2) := by decide +kernel
theorem dX12_steady_168 : decode cX12_steady 168 = .ok (.iload 4, 2) := by decide +kernel
theorem dX12_steady_170 : decode cX12_steady 170 = .ok (.iload_n 2, 1) := by decide +kernel
theorem dX12_steady_171 : decode cX12_steady 171 = .ok (.aload_n 0, 1) := by decide +kernel
theorem dX12_steady_172 : decode cX12_steady 172 = .ok (.getfield 13, 3) := by decide +kernel
theorem dX12_steady_175 : decode cX12_steady 175 = .ok (.iconst 3, 1) := by decide +kernel
theorem dX12_steady_176 : decode cX12_steady 176 = .ok (.iaload, 1) := by decide +kernel
theorem dX12_steady_177 : decode cX12_steady 177 = .ok (.imul, 1) := by decide +kernel
theorem dX12_steady_178 : decode cX12_steady 178 = .ok (.if_icmp .ge 45, 3) := by decide +kernel
theorem dX12_steady_181 : decode cX12_steady 181 = .ok (.iload_n 1, 1) := by decide +kernel
theorem dX12_steady_182 : decode cX12_steady 182 = .ok (.iconst (-1), 1) := by decide +kernel
theorem dX12_steady_183 : decode cX12_steady 183 = .ok (.if_icmp .eq 40, 3) := by decide +kernel
theorem dX12_steady_186 : decode cX12_steady 186 = .ok (.aload_n 0, 1) := by decide +kernel
theorem dX12_steady_187 : decode cX12_steady 187 = .ok (.aload_n 0, 1) := by decide +kernel
theorem dX12_steady_188 : decode cX12_steady 188 = .ok (.invokevirtual 171, 3) := by decide +kernel
theorem dX12_steady_191 : decode cX12_steady 191 = .ok (.invokevirtual 166, 3) := by decide +kernel
theorem dX12_steady_194 : decode cX12_steady 194 = .ok (.iload_n 3, 1) := by decide +kernel
theorem dX12_steady_195 : decode cX12_steady 195 = .ok (.aload_n 0, 1) := by decide +kernel
theorem dX12_steady_196 : decode cX12_steady 196 = .ok (.getfield 19, 3) := by decide +kernel
theorem dX12_steady_199 : decode cX12_steady 199 = .ok (.iconst 1, 1) := by decide +kernel
theorem dX12_steady_200 : decode cX12_steady 200 = .ok (.aload_n 0, 1) := by decide +kernel
theorem dX12_steady_201 : decode cX12_steady 201 = .ok (.invokevirtual 216, 3) := by decide +kernel
theorem dX12_steady_204 : decode cX12_steady 204 = .ok (.iadd, 1) := by decide +kernel
theorem dX12_steady_205 : decode cX12_steady 205 = .ok (.iaload, 1) := by decide +kernel
theorem dX12_steady_206 : decode cX12_steady 206 = .ok (.iload_n 1, 1) := by decide +kernel
theorem dX12_steady_207 : decode cX12_steady 207 = .ok (.if_icmp .ne 7, 3) := by decide +kernel
theorem dX12_steady_210 : decode cX12_steady 210 = .ok (.iconst 1, 1) := by decide +kernel
theorem dX12_steady_211 : decode cX12_steady 211 = .ok (.goto 4, 3) := by decide +kernel
theorem dX12_steady_214 : decode cX12_steady 214 = .ok (.iconst 0, 1) := by decide +kernel
theorem dX12_steady_215 : decode cX12_steady 215 = .ok (.iadd, 1) := by decide +kernel
theorem dX12_steady_216 : decode cX12_steady 216 = .ok (.istore_n 3, 1) := by decide +kernel
theorem dX12_steady_217 : decode cX12_steady 217 = .ok (.iinc 4 1, 3) := by decide +kernel
theorem dX12_steady_220 : decode cX12_steady 220 = .ok (.goto (-52), 3) := by decide +kernel
theorem dX12_steady_223 : decode cX12_steady 223 = .ok (.aload_n 0, 1) := by decide +kernel
theorem dX12_steady_224 : decode cX12_steady 224 = .ok (.invokevirtual 195, 3) := by decide +kernel
theorem dX12_steady_227 : decode cX12_steady 227 = .ok (.iload_n 2, 1) := by decide +kernel
theorem dX12_steady_228 : decode cX12_steady 228 = .ok (.iconst (-1), 1) := by decide +kernel
theorem dX12_steady_229 : decode cX12_steady 229 = .ok (.if_icmp .ne 7, 3) := by decide +kernel
theorem dX12_steady_232 : decode cX12_steady 232 = .ok (.iconst (-1), 1) := by decide +kernel
theorem dX12_steady_233 : decode cX12_steady 233 = .ok (.goto 13, 3) := by decide +kernel
theorem dX12_steady_236 : decode cX12_steady 236 = .ok (.iload_n 1, 1) := by decide +kernel
theorem dX12_steady_237 : decode cX12_steady 237 = .ok (.iconst (-1), 1) := by decide +kernel
theorem dX12_steady_238 : decode cX12_steady 238 = .ok (.if_icmp .ne 7, 3) := by decide +kernel
theorem dX12_steady_241 : decode cX12_steady 241 = .ok (.iload_n 2, 1) := by decide +kernel
theorem dX12_steady_242 : decode cX12_steady 242 = .ok (.goto 4, 3) := by decide +kernel
theorem dX12_steady_245 : decode cX12_steady 245 = .ok (.iload_n 3, 1) := by decide +kernel
theorem dX12_steady_246 : decode cX12_steady 246 = .ok (.ireturn, 1) := by decide +kernel
theorem dX12_twoBeds_0 : decode cX12_twoBeds 0 = .ok (.iload_n 1, 1) := by decide +kernel
theorem dX12_twoBeds_1 : decode cX12_twoBeds 1 = .ok (.i2l, 1) := by decide +kernel
theorem dX12_twoBeds_2 : decode cX12_twoBeds 2 = .ok (.lconst 0, 1) := by decide +kernel
theorem dX12_twoBeds_3 : decode cX12_twoBeds 3 = .ok (.lconst 1, 1) := by decide +kernel
theorem dX12_twoBeds_4 : decode cX12_twoBeds 4 = .ok (.invokestatic 67, 3) := by decide +kernel
theorem dX12_twoBeds_7 : decode cX12_twoBeds 7 = .ok (.ifCond .ne 6, 3) := by decide +kernel
theorem dX12_twoBeds_10 : decode cX12_twoBeds 10 = .ok (.ldc 71, 2) := by decide +kernel
theorem dX12_twoBeds_12 : decode cX12_twoBeds 12 = .ok (.ireturn, 1) := by decide +kernel
theorem dX12_twoBeds_13 : decode cX12_twoBeds 13 = .ok (.aload_n 0, 1) := by decide +kernel
theorem dX12_twoBeds_14 : decode cX12_twoBeds 14 = .ok (.getfield 13, 3) := by decide +kernel
theorem dX12_twoBeds_17 : decode cX12_twoBeds 17 = .ok (.iconst 2, 1) := by decide +kernel
theorem dX12_twoBeds_18 : decode cX12_twoBeds 18 = .ok (.iaload, 1) := by decide +kernel
theorem dX12_twoBeds_19 : decode cX12_twoBeds 19 = .ok (.ifCond .ne 5, 3) := by decide +kernel
theorem dX12_twoBeds_22 : decode cX12_twoBeds 22 = .ok (.iconst (-1), 1) := by decide +kernel
theorem dX12_twoBeds_23 : decode cX12_twoBeds 23 = .ok (.ireturn, 1) := by decide +kernel
theorem dX12_twoBeds_24 : decode cX12_twoBeds 24 = .ok (.iconst (-1), 1) := by decide +kernel
theorem dX12_twoBeds_25 : decode cX12_twoBeds 25 = .ok (.istore_n 2, 1) := by decide +kernel
theorem dX12_twoBeds_26 : decode cX12_twoBeds 26 = .ok (.iconst 0, 1) := by decide +kernel
theorem dX12_twoBeds_27 : decode cX12_twoBeds 27 = .ok (.istore_n 3, 1) := by decide +kernel
theorem dX12_twoBeds_28 : decode cX12_twoBeds 28 = .ok (.iconst 1, 1) := by decide +kernel
theorem dX12_twoBeds_29 : decode cX12_twoBeds 29 = .ok (.istore 4, 2) := by decide +kernel
theorem dX12_twoBeds_31 : decode cX12_twoBeds 31 = .ok (.iload 4, 2) := by decide +kernel
theorem dX12_twoBeds_33 : decode cX12_twoBeds 33 = .ok (.iconst 1, 1) := by decide +kernel
theorem dX12_twoBeds_34 : decode cX12_twoBeds 34 = .ok (.aload_n 0, 1) := by decide +kernel
theorem dX12_twoBeds_35 : decode cX12_twoBeds 35 = .ok (.getfield 13, 3) := by decide +kernel
theorem dX12_twoBeds_38 : decode cX12_twoBeds 38 = .ok (.iconst 2, 1) := by decide +kernel
theorem dX12_twoBeds_39 : decode cX12_twoBeds 39 = .ok (.iaload, 1) := by decide +kernel
theorem dX12_twoBeds_40 : decode cX12_twoBeds 40 = .ok (.ishl, 1) := by decide +kernel
theorem dX12_twoBeds_41 : decode cX12_twoBeds 41 = .ok (.if_icmp .ge 121, 3) := by decide +kernel
theorem dX12_twoBeds_44 : decode cX12_twoBeds 44 = .ok (.iconst 0, 1) := by decide +kernel
theorem dX12_twoBeds_45 : decode cX12_twoBeds 45 = .ok (.istore 5, 2) := by decide +kernel
theorem dX12_twoBeds_47 : decode cX12_twoBeds 47 = .ok (.iconst 0, 1) := by decide +kernel
theorem dX12_twoBeds_48 : decode cX12_twoBeds 48 = .ok (.istore 6, 2) := by decide +kernel
theorem dX12_twoBeds_50 : decode cX12_twoBeds 50 = .ok (.iload 6, 2) := by decide +kernel
theorem dX12_twoBeds_52 : decode cX12_twoBeds 52 = .ok (.aload_n 0, 1) := by decide +kernel
theorem dX12_twoBeds_53 : decode cX12_twoBeds 53 = .ok (.getfield 13, 3) := by decide +kernel
theorem dX12_twoBeds_56 : decode cX12_twoBeds 56 = .ok (.iconst 2, 1) := by decide +kernel
theorem dX12_twoBeds_57 : decode cX12_twoBeds 57 = .ok (.iaload, 1) := by decide +kernel
theorem dX12_twoBeds_58 : decode cX12_twoBeds 58 = .ok (.if_icmp .ge 41, 3) := by decide +kernel
theorem dX12_twoBeds_61 : decode cX12_twoBeds 61 = .ok (.iload 5, 2) := by decide +kernel
theorem dX12_twoBeds_63 : decode cX12_twoBeds 63 = .ok (.iload 4, 2) := by decide +kernel
theorem dX12_twoBeds_65 : decode cX12_twoBeds 65 = .ok (.iload 6, 2) := by decide +kernel
theorem dX12_twoBeds_67 : decode cX12_twoBeds 67 = .ok (.ishr, 1) := by decide +kernel
theorem dX12_twoBeds_68 : decode cX12_twoBeds 68 = .ok (.iconst 1, 1) := by decide +kernel
theorem dX12_twoBeds_69 : decode cX12_twoBeds 69 = .ok (.iand, 1) := by decide +kernel
theorem dX12_twoBeds_70 : decode cX12_twoBeds 70 = .ok (.iconst 1, 1) := by decide +kernel
theorem dX12_twoBeds_71 : decode cX12_twoBeds 71 = .ok (.if_icmp .ne 12, 3) := by decide +kernel
theorem dX12_twoBeds_74 : decode cX12_twoBeds 74 = .ok (.aload_n 0, 1) := by decide +kernel
theorem dX12_twoBeds_75 : decode cX12_twoBeds 75 = .ok (.iload 6, 2) := by decide +kernel
theorem dX12_twoBeds_77 : decode cX12_twoBeds 77 = .ok (.invokevirtual 139, 3) := by decide +kernel
theorem dX12_twoBeds_80 : decode cX12_twoBeds 80 = .ok (.goto 10, 3) := by decide +kernel
theorem dX12_twoBeds_83 : decode cX12_twoBeds 83 = .ok (.aload_n 0, 1) := by decide +kernel
theorem dX12_twoBeds_84 : decode cX12_twoBeds 84 = .ok (.iload 6, 2) := by decide +kernel
theorem dX12_twoBeds_86 : decode cX12_twoBeds 86 = .ok (.invokevirtual 139, 3) := by decide +kernel
theorem dX12_twoBeds_89 : decode cX12_twoBeds 89 = .ok (.ineg, 1) := by decide +kernel
theorem dX12_twoBeds_90 : decode cX12_twoBeds 90 = .ok (.iadd, 1) := by decide +kernel
theorem dX12_twoBeds_91 : decode cX12_twoBeds 91 = .ok (.istore 5, 2) := by decide +kernel
theorem dX12_twoBeds_93 : decode cX12_twoBeds 93 = .ok (.iinc 6 1, 3) := by decide +kernel
theorem dX12_twoBeds_96 : decode cX12_twoBeds 96 = .ok (.goto (-46), 3) := by decide +kernel
theorem dX12_twoBeds_99 : decode cX12_twoBeds 99 = .ok (.iload 5, 2) := by decide +kernel
theorem dX12_twoBeds_101 : decode cX12_twoBeds 101 = .ok (.ifCond .ge 9, 3) := by decide +kernel
theorem dX12_twoBeds_104 : decode cX12_twoBeds 104 = .ok (.iload 5, 2) := by decide +kernel
theorem dX12_twoBeds_106 : decode cX12_twoBeds 106 = .ok (.ineg, 1) := by decide +kernel
theorem dX12_twoBeds_107 : decode cX12_twoBeds 107 = .ok (.goto 5, 3) := by decide +kernel
theorem dX12_twoBeds_110 : decode cX12_twoBeds 110 = .ok (.iload 5, 2) := by decide +kernel
theorem dX12_twoBeds_112 : decode cX12_twoBeds 112 = .ok (.istore 6, 2) := by decide +kernel
theorem dX12_twoBeds_114 : decode cX12_twoBeds 114 = .ok (.iload_n 2, 1) := by decide +kernel
theorem dX12_twoBeds_115 : decode cX12_twoBeds 115 = .ok (.iconst (-1), 1) := by decide +kernel
theorem dX12_twoBeds_116 : decode cX12_twoBeds 116 = .ok (.if_icmp .eq 9, 3) := by decide +kernel
theorem dX12_twoBeds_119 : decode cX12_twoBeds 119 = .ok (.iload 6, 2) := by decide +kernel
theorem dX12_twoBeds_121 : decode cX12_twoBeds 121 = .ok (.iload_n 3, 1) := by decide +kernel
theorem dX12_twoBeds_122 : decode cX12_twoBeds 122 = .ok (.if_icmp .ge 7, 3) := by decide +kernel
theorem dX12_twoBeds_125 : decode cX12_twoBeds 125 = .ok (.iconst 1, 1) := by decide +kernel
theorem dX12_twoBeds_126 : decode cX12_twoBeds 126 = .ok (.goto 4, 3) := by decide +kernel
theorem dX12_twoBeds_129 : decode cX12_twoBeds 129 = .ok (.iconst 0, 1) := by decide +kernel
theorem dX12_twoBeds_130 : decode cX12_twoBeds 130 = .ok (.istore 7, 2) := by decide +kernel
theorem dX12_twoBeds_132 : decode cX12_twoBeds 132 = .ok (.iload 7, 2) := by decide +kernel
theorem dX12_twoBeds_134 : decode cX12_twoBeds 134 = .ok (.ifCond .eq 8, 3) := by decide +kernel
theorem dX12_twoBeds_137 : decode cX12_twoBeds 137 = .ok (.iload 4, 2) := by decide +kernel
theorem dX12_twoBeds_139 : decode cX12_twoBeds 139 = .ok (.goto 4, 3) := by decide +kernel
theorem dX12_twoBeds_142 : decode cX12_twoBeds 142 = .ok (.iload_n 2, 1) := by decide +kernel
theorem dX12_twoBeds_143 : decode cX12_twoBeds 143 = .ok (.istore_n 2, 1) := by decide +kernel
theorem dX12_twoBeds_144 : decode cX12_twoBeds 144 = .ok (.iload 7, 2) := by decide +kernel
theorem dX12_twoBeds_146 : decode cX12_twoBeds 146 = .ok (.ifCond .eq 8, 3) := by decide +kernel
theorem dX12_twoBeds_149 : decode cX12_twoBeds 149 = .ok (.iload 6, 2) := by decide +kernel
theorem dX12_twoBeds_151 : decode cX12_twoBeds 151 = .ok (.goto 4, 3) := by decide +kernel
theorem dX12_twoBeds_154 : decode cX12_twoBeds 154 = .ok (.iload_n 3, 1) := by decide +kernel
theorem dX12_twoBeds_155 : decode cX12_twoBeds 155 = .ok (.istore_n 3, 1) := by decide +kernel
theorem dX12_twoBeds_156 : decode cX12_twoBeds 156 = .ok (.iinc 4 2, 3) := by decide +kernel
theorem dX12_twoBeds_159 : decode cX12_twoBeds 159 = .ok (.goto (-128), 3) := by decide +kernel
theorem dX12_twoBeds_162 : decode cX12_twoBeds 162 = .ok (.iload_n 1, 1) := by decide +kernel
theorem dX12_twoBeds_163 : decode cX12_twoBeds 163 = .ok (.ifCond .ne 7, 3) := by decide +kernel
theorem dX12_twoBeds_166 : decode cX12_twoBeds 166 = .ok (.iload_n 3, 1) := by decide +kernel
theorem dX12_twoBeds_167 : decode cX12_twoBeds 167 = .ok (.goto 4, 3) := by decide +kernel
theorem dX12_twoBeds_170 : decode cX12_twoBeds 170 = .ok (.iload_n 2, 1) := by decide +kernel
theorem dX12_twoBeds_171 : decode cX12_twoBeds 171 = .ok (.ireturn, 1) := by decide +kernel
theorem dX12_nobodyUp_0 : decode cX12_nobodyUp 0 = .ok (.iload_n 1, 1) := by decide +kernel
theorem dX12_nobodyUp_1 : decode cX12_nobodyUp 1 = .ok (.i2l, 1) := by decide +kernel
theorem dX12_nobodyUp_2 : decode cX12_nobodyUp 2 = .ok (.lconst 1, 1) := by decide +kernel
theorem dX12_nobodyUp_3 : decode cX12_nobodyUp 3 = .ok (.ldc2_w 219, 3) := by decide +kernel
theorem dX12_nobodyUp_6 : decode cX12_nobodyUp 6 = .ok (.invokestatic 67, 3) := by decide +kernel
theorem dX12_nobodyUp_9 : decode cX12_nobodyUp 9 = .ok (.ifCond .eq 15, 3) := by decide +kernel
theorem dX12_nobodyUp_12 : decode cX12_nobodyUp 12 = .ok (.iload_n 2, 1) := by decide +kernel
theorem dX12_nobodyUp_13 : decode cX12_nobodyUp 13 = .ok (.i2l, 1) := by decide +kernel
theorem dX12_nobodyUp_14 : decode cX12_nobodyUp 14 = .ok (.lconst 0, 1) := by decide +kernel
theorem dX12_nobodyUp_15 : decode cX12_nobodyUp 15 = .ok (.ldc2_w 221, 3) := by decide +kernel
theorem dX12_nobodyUp_18 : decode cX12_nobodyUp 18 = .ok (.invokestatic 67, 3) := by decide +kernel
theorem dX12_nobodyUp_21 : decode cX12_nobodyUp 21 = .ok (.ifCond .ne 6, 3) := by decide +kernel
theorem dX12_nobodyUp_24 : decode cX12_nobodyUp 24 = .ok (.ldc 71, 2) := by decide +kernel
theorem dX12_nobodyUp_26 : decode cX12_nobodyUp 26 = .ok (.ireturn, 1) := by decide +kernel
theorem dX12_nobodyUp_27 : decode cX12_nobodyUp 27 = .ok (.ldc2_w 223, 3) := by decide +kernel
theorem dX12_nobodyUp_30 : decode cX12_nobodyUp 30 = .ok (.lstore_n 3, 1) := by decide +kernel
theorem dX12_nobodyUp_31 : decode cX12_nobodyUp 31 = .ok (.iconst 0, 1) := by decide +kernel
theorem dX12_nobodyUp_32 : decode cX12_nobodyUp 32 = .ok (.istore 5, 2) := by decide +kernel
theorem dX12_nobodyUp_34 : decode cX12_nobodyUp 34 = .ok (.iload 5, 2) := by decide +kernel
theorem dX12_nobodyUp_36 : decode cX12_nobodyUp 36 = .ok (.aload_n 0, 1) := by decide +kernel
theorem dX12_nobodyUp_37 : decode cX12_nobodyUp 37 = .ok (.getfield 13, 3) := by decide +kernel
theorem dX12_nobodyUp_40 : decode cX12_nobodyUp 40 = .ok (.iconst 0, 1) := by decide +kernel
theorem dX12_nobodyUp_41 : decode cX12_nobodyUp 41 = .ok (.iaload, 1) := by decide +kernel
theorem dX12_nobodyUp_42 : decode cX12_nobodyUp 42 = .ok (.if_icmp .ge 50, 3) := by decide +kernel
theorem dX12_nobodyUp_45 : decode cX12_nobodyUp 45 = .ok (.iconst 0, 1) := by decide +kernel
theorem dX12_nobodyUp_46 : decode cX12_nobodyUp 46 = .ok (.istore 6, 2) := by decide +kernel
theorem dX12_nobodyUp_48 : decode cX12_nobodyUp 48 = .ok (.iload 6, 2) := by decide +kernel
theorem dX12_nobodyUp_50 : decode cX12_nobodyUp 50 = .ok (.iload_n 1, 1) := by decide +kernel
theorem dX12_nobodyUp_51 : decode cX12_nobodyUp 51 = .ok (.if_icmp .ge 35, 3) := by decide +kernel
theorem dX12_nobodyUp_54 : decode cX12_nobodyUp 54 = .ok (.aload_n 0, 1) := by decide +kernel
theorem dX12_nobodyUp_55 : decode cX12_nobodyUp 55 = .ok (.getfield 19, 3) := by decide +kernel
theorem dX12_nobodyUp_58 : decode cX12_nobodyUp 58 = .ok (.iconst 1, 1) := by decide +kernel
theorem dX12_nobodyUp_59 : decode cX12_nobodyUp 59 = .ok (.iload 5, 2) := by decide +kernel
theorem dX12_nobodyUp_61 : decode cX12_nobodyUp 61 = .ok (.iadd, 1) := by decide +kernel
theorem dX12_nobodyUp_62 : decode cX12_nobodyUp 62 = .ok (.iaload, 1) := by decide +kernel
theorem dX12_nobodyUp_63 : decode cX12_nobodyUp 63 = .ok (.iconst (-1), 1) := by decide +kernel
theorem dX12_nobodyUp_64 : decode cX12_nobodyUp 64 = .ok (.if_icmp .eq 22, 3) := by decide +kernel
theorem dX12_nobodyUp_67 : decode cX12_nobodyUp 67 = .ok (.lload_n 3, 1) := by decide +kernel
theorem dX12_nobodyUp_68 : decode cX12_nobodyUp 68 = .ok (.sipush 1000, 3) := by decide +kernel
theorem dX12_nobodyUp_71 : decode cX12_nobodyUp 71 = .ok (.iload_n 2, 1) := by decide +kernel
theorem dX12_nobodyUp_72 : decode cX12_nobodyUp 72 = .ok (.isub, 1) := by decide +kernel
theorem dX12_nobodyUp_73 : decode cX12_nobodyUp 73 = .ok (.i2l, 1) := by decide +kernel
theorem dX12_nobodyUp_74 : decode cX12_nobodyUp 74 = .ok (.lmul, 1) := by decide +kernel
theorem dX12_nobodyUp_75 : decode cX12_nobodyUp 75 = .ok (.ldc2_w 221, 3) := by decide +kernel
theorem dX12_nobodyUp_78 : decode cX12_nobodyUp 78 = .ok (.ldiv, 1) := by decide +kernel
theorem dX12_nobodyUp_79 : decode cX12_nobodyUp 79 = .ok (.lstore_n 3, 1) := by decide +kernel
theorem dX12_nobodyUp_80 : decode cX12_nobodyUp 80 = .ok (.iinc 6 1, 3) := by decide +kernel
theorem dX12_nobodyUp_83 : decode cX12_nobodyUp 83 = .ok (.goto (-35), 3) := by decide +kernel
theorem dX12_nobodyUp_86 : decode cX12_nobodyUp 86 = .ok (.iinc 5 1, 3) := by decide +kernel
theorem dX12_nobodyUp_89 : decode cX12_nobodyUp 89 = .ok (.goto (-55), 3) := by decide +kernel
theorem dX12_nobodyUp_92 : decode cX12_nobodyUp 92 = .ok (.lload_n 3, 1) := by decide +kernel
theorem dX12_nobodyUp_93 : decode cX12_nobodyUp 93 = .ok (.l2i, 1) := by decide +kernel
theorem dX12_nobodyUp_94 : decode cX12_nobodyUp 94 = .ok (.ireturn, 1) := by decide +kernel
theorem dX12_morning_0 : decode cX12_morning 0 = .ok (.aload_n 0, 1) := by decide +kernel
theorem dX12_morning_1 : decode cX12_morning 1 = .ok (.iload_n 1, 1) := by decide +kernel
theorem dX12_morning_2 : decode cX12_morning 2 = .ok (.invokevirtual 153, 3) := by decide +kernel
theorem dX12_morning_5 : decode cX12_morning 5 = .ok (.ifCond .eq 11, 3) := by decide +kernel
theorem dX12_morning_8 : decode cX12_morning 8 = .ok (.aload_n 0, 1) := by decide +kernel
theorem dX12_morning_9 : decode cX12_morning 9 = .ok (.iload_n 2, 1) := by decide +kernel
theorem dX12_morning_10 : decode cX12_morning 10 = .ok (.invokevirtual 148, 3) := by decide +kernel
theorem dX12_morning_13 : decode cX12_morning 13 = .ok (.ifCond .ne 6, 3) := by decide +kernel
theorem dX12_morning_16 : decode cX12_morning 16 = .ok (.ldc 152, 2) := by decide +kernel
theorem dX12_morning_18 : decode cX12_morning 18 = .ok (.ireturn, 1) := by decide +kernel
theorem dX12_morning_19 : decode cX12_morning 19 = .ok (.aload_n 0, 1) := by decide +kernel
theorem dX12_morning_20 : decode cX12_morning 20 = .ok (.getfield 113, 3) := by decide +kernel
theorem dX12_morning_23 : decode cX12_morning 23 = .ok (.bipush 6, 2) := by decide +kernel
theorem dX12_morning_25 : decode cX12_morning 25 = .ok (.if_icmp .ne 6, 3) := by decide +kernel
theorem dX12_morning_28 : decode cX12_morning 28 = .ok (.ldc 75, 2) := by decide +kernel
theorem dX12_morning_30 : decode cX12_morning 30 = .ok (.ireturn, 1) := by decide +kernel
theorem dX12_morning_31 : decode cX12_morning 31 = .ok (.aload_n 0, 1) := by decide +kernel
theorem dX12_morning_32 : decode cX12_morning 32 = .ok (.getfield 43, 3) := by decide +kernel
theorem dX12_morning_35 : decode cX12_morning 35 = .ok (.aload_n 0, 1) := by decide +kernel
theorem dX12_morning_36 : decode cX12_morning 36 = .ok (.getfield 113, 3) := by decide +kernel
theorem dX12_morning_39 : decode cX12_morning 39 = .ok (.iload_n 1, 1) := by decide +kernel
theorem dX12_morning_40 : decode cX12_morning 40 = .ok (.iastore, 1) := by decide +kernel
theorem dX12_morning_41 : decode cX12_morning 41 = .ok (.aload_n 0, 1) := by decide +kernel
theorem dX12_morning_42 : decode cX12_morning 42 = .ok (.getfield 46, 3) := by decide +kernel
theorem dX12_morning_45 : decode cX12_morning 45 = .ok (.aload_n 0, 1) := by decide +kernel
theorem dX12_morning_46 : decode cX12_morning 46 = .ok (.getfield 113, 3) := by decide +kernel
theorem dX12_morning_49 : decode cX12_morning 49 = .ok (.iload_n 2, 1) := by decide +kernel
theorem dX12_morning_50 : decode cX12_morning 50 = .ok (.iastore, 1) := by decide +kernel
theorem dX12_morning_51 : decode cX12_morning 51 = .ok (.aload_n 0, 1) := by decide +kernel
theorem dX12_morning_52 : decode cX12_morning 52 = .ok (.dup, 1) := by decide +kernel
theorem dX12_morning_53 : decode cX12_morning 53 = .ok (.getfield 113, 3) := by decide +kernel
theorem dX12_morning_56 : decode cX12_morning 56 = .ok (.iconst 1, 1) := by decide +kernel
theorem dX12_morning_57 : decode cX12_morning 57 = .ok (.iadd, 1) := by decide +kernel
theorem dX12_morning_58 : decode cX12_morning 58 = .ok (.putfield 113, 3) := by decide +kernel
theorem dX12_morning_61 : decode cX12_morning 61 = .ok (.aload_n 0, 1) := by decide +kernel
theorem dX12_morning_62 : decode cX12_morning 62 = .ok (.getfield 113, 3) := by decide +kernel
theorem dX12_morning_65 : decode cX12_morning 65 = .ok (.ireturn, 1) := by decide +kernel
theorem dX12_counts_0 : decode cX12_counts 0 = .ok (.aload_n 0, 1) := by decide +kernel
theorem dX12_counts_1 : decode cX12_counts 1 = .ok (.invokevirtual 189, 3) := by decide +kernel
theorem dX12_counts_4 : decode cX12_counts 4 = .ok (.aload_n 0, 1) := by decide +kernel
theorem dX12_counts_5 : decode cX12_counts 5 = .ok (.iconst 0, 1) := by decide +kernel
theorem dX12_counts_6 : decode cX12_counts 6 = .ok (.putfield 225, 3) := by decide +kernel
theorem dX12_counts_9 : decode cX12_counts 9 = .ok (.aload_n 0, 1) := by decide +kernel
theorem dX12_counts_10 : decode cX12_counts 10 = .ok (.iconst 0, 1) := by decide +kernel
theorem dX12_counts_11 : decode cX12_counts 11 = .ok (.putfield 228, 3) := by decide +kernel
theorem dX12_counts_14 : decode cX12_counts 14 = .ok (.aload_n 0, 1) := by decide +kernel
theorem dX12_counts_15 : decode cX12_counts 15 = .ok (.bipush 15, 2) := by decide +kernel
theorem dX12_counts_17 : decode cX12_counts 17 = .ok (.putfield 231, 3) := by decide +kernel
theorem dX12_counts_20 : decode cX12_counts 20 = .ok (.iconst 0, 1) := by decide +kernel
theorem dX12_counts_21 : decode cX12_counts 21 = .ok (.istore_n 2, 1) := by decide +kernel
theorem dX12_counts_22 : decode cX12_counts 22 = .ok (.iload_n 2, 1) := by decide +kernel
theorem dX12_counts_23 : decode cX12_counts 23 = .ok (.iload_n 1, 1) := by decide +kernel
theorem dX12_counts_24 : decode cX12_counts 24 = .ok (.invokestatic 204, 3) := by decide +kernel
theorem dX12_counts_27 : decode cX12_counts 27 = .ok (.if_icmp .ge 173, 3) := by decide +kernel
theorem dX12_counts_30 : decode cX12_counts 30 = .ok (.iconst 0, 1) := by decide +kernel
theorem dX12_counts_31 : decode cX12_counts 31 = .ok (.istore_n 3, 1) := by decide +kernel
theorem dX12_counts_32 : decode cX12_counts 32 = .ok (.iconst 0, 1) := by decide +kernel
theorem dX12_counts_33 : decode cX12_counts 33 = .ok (.istore 4, 2) := by decide +kernel
theorem dX12_counts_35 : decode cX12_counts 35 = .ok (.iload 4, 2) := by decide +kernel
theorem dX12_counts_37 : decode cX12_counts 37 = .ok (.iload_n 1, 1) := by decide +kernel
theorem dX12_counts_38 : decode cX12_counts 38 = .ok (.if_icmp .ge 32, 3) := by decide +kernel
theorem dX12_counts_41 : decode cX12_counts 41 = .ok (.aload_n 0, 1) := by decide +kernel
theorem dX12_counts_42 : decode cX12_counts 42 = .ok (.iload_n 2, 1) := by decide +kernel
theorem dX12_counts_43 : decode cX12_counts 43 = .ok (.iload_n 1, 1) := by decide +kernel
theorem dX12_counts_44 : decode cX12_counts 44 = .ok (.iload 4, 2) := by decide +kernel
theorem dX12_counts_46 : decode cX12_counts 46 = .ok (.invokestatic 198, 3) := by decide +kernel
theorem dX12_counts_49 : decode cX12_counts 49 = .ok (.invokevirtual 129, 3) := by decide +kernel
theorem dX12_counts_52 : decode cX12_counts 52 = .ok (.iload_n 3, 1) := by decide +kernel
theorem dX12_counts_53 : decode cX12_counts 53 = .ok (.iconst 1, 1) := by decide +kernel
theorem dX12_counts_54 : decode cX12_counts 54 = .ok (.iload_n 2, 1) := by decide +kernel
theorem dX12_counts_55 : decode cX12_counts 55 = .ok (.iload_n 1, 1) := by decide +kernel
theorem dX12_counts_56 : decode cX12_counts 56 = .ok (.iload 4, 2) := by decide +kernel
theorem dX12_counts_58 : decode cX12_counts 58 = .ok (.invokestatic 198, 3) := by decide +kernel
theorem dX12_counts_61 : decode cX12_counts 61 = .ok (.ishl, 1) := by decide +kernel
theorem dX12_counts_62 : decode cX12_counts 62 = .ok (.ior, 1) := by decide +kernel
theorem dX12_counts_63 : decode cX12_counts 63 = .ok (.istore_n 3, 1) := by decide +kernel
theorem dX12_counts_64 : decode cX12_counts 64 = .ok (.iinc 4 1, 3) := by decide +kernel
theorem dX12_counts_67 : decode cX12_counts 67 = .ok (.goto (-32), 3) := by decide +kernel
theorem dX12_counts_70 : decode cX12_counts 70 = .ok (.iconst 1, 1) := by decide +kernel
theorem dX12_counts_71 : decode cX12_counts 71 = .ok (.istore 4, 2) := by decide +kernel
theorem dX12_counts_73 : decode cX12_counts 73 = .ok (.iconst 0, 1) := by decide +kernel
theorem dX12_counts_74 : decode cX12_counts 74 = .ok (.istore 5, 2) := by decide +kernel
theorem dX12_counts_76 : decode cX12_counts 76 = .ok (.iload 5, 2) := by decide +kernel
theorem dX12_counts_78 : decode cX12_counts 78 = .ok (.aload_n 0, 1) := by decide +kernel
theorem dX12_counts_79 : decode cX12_counts 79 = .ok (.getfield 113, 3) := by decide +kernel
theorem dX12_counts_82 : decode cX12_counts 82 = .ok (.if_icmp .ge 45, 3) := by decide +kernel
theorem dX12_counts_85 : decode cX12_counts 85 = .ok (.iload 4, 2) := by decide +kernel
theorem dX12_counts_87 : decode cX12_counts 87 = .ok (.ifCond .eq 31, 3) := by decide +kernel
theorem dX12_counts_90 : decode cX12_counts 90 = .ok (.aload_n 0, 1) := by decide +kernel
theorem dX12_counts_91 : decode cX12_counts 91 = .ok (.getfield 19, 3) := by decide +kernel
theorem dX12_counts_94 : decode cX12_counts 94 = .ok (.iconst 1, 1) := by decide +kernel
theorem dX12_counts_95 : decode cX12_counts 95 = .ok (.aload_n 0, 1) := by decide +kernel
theorem dX12_counts_96 : decode cX12_counts 96 = .ok (.getfield 46, 3) := by decide +kernel
theorem dX12_counts_99 : decode cX12_counts 99 = .ok (.iload 5, 2) := by decide +kernel
theorem dX12_counts_101 : decode cX12_counts 101 = .ok (.iaload, 1) := by decide +kernel
theorem dX12_counts_102 : decode cX12_counts 102 = .ok (.iadd, 1) := by decide +kernel
theorem dX12_counts_103 : decode cX12_counts 103 = .ok (.iaload, 1) := by decide +kernel
theorem dX12_counts_104 : decode cX12_counts 104 = .ok (.aload_n 0, 1) := by decide +kernel
theorem dX12_counts_105 : decode cX12_counts 105 = .ok (.getfield 43, 3) := by decide +kernel
theorem dX12_counts_108 : decode cX12_counts 108 = .ok (.iload 5, 2) := by decide +kernel
theorem dX12_counts_110 : decode cX12_counts 110 = .ok (.iaload, 1) := by decide +kernel
theorem dX12_counts_111 : decode cX12_counts 111 = .ok (.if_icmp .ne 7, 3) := by decide +kernel
theorem dX12_counts_114 : decode cX12_counts 114 = .ok (.iconst 1, 1) := by decide +kernel
theorem dX12_counts_115 : decode cX12_counts 115 = .ok (.goto 4, 3) := by decide +kernel
theorem dX12_counts_118 : decode cX12_counts 118 = .ok (.iconst 0, 1) := by decide +kernel
theorem dX12_counts_119 : decode cX12_counts 119 = .ok (.istore 4, 2) := by decide +kernel
theorem dX12_counts_121 : decode cX12_counts 121 = .ok (.iinc 5 1, 3) := by decide +kernel
theorem dX12_counts_124 : decode cX12_counts 124 = .ok (.goto (-48), 3) := by decide +kernel
theorem dX12_counts_127 : decode cX12_counts 127 = .ok (.aload_n 0, 1) := by decide +kernel
theorem dX12_counts_128 : decode cX12_counts 128 = .ok (.invokevirtual 195, 3) := by decide +kernel
theorem dX12_counts_131 : decode cX12_counts 131 = .ok (.aload_n 0, 1) := by decide +kernel
theorem dX12_counts_132 : decode cX12_counts 132 = .ok (.iload 4, 2) := by decide +kernel
theorem dX12_counts_134 : decode cX12_counts 134 = .ok (.ifCond .eq 14, 3) := by decide +kernel
theorem dX12_counts_137 : decode cX12_counts 137 = .ok (.aload_n 0, 1) := by decide +kernel
theorem dX12_counts_138 : decode cX12_counts 138 = .ok (.getfield 225, 3) := by decide +kernel
theorem dX12_counts_141 : decode cX12_counts 141 = .ok (.ifCond .ne 7, 3) := by decide +kernel
theorem dX12_counts_144 : decode cX12_counts 144 = .ok (.iload_n 2, 1) := by decide +kernel
theorem dX12_counts_145 : decode cX12_counts 145 = .ok (.goto 7, 3) := by decide +kernel
theorem dX12_counts_148 : decode cX12_counts 148 = .ok (.aload_n 0, 1) := by decide +kernel
theorem dX12_counts_149 : decode cX12_counts 149 = .ok (.getfield 228, 3) := by decide +kernel
theorem dX12_counts_152 : decode cX12_counts 152 = .ok (.putfield 228, 3) := by decide +kernel
theorem dX12_counts_155 : decode cX12_counts 155 = .ok (.aload_n 0, 1) := by decide +kernel
theorem dX12_counts_156 : decode cX12_counts 156 = .ok (.dup, 1) := by decide +kernel
theorem dX12_counts_157 : decode cX12_counts 157 = .ok (.getfield 231, 3) := by decide +kernel
theorem dX12_counts_160 : decode cX12_counts 160 = .ok (.iload 4, 2) := by decide +kernel
theorem dX12_counts_162 : decode cX12_counts 162 = .ok (.ifCond .eq 7, 3) := by decide +kernel
theorem dX12_counts_165 : decode cX12_counts 165 = .ok (.iload_n 3, 1) := by decide +kernel
theorem dX12_counts_166 : decode cX12_counts 166 = .ok (.goto 5, 3) := by decide +kernel
theorem dX12_counts_169 : decode cX12_counts 169 = .ok (.bipush 15, 2) := by decide +kernel
theorem dX12_counts_171 : decode cX12_counts 171 = .ok (.iand, 1) := by decide +kernel
theorem dX12_counts_172 : decode cX12_counts 172 = .ok (.putfield 231, 3) := by decide +kernel
theorem dX12_counts_175 : decode cX12_counts 175 = .ok (.aload_n 0, 1) := by decide +kernel
theorem dX12_counts_176 : decode cX12_counts 176 = .ok (.dup, 1) := by decide +kernel
theorem dX12_counts_177 : decode cX12_counts 177 = .ok (.getfield 225, 3) := by decide +kernel
theorem dX12_counts_180 : decode cX12_counts 180 = .ok (.iload 4, 2) := by decide +kernel
theorem dX12_counts_182 : decode cX12_counts 182 = .ok (.ifCond .eq 7, 3) := by decide +kernel
theorem dX12_counts_185 : decode cX12_counts 185 = .ok (.iconst 1, 1) := by decide +kernel
theorem dX12_counts_186 : decode cX12_counts 186 = .ok (.goto 4, 3) := by decide +kernel
theorem dX12_counts_189 : decode cX12_counts 189 = .ok (.iconst 0, 1) := by decide +kernel
theorem dX12_counts_190 : decode cX12_counts 190 = .ok (.iadd, 1) := by decide +kernel
theorem dX12_counts_191 : decode cX12_counts 191 = .ok (.putfield 225, 3) := by decide +kernel
theorem dX12_counts_194 : decode cX12_counts 194 = .ok (.iinc 2 1, 3) := by decide +kernel
theorem dX12_counts_197 : decode cX12_counts 197 = .ok (.goto (-175), 3) := by decide +kernel
theorem dX12_counts_200 : decode cX12_counts 200 = .ok (.return_, 1) := by decide +kernel
theorem dX12_counted_0 : decode cX12_counted 0 = .ok (.iload_n 1, 1) := by decide +kernel
theorem dX12_counted_1 : decode cX12_counted 1 = .ok (.i2l, 1) := by decide +kernel
theorem dX12_counted_2 : decode cX12_counted 2 = .ok (.lconst 1, 1) := by decide +kernel
theorem dX12_counted_3 : decode cX12_counted 3 = .ok (.ldc2_w 202, 3) := by decide +kernel
theorem dX12_counted_6 : decode cX12_counted 6 = .ok (.invokestatic 67, 3) := by decide +kernel
theorem dX12_counted_9 : decode cX12_counted 9 = .ok (.ifCond .ne 6, 3) := by decide +kernel
theorem dX12_counted_12 : decode cX12_counted 12 = .ok (.ldc 71, 2) := by decide +kernel
theorem dX12_counted_14 : decode cX12_counted 14 = .ok (.ireturn, 1) := by decide +kernel
theorem dX12_counted_15 : decode cX12_counted 15 = .ok (.aload_n 0, 1) := by decide +kernel
theorem dX12_counted_16 : decode cX12_counted 16 = .ok (.getfield 13, 3) := by decide +kernel
theorem dX12_counted_19 : decode cX12_counted 19 = .ok (.iconst 0, 1) := by decide +kernel
theorem dX12_counted_20 : decode cX12_counted 20 = .ok (.iaload, 1) := by decide +kernel
theorem dX12_counted_21 : decode cX12_counted 21 = .ok (.ifCond .ne 6, 3) := by decide +kernel
theorem dX12_counted_24 : decode cX12_counted 24 = .ok (.ldc 158, 2) := by decide +kernel
theorem dX12_counted_26 : decode cX12_counted 26 = .ok (.ireturn, 1) := by decide +kernel
theorem dX12_counted_27 : decode cX12_counted 27 = .ok (.aload_n 0, 1) := by decide +kernel
theorem dX12_counted_28 : decode cX12_counted 28 = .ok (.iload_n 1, 1) := by decide +kernel
theorem dX12_counted_29 : decode cX12_counted 29 = .ok (.invokevirtual 234, 3) := by decide +kernel
theorem dX12_counted_32 : decode cX12_counted 32 = .ok (.iload_n 2, 1) := by decide +kernel
theorem dX12_counted_33 : decode cX12_counted 33 = .ok (.iconst (-1), 1) := by decide +kernel
theorem dX12_counted_34 : decode cX12_counted 34 = .ok (.if_icmp .ne 10, 3) := by decide +kernel
theorem dX12_counted_37 : decode cX12_counted 37 = .ok (.aload_n 0, 1) := by decide +kernel
theorem dX12_counted_38 : decode cX12_counted 38 = .ok (.getfield 225, 3) := by decide +kernel
theorem dX12_counted_41 : decode cX12_counted 41 = .ok (.goto 36, 3) := by decide +kernel
theorem dX12_counted_44 : decode cX12_counted 44 = .ok (.aload_n 0, 1) := by decide +kernel
theorem dX12_counted_45 : decode cX12_counted 45 = .ok (.getfield 225, 3) := by decide +kernel
theorem dX12_counted_48 : decode cX12_counted 48 = .ok (.ifCond .le 28, 3) := by decide +kernel
theorem dX12_counted_51 : decode cX12_counted 51 = .ok (.iload_n 2, 1) := by decide +kernel
theorem dX12_counted_52 : decode cX12_counted 52 = .ok (.i2l, 1) := by decide +kernel
theorem dX12_counted_53 : decode cX12_counted 53 = .ok (.lconst 0, 1) := by decide +kernel
theorem dX12_counted_54 : decode cX12_counted 54 = .ok (.iload_n 1, 1) := by decide +kernel
theorem dX12_counted_55 : decode cX12_counted 55 = .ok (.iconst 1, 1) := by decide +kernel
theorem dX12_counted_56 : decode cX12_counted 56 = .ok (.isub, 1) := by decide +kernel
theorem dX12_counted_57 : decode cX12_counted 57 = .ok (.i2l, 1) := by decide +kernel
theorem dX12_counted_58 : decode cX12_counted 58 = .ok (.invokestatic 67, 3) := by decide +kernel
theorem dX12_counted_61 : decode cX12_counted 61 = .ok (.ifCond .eq 15, 3) := by decide +kernel
theorem dX12_counted_64 : decode cX12_counted 64 = .ok (.aload_n 0, 1) := by decide +kernel
theorem dX12_counted_65 : decode cX12_counted 65 = .ok (.getfield 228, 3) := by decide +kernel
theorem dX12_counted_68 : decode cX12_counted 68 = .ok (.iload_n 1, 1) := by decide +kernel
theorem dX12_counted_69 : decode cX12_counted 69 = .ok (.iload_n 2, 1) := by decide +kernel
theorem dX12_counted_70 : decode cX12_counted 70 = .ok (.invokestatic 198, 3) := by decide +kernel
theorem dX12_counted_73 : decode cX12_counted 73 = .ok (.goto 4, 3) := by decide +kernel
theorem dX12_counted_76 : decode cX12_counted 76 = .ok (.iconst (-1), 1) := by decide +kernel
theorem dX12_counted_77 : decode cX12_counted 77 = .ok (.ireturn, 1) := by decide +kernel
theorem dX12_sure_0 : decode cX12_sure 0 = .ok (.iload_n 1, 1) := by decide +kernel
theorem dX12_sure_1 : decode cX12_sure 1 = .ok (.i2l, 1) := by decide +kernel
theorem dX12_sure_2 : decode cX12_sure 2 = .ok (.lconst 1, 1) := by decide +kernel
theorem dX12_sure_3 : decode cX12_sure 3 = .ok (.ldc2_w 202, 3) := by decide +kernel
theorem dX12_sure_6 : decode cX12_sure 6 = .ok (.invokestatic 67, 3) := by decide +kernel
theorem dX12_sure_9 : decode cX12_sure 9 = .ok (.ifCond .ne 6, 3) := by decide +kernel
theorem dX12_sure_12 : decode cX12_sure 12 = .ok (.ldc 71, 2) := by decide +kernel
theorem dX12_sure_14 : decode cX12_sure 14 = .ok (.ireturn, 1) := by decide +kernel
theorem dX12_sure_15 : decode cX12_sure 15 = .ok (.aload_n 0, 1) := by decide +kernel
theorem dX12_sure_16 : decode cX12_sure 16 = .ok (.getfield 13, 3) := by decide +kernel
theorem dX12_sure_19 : decode cX12_sure 19 = .ok (.iconst 0, 1) := by decide +kernel
theorem dX12_sure_20 : decode cX12_sure 20 = .ok (.iaload, 1) := by decide +kernel
theorem dX12_sure_21 : decode cX12_sure 21 = .ok (.ifCond .ne 6, 3) := by decide +kernel
theorem dX12_sure_24 : decode cX12_sure 24 = .ok (.ldc 158, 2) := by decide +kernel
theorem dX12_sure_26 : decode cX12_sure 26 = .ok (.ireturn, 1) := by decide +kernel
theorem dX12_sure_27 : decode cX12_sure 27 = .ok (.aload_n 0, 1) := by decide +kernel
theorem dX12_sure_28 : decode cX12_sure 28 = .ok (.iload_n 1, 1) := by decide +kernel
theorem dX12_sure_29 : decode cX12_sure 29 = .ok (.invokevirtual 234, 3) := by decide +kernel
theorem dX12_sure_32 : decode cX12_sure 32 = .ok (.aload_n 0, 1) := by decide +kernel
theorem dX12_sure_33 : decode cX12_sure 33 = .ok (.getfield 225, 3) := by decide +kernel
theorem dX12_sure_36 : decode cX12_sure 36 = .ok (.ifCond .le 10, 3) := by decide +kernel
theorem dX12_sure_39 : decode cX12_sure 39 = .ok (.aload_n 0, 1) := by decide +kernel
theorem dX12_sure_40 : decode cX12_sure 40 = .ok (.getfield 231, 3) := by decide +kernel
theorem dX12_sure_43 : decode cX12_sure 43 = .ok (.goto 4, 3) := by decide +kernel
theorem dX12_sure_46 : decode cX12_sure 46 = .ok (.iconst 0, 1) := by decide +kernel
theorem dX12_sure_47 : decode cX12_sure 47 = .ok (.ireturn, 1) := by decide +kernel
theorem dX12_write_0 : decode cX12_write 0 = .ok (.iload_n 1, 1) := by decide +kernel
theorem dX12_write_1 : decode cX12_write 1 = .ok (.i2l, 1) := by decide +kernel
theorem dX12_write_2 : decode cX12_write 2 = .ok (.lconst 0, 1) := by decide +kernel
theorem dX12_write_3 : decode cX12_write 3 = .ok (.ldc2_w 156, 3) := by decide +kernel
theorem dX12_write_6 : decode cX12_write 6 = .ok (.invokestatic 67, 3) := by decide +kernel
theorem dX12_write_9 : decode cX12_write 9 = .ok (.ifCond .ne 6, 3) := by decide +kernel
theorem dX12_write_12 : decode cX12_write 12 = .ok (.ldc 152, 2) := by decide +kernel
theorem dX12_write_14 : decode cX12_write 14 = .ok (.ireturn, 1) := by decide +kernel
theorem dX12_write_15 : decode cX12_write 15 = .ok (.aload_n 0, 1) := by decide +kernel
theorem dX12_write_16 : decode cX12_write 16 = .ok (.getfield 116, 3) := by decide +kernel
theorem dX12_write_19 : decode cX12_write 19 = .ok (.bipush 20, 2) := by decide +kernel
theorem dX12_write_21 : decode cX12_write 21 = .ok (.if_icmp .ne 6, 3) := by decide +kernel
theorem dX12_write_24 : decode cX12_write 24 = .ok (.ldc 75, 2) := by decide +kernel
theorem dX12_write_26 : decode cX12_write 26 = .ok (.ireturn, 1) := by decide +kernel
theorem dX12_write_27 : decode cX12_write 27 = .ok (.aload_n 0, 1) := by decide +kernel
theorem dX12_write_28 : decode cX12_write 28 = .ok (.getfield 49, 3) := by decide +kernel
theorem dX12_write_31 : decode cX12_write 31 = .ok (.aload_n 0, 1) := by decide +kernel
theorem dX12_write_32 : decode cX12_write 32 = .ok (.getfield 116, 3) := by decide +kernel
theorem dX12_write_35 : decode cX12_write 35 = .ok (.iload_n 1, 1) := by decide +kernel
theorem dX12_write_36 : decode cX12_write 36 = .ok (.iastore, 1) := by decide +kernel
theorem dX12_write_37 : decode cX12_write 37 = .ok (.aload_n 0, 1) := by decide +kernel
theorem dX12_write_38 : decode cX12_write 38 = .ok (.dup, 1) := by decide +kernel
theorem dX12_write_39 : decode cX12_write 39 = .ok (.getfield 116, 3) := by decide +kernel
theorem dX12_write_42 : decode cX12_write 42 = .ok (.iconst 1, 1) := by decide +kernel
theorem dX12_write_43 : decode cX12_write 43 = .ok (.iadd, 1) := by decide +kernel
theorem dX12_write_44 : decode cX12_write 44 = .ok (.putfield 116, 3) := by decide +kernel
theorem dX12_write_47 : decode cX12_write 47 = .ok (.aload_n 0, 1) := by decide +kernel
theorem dX12_write_48 : decode cX12_write 48 = .ok (.getfield 116, 3) := by decide +kernel
theorem dX12_write_51 : decode cX12_write 51 = .ok (.ireturn, 1) := by decide +kernel
theorem dX12_judge_0 : decode cX12_judge 0 = .ok (.iload_n 1, 1) := by decide +kernel
theorem dX12_judge_1 : decode cX12_judge 1 = .ok (.i2l, 1) := by decide +kernel
theorem dX12_judge_2 : decode cX12_judge 2 = .ok (.lconst 0, 1) := by decide +kernel
theorem dX12_judge_3 : decode cX12_judge 3 = .ok (.lconst 1, 1) := by decide +kernel
theorem dX12_judge_4 : decode cX12_judge 4 = .ok (.invokestatic 67, 3) := by decide +kernel
theorem dX12_judge_7 : decode cX12_judge 7 = .ok (.ifCond .ne 6, 3) := by decide +kernel
theorem dX12_judge_10 : decode cX12_judge 10 = .ok (.ldc 71, 2) := by decide +kernel
theorem dX12_judge_12 : decode cX12_judge 12 = .ok (.ireturn, 1) := by decide +kernel
theorem dX12_judge_13 : decode cX12_judge 13 = .ok (.aload_n 0, 1) := by decide +kernel
theorem dX12_judge_14 : decode cX12_judge 14 = .ok (.invokevirtual 122, 3) := by decide +kernel
theorem dX12_judge_17 : decode cX12_judge 17 = .ok (.ifCond .ne 6, 3) := by decide +kernel
theorem dX12_judge_20 : decode cX12_judge 20 = .ok (.ldc 158, 2) := by decide +kernel
theorem dX12_judge_22 : decode cX12_judge 22 = .ok (.ireturn, 1) := by decide +kernel
theorem dX12_judge_23 : decode cX12_judge 23 = .ok (.aload_n 0, 1) := by decide +kernel
theorem dX12_judge_24 : decode cX12_judge 24 = .ok (.invokevirtual 189, 3) := by decide +kernel
theorem dX12_judge_27 : decode cX12_judge 27 = .ok (.iconst (-1), 1) := by decide +kernel
theorem dX12_judge_28 : decode cX12_judge 28 = .ok (.istore_n 2, 1) := by decide +kernel
theorem dX12_judge_29 : decode cX12_judge 29 = .ok (.iconst 0, 1) := by decide +kernel
theorem dX12_judge_30 : decode cX12_judge 30 = .ok (.istore_n 3, 1) := by decide +kernel
theorem dX12_judge_31 : decode cX12_judge 31 = .ok (.iload_n 3, 1) := by decide +kernel
theorem dX12_judge_32 : decode cX12_judge 32 = .ok (.aload_n 0, 1) := by decide +kernel
theorem dX12_judge_33 : decode cX12_judge 33 = .ok (.getfield 116, 3) := by decide +kernel
theorem dX12_judge_36 : decode cX12_judge 36 = .ok (.if_icmp .ge 37, 3) := by decide +kernel
theorem dX12_judge_39 : decode cX12_judge 39 = .ok (.aload_n 0, 1) := by decide +kernel
theorem dX12_judge_40 : decode cX12_judge 40 = .ok (.aload_n 0, 1) := by decide +kernel
theorem dX12_judge_41 : decode cX12_judge 41 = .ok (.getfield 49, 3) := by decide +kernel
theorem dX12_judge_44 : decode cX12_judge 44 = .ok (.iload_n 3, 1) := by decide +kernel
theorem dX12_judge_45 : decode cX12_judge 45 = .ok (.iaload, 1) := by decide +kernel
theorem dX12_judge_46 : decode cX12_judge 46 = .ok (.invokevirtual 166, 3) := by decide +kernel
theorem dX12_judge_49 : decode cX12_judge 49 = .ok (.iload_n 2, 1) := by decide +kernel
theorem dX12_judge_50 : decode cX12_judge 50 = .ok (.iconst (-1), 1) := by decide +kernel
theorem dX12_judge_51 : decode cX12_judge 51 = .ok (.if_icmp .ne 14, 3) := by decide +kernel
theorem dX12_judge_54 : decode cX12_judge 54 = .ok (.aload_n 0, 1) := by decide +kernel
theorem dX12_judge_55 : decode cX12_judge 55 = .ok (.invokevirtual 142, 3) := by decide +kernel
theorem dX12_judge_58 : decode cX12_judge 58 = .ok (.ifCond .eq 7, 3) := by decide +kernel
theorem dX12_judge_61 : decode cX12_judge 61 = .ok (.iload_n 3, 1) := by decide +kernel
theorem dX12_judge_62 : decode cX12_judge 62 = .ok (.goto 4, 3) := by decide +kernel
theorem dX12_judge_65 : decode cX12_judge 65 = .ok (.iload_n 2, 1) := by decide +kernel
theorem dX12_judge_66 : decode cX12_judge 66 = .ok (.istore_n 2, 1) := by decide +kernel
theorem dX12_judge_67 : decode cX12_judge 67 = .ok (.iinc 3 1, 3) := by decide +kernel
theorem dX12_judge_70 : decode cX12_judge 70 = .ok (.goto (-39), 3) := by decide +kernel
theorem dX12_judge_73 : decode cX12_judge 73 = .ok (.aload_n 0, 1) := by decide +kernel
theorem dX12_judge_74 : decode cX12_judge 74 = .ok (.invokevirtual 145, 3) := by decide +kernel
theorem dX12_judge_77 : decode cX12_judge 77 = .ok (.istore_n 3, 1) := by decide +kernel
theorem dX12_judge_78 : decode cX12_judge 78 = .ok (.aload_n 0, 1) := by decide +kernel
theorem dX12_judge_79 : decode cX12_judge 79 = .ok (.invokevirtual 195, 3) := by decide +kernel
theorem dX12_judge_82 : decode cX12_judge 82 = .ok (.iload_n 1, 1) := by decide +kernel
theorem dX12_judge_83 : decode cX12_judge 83 = .ok (.ifCond .ne 7, 3) := by decide +kernel
theorem dX12_judge_86 : decode cX12_judge 86 = .ok (.iload_n 2, 1) := by decide +kernel
theorem dX12_judge_87 : decode cX12_judge 87 = .ok (.goto 4, 3) := by decide +kernel
theorem dX12_judge_90 : decode cX12_judge 90 = .ok (.iload_n 3, 1) := by decide +kernel
theorem dX12_judge_91 : decode cX12_judge 91 = .ok (.ireturn, 1) := by decide +kernel
theorem dX12_tear_0 : decode cX12_tear 0 = .ok (.aload_n 0, 1) := by decide +kernel
theorem dX12_tear_1 : decode cX12_tear 1 = .ok (.getfield 113, 3) := by decide +kernel
theorem dX12_tear_4 : decode cX12_tear 4 = .ok (.aload_n 0, 1) := by decide +kernel
theorem dX12_tear_5 : decode cX12_tear 5 = .ok (.getfield 116, 3) := by decide +kernel
theorem dX12_tear_8 : decode cX12_tear 8 = .ok (.iadd, 1) := by decide +kernel
theorem dX12_tear_9 : decode cX12_tear 9 = .ok (.istore_n 1, 1) := by decide +kernel
theorem dX12_tear_10 : decode cX12_tear 10 = .ok (.aload_n 0, 1) := by decide +kernel
theorem dX12_tear_11 : decode cX12_tear 11 = .ok (.iconst 0, 1) := by decide +kernel
theorem dX12_tear_12 : decode cX12_tear 12 = .ok (.putfield 113, 3) := by decide +kernel
theorem dX12_tear_15 : decode cX12_tear 15 = .ok (.aload_n 0, 1) := by decide +kernel
theorem dX12_tear_16 : decode cX12_tear 16 = .ok (.iconst 0, 1) := by decide +kernel
theorem dX12_tear_17 : decode cX12_tear 17 = .ok (.putfield 116, 3) := by decide +kernel
theorem dX12_tear_20 : decode cX12_tear 20 = .ok (.iload_n 1, 1) := by decide +kernel
theorem dX12_tear_21 : decode cX12_tear 21 = .ok (.ireturn, 1) := by decide +kernel
theorem dX12_seed_0 : decode cX12_seed 0 = .ok (.iload_n 1, 1) := by decide +kernel
theorem dX12_seed_1 : decode cX12_seed 1 = .ok (.ifCond .ge 6, 3) := by decide +kernel
theorem dX12_seed_4 : decode cX12_seed 4 = .ok (.ldc 71, 2) := by decide +kernel
theorem dX12_seed_6 : decode cX12_seed 6 = .ok (.ireturn, 1) := by decide +kernel
theorem dX12_seed_7 : decode cX12_seed 7 = .ok (.aload_n 0, 1) := by decide +kernel
theorem dX12_seed_8 : decode cX12_seed 8 = .ok (.getfield 174, 3) := by decide +kernel
theorem dX12_seed_11 : decode cX12_seed 11 = .ok (.istore_n 2, 1) := by decide +kernel
theorem dX12_seed_12 : decode cX12_seed 12 = .ok (.aload_n 0, 1) := by decide +kernel
theorem dX12_seed_13 : decode cX12_seed 13 = .ok (.iload_n 1, 1) := by decide +kernel
theorem dX12_seed_14 : decode cX12_seed 14 = .ok (.putfield 174, 3) := by decide +kernel
theorem dX12_seed_17 : decode cX12_seed 17 = .ok (.iload_n 2, 1) := by decide +kernel
theorem dX12_seed_18 : decode cX12_seed 18 = .ok (.ireturn, 1) := by decide +kernel
theorem dX12_keep_0 : decode cX12_keep 0 = .ok (.iload_n 1, 1) := by decide +kernel
theorem dX12_keep_1 : decode cX12_keep 1 = .ok (.i2l, 1) := by decide +kernel
theorem dX12_keep_2 : decode cX12_keep 2 = .ok (.lconst 0, 1) := by decide +kernel
theorem dX12_keep_3 : decode cX12_keep 3 = .ok (.lconst 1, 1) := by decide +kernel
theorem dX12_keep_4 : decode cX12_keep 4 = .ok (.invokestatic 67, 3) := by decide +kernel
theorem dX12_keep_7 : decode cX12_keep 7 = .ok (.ifCond .ne 6, 3) := by decide +kernel
theorem dX12_keep_10 : decode cX12_keep 10 = .ok (.ldc 152, 2) := by decide +kernel
theorem dX12_keep_12 : decode cX12_keep 12 = .ok (.ireturn, 1) := by decide +kernel
theorem dX12_keep_13 : decode cX12_keep 13 = .ok (.aload_n 0, 1) := by decide +kernel
theorem dX12_keep_14 : decode cX12_keep 14 = .ok (.getfield 52, 3) := by decide +kernel
theorem dX12_keep_17 : decode cX12_keep 17 = .ok (.bipush 15, 2) := by decide +kernel
theorem dX12_keep_19 : decode cX12_keep 19 = .ok (.iload_n 1, 1) := by decide +kernel
theorem dX12_keep_20 : decode cX12_keep 20 = .ok (.imul, 1) := by decide +kernel
theorem dX12_keep_21 : decode cX12_keep 21 = .ok (.iconst 1, 1) := by decide +kernel
theorem dX12_keep_22 : decode cX12_keep 22 = .ok (.iastore, 1) := by decide +kernel
theorem dX12_keep_23 : decode cX12_keep 23 = .ok (.aload_n 0, 1) := by decide +kernel
theorem dX12_keep_24 : decode cX12_keep 24 = .ok (.getfield 52, 3) := by decide +kernel
theorem dX12_keep_27 : decode cX12_keep 27 = .ok (.bipush 15, 2) := by decide +kernel
theorem dX12_keep_29 : decode cX12_keep 29 = .ok (.iload_n 1, 1) := by decide +kernel
theorem dX12_keep_30 : decode cX12_keep 30 = .ok (.imul, 1) := by decide +kernel
theorem dX12_keep_31 : decode cX12_keep 31 = .ok (.iconst 1, 1) := by decide +kernel
theorem dX12_keep_32 : decode cX12_keep 32 = .ok (.iadd, 1) := by decide +kernel
theorem dX12_keep_33 : decode cX12_keep 33 = .ok (.aload_n 0, 1) := by decide +kernel
theorem dX12_keep_34 : decode cX12_keep 34 = .ok (.getfield 174, 3) := by decide +kernel
theorem dX12_keep_37 : decode cX12_keep 37 = .ok (.iastore, 1) := by decide +kernel
theorem dX12_keep_38 : decode cX12_keep 38 = .ok (.iconst 0, 1) := by decide +kernel
theorem dX12_keep_39 : decode cX12_keep 39 = .ok (.istore_n 2, 1) := by decide +kernel
theorem dX12_keep_40 : decode cX12_keep 40 = .ok (.iload_n 2, 1) := by decide +kernel
theorem dX12_keep_41 : decode cX12_keep 41 = .ok (.bipush 13, 2) := by decide +kernel
theorem dX12_keep_43 : decode cX12_keep 43 = .ok (.if_icmp .ge 28, 3) := by decide +kernel
theorem dX12_keep_46 : decode cX12_keep 46 = .ok (.aload_n 0, 1) := by decide +kernel
theorem dX12_keep_47 : decode cX12_keep 47 = .ok (.getfield 52, 3) := by decide +kernel
theorem dX12_keep_50 : decode cX12_keep 50 = .ok (.bipush 15, 2) := by decide +kernel
theorem dX12_keep_52 : decode cX12_keep 52 = .ok (.iload_n 1, 1) := by decide +kernel
theorem dX12_keep_53 : decode cX12_keep 53 = .ok (.imul, 1) := by decide +kernel
theorem dX12_keep_54 : decode cX12_keep 54 = .ok (.iconst 2, 1) := by decide +kernel
theorem dX12_keep_55 : decode cX12_keep 55 = .ok (.iadd, 1) := by decide +kernel
theorem dX12_keep_56 : decode cX12_keep 56 = .ok (.iload_n 2, 1) := by decide +kernel
theorem dX12_keep_57 : decode cX12_keep 57 = .ok (.iadd, 1) := by decide +kernel
theorem dX12_keep_58 : decode cX12_keep 58 = .ok (.aload_n 0, 1) := by decide +kernel
theorem dX12_keep_59 : decode cX12_keep 59 = .ok (.getfield 19, 3) := by decide +kernel
theorem dX12_keep_62 : decode cX12_keep 62 = .ok (.iload_n 2, 1) := by decide +kernel
theorem dX12_keep_63 : decode cX12_keep 63 = .ok (.iaload, 1) := by decide +kernel
theorem dX12_keep_64 : decode cX12_keep 64 = .ok (.iastore, 1) := by decide +kernel
theorem dX12_keep_65 : decode cX12_keep 65 = .ok (.iinc 2 1, 3) := by decide +kernel
theorem dX12_keep_68 : decode cX12_keep 68 = .ok (.goto (-28), 3) := by decide +kernel
theorem dX12_keep_71 : decode cX12_keep 71 = .ok (.aload_n 0, 1) := by decide +kernel
theorem dX12_keep_72 : decode cX12_keep 72 = .ok (.iconst 0, 1) := by decide +kernel
theorem dX12_keep_73 : decode cX12_keep 73 = .ok (.putfield 119, 3) := by decide +kernel
theorem dX12_keep_76 : decode cX12_keep 76 = .ok (.iconst 1, 1) := by decide +kernel
theorem dX12_keep_77 : decode cX12_keep 77 = .ok (.ireturn, 1) := by decide +kernel
theorem dX12_goBack_0 : decode cX12_goBack 0 = .ok (.iload_n 1, 1) := by decide +kernel
theorem dX12_goBack_1 : decode cX12_goBack 1 = .ok (.i2l, 1) := by decide +kernel
theorem dX12_goBack_2 : decode cX12_goBack 2 = .ok (.lconst 0, 1) := by decide +kernel
theorem dX12_goBack_3 : decode cX12_goBack 3 = .ok (.lconst 1, 1) := by decide +kernel
theorem dX12_goBack_4 : decode cX12_goBack 4 = .ok (.invokestatic 67, 3) := by decide +kernel
theorem dX12_goBack_7 : decode cX12_goBack 7 = .ok (.ifCond .ne 6, 3) := by decide +kernel
theorem dX12_goBack_10 : decode cX12_goBack 10 = .ok (.ldc 152, 2) := by decide +kernel
theorem dX12_goBack_12 : decode cX12_goBack 12 = .ok (.ireturn, 1) := by decide +kernel
theorem dX12_goBack_13 : decode cX12_goBack 13 = .ok (.aload_n 0, 1) := by decide +kernel
theorem dX12_goBack_14 : decode cX12_goBack 14 = .ok (.getfield 52, 3) := by decide +kernel
theorem dX12_goBack_17 : decode cX12_goBack 17 = .ok (.bipush 15, 2) := by decide +kernel
theorem dX12_goBack_19 : decode cX12_goBack 19 = .ok (.iload_n 1, 1) := by decide +kernel
theorem dX12_goBack_20 : decode cX12_goBack 20 = .ok (.imul, 1) := by decide +kernel
theorem dX12_goBack_21 : decode cX12_goBack 21 = .ok (.iaload, 1) := by decide +kernel
theorem dX12_goBack_22 : decode cX12_goBack 22 = .ok (.ifCond .ne 6, 3) := by decide +kernel
theorem dX12_goBack_25 : decode cX12_goBack 25 = .ok (.ldc 158, 2) := by decide +kernel
theorem dX12_goBack_27 : decode cX12_goBack 27 = .ok (.ireturn, 1) := by decide +kernel
theorem dX12_goBack_28 : decode cX12_goBack 28 = .ok (.aload_n 0, 1) := by decide +kernel
theorem dX12_goBack_29 : decode cX12_goBack 29 = .ok (.aload_n 0, 1) := by decide +kernel
theorem dX12_goBack_30 : decode cX12_goBack 30 = .ok (.getfield 52, 3) := by decide +kernel
theorem dX12_goBack_33 : decode cX12_goBack 33 = .ok (.bipush 15, 2) := by decide +kernel
theorem dX12_goBack_35 : decode cX12_goBack 35 = .ok (.iload_n 1, 1) := by decide +kernel
theorem dX12_goBack_36 : decode cX12_goBack 36 = .ok (.imul, 1) := by decide +kernel
theorem dX12_goBack_37 : decode cX12_goBack 37 = .ok (.iconst 1, 1) := by decide +kernel
theorem dX12_goBack_38 : decode cX12_goBack 38 = .ok (.iadd, 1) := by decide +kernel
theorem dX12_goBack_39 : decode cX12_goBack 39 = .ok (.iaload, 1) := by decide +kernel
theorem dX12_goBack_40 : decode cX12_goBack 40 = .ok (.putfield 174, 3) := by decide +kernel
theorem dX12_goBack_43 : decode cX12_goBack 43 = .ok (.iconst 0, 1) := by decide +kernel
theorem dX12_goBack_44 : decode cX12_goBack 44 = .ok (.istore_n 2, 1) := by decide +kernel
theorem dX12_goBack_45 : decode cX12_goBack 45 = .ok (.iload_n 2, 1) := by decide +kernel
theorem dX12_goBack_46 : decode cX12_goBack 46 = .ok (.bipush 13, 2) := by decide +kernel
theorem dX12_goBack_48 : decode cX12_goBack 48 = .ok (.if_icmp .ge 28, 3) := by decide +kernel
theorem dX12_goBack_51 : decode cX12_goBack 51 = .ok (.aload_n 0, 1) := by decide +kernel
theorem dX12_goBack_52 : decode cX12_goBack 52 = .ok (.getfield 19, 3) := by decide +kernel
theorem dX12_goBack_55 : decode cX12_goBack 55 = .ok (.iload_n 2, 1) := by decide +kernel
theorem dX12_goBack_56 : decode cX12_goBack 56 = .ok (.aload_n 0, 1) := by decide +kernel
theorem dX12_goBack_57 : decode cX12_goBack 57 = .ok (.getfield 52, 3) := by decide +kernel
theorem dX12_goBack_60 : decode cX12_goBack 60 = .ok (.bipush 15, 2) := by decide +kernel
theorem dX12_goBack_62 : decode cX12_goBack 62 = .ok (.iload_n 1, 1) := by decide +kernel
theorem dX12_goBack_63 : decode cX12_goBack 63 = .ok (.imul, 1) := by decide +kernel
theorem dX12_goBack_64 : decode cX12_goBack 64 = .ok (.iconst 2, 1) := by decide +kernel
theorem dX12_goBack_65 : decode cX12_goBack 65 = .ok (.iadd, 1) := by decide +kernel
theorem dX12_goBack_66 : decode cX12_goBack 66 = .ok (.iload_n 2, 1) := by decide +kernel
theorem dX12_goBack_67 : decode cX12_goBack 67 = .ok (.iadd, 1) := by decide +kernel
theorem dX12_goBack_68 : decode cX12_goBack 68 = .ok (.iaload, 1) := by decide +kernel
theorem dX12_goBack_69 : decode cX12_goBack 69 = .ok (.iastore, 1) := by decide +kernel
theorem dX12_goBack_70 : decode cX12_goBack 70 = .ok (.iinc 2 1, 3) := by decide +kernel
theorem dX12_goBack_73 : decode cX12_goBack 73 = .ok (.goto (-28), 3) := by decide +kernel
theorem dX12_goBack_76 : decode cX12_goBack 76 = .ok (.aload_n 0, 1) := by decide +kernel
theorem dX12_goBack_77 : decode cX12_goBack 77 = .ok (.iconst 0, 1) := by decide +kernel
theorem dX12_goBack_78 : decode cX12_goBack 78 = .ok (.putfield 119, 3) := by decide +kernel
theorem dX12_goBack_81 : decode cX12_goBack 81 = .ok (.iconst 1, 1) := by decide +kernel
theorem dX12_goBack_82 : decode cX12_goBack 82 = .ok (.ireturn, 1) := by decide +kernel
end
section
theorem dL_law_0 : decode cL_law 0 = .ok (.new 7, 3) := by decide +kernel
theorem dL_law_3 : decode cL_law 3 = .ok (.dup, 1) := by decide +kernel
theorem dL_law_4 : decode cL_law 4 = .ok (.invokespecial 9, 3) := by decide +kernel
theorem dL_law_7 : decode cL_law 7 = .ok (.astore_n 1, 1) := by decide +kernel
theorem dL_law_8 : decode cL_law 8 = .ok (.new 10, 3) := by decide +kernel
theorem dL_law_11 : decode cL_law 11 = .ok (.dup, 1) := by decide +kernel
theorem dL_law_12 : decode cL_law 12 = .ok (.invokespecial 12, 3) := by decide +kernel
theorem dL_law_15 : decode cL_law 15 = .ok (.astore_n 2, 1) := by decide +kernel
theorem dL_law_16 : decode cL_law 16 = .ok (.iconst 0, 1) := by decide +kernel
theorem dL_law_17 : decode cL_law 17 = .ok (.istore_n 3, 1) := by decide +kernel
theorem dL_law_18 : decode cL_law 18 = .ok (.iload_n 3, 1) := by decide +kernel
theorem dL_law_19 : decode cL_law 19 = .ok (.aload_n 0, 1) := by decide +kernel
theorem dL_law_20 : decode cL_law 20 = .ok (.arraylength, 1) := by decide +kernel
theorem dL_law_21 : decode cL_law 21 = .ok (.iconst 3, 1) := by decide +kernel
theorem dL_law_22 : decode cL_law 22 = .ok (.isub, 1) := by decide +kernel
theorem dL_law_23 : decode cL_law 23 = .ok (.if_icmp .gt 891, 3) := by decide +kernel
theorem dL_law_26 : decode cL_law 26 = .ok (.aload_n 0, 1) := by decide +kernel
theorem dL_law_27 : decode cL_law 27 = .ok (.iload_n 3, 1) := by decide +kernel
theorem dL_law_28 : decode cL_law 28 = .ok (.iaload, 1) := by decide +kernel
theorem dL_law_29 : decode cL_law 29 = .ok (.bipush 31, 2) := by decide +kernel
theorem dL_law_31 : decode cL_law 31 = .ok (.iand, 1) := by decide +kernel
theorem dL_law_32 : decode cL_law 32 = .ok (.tableswitch 876 0 29 #[136, 159, 172, 185, 208, 241, 274, 297, 320, 343, 366, 389, 412, 435, 458, 491, 524, 557, 580, 603, 626, 659, 692, 725, 748, 771, 794, 807, 830, 853], 136) := by decide +kernel
theorem dL_law_168 : decode cL_law 168 = .ok (.aload_n 1, 1) := by decide +kernel
theorem dL_law_169 : decode cL_law 169 = .ok (.aload_n 0, 1) := by decide +kernel
theorem dL_law_170 : decode cL_law 170 = .ok (.iload_n 3, 1) := by decide +kernel
theorem dL_law_171 : decode cL_law 171 = .ok (.iconst 1, 1) := by decide +kernel
theorem dL_law_172 : decode cL_law 172 = .ok (.iadd, 1) := by decide +kernel
theorem dL_law_173 : decode cL_law 173 = .ok (.iaload, 1) := by decide +kernel
theorem dL_law_174 : decode cL_law 174 = .ok (.invokevirtual 13, 3) := by decide +kernel
theorem dL_law_177 : decode cL_law 177 = .ok (.aload_n 2, 1) := by decide +kernel
theorem dL_law_178 : decode cL_law 178 = .ok (.aload_n 0, 1) := by decide +kernel
theorem dL_law_179 : decode cL_law 179 = .ok (.iload_n 3, 1) := by decide +kernel
theorem dL_law_180 : decode cL_law 180 = .ok (.iconst 1, 1) := by decide +kernel
theorem dL_law_181 : decode cL_law 181 = .ok (.iadd, 1) := by decide +kernel
theorem dL_law_182 : decode cL_law 182 = .ok (.iaload, 1) := by decide +kernel
theorem dL_law_183 : decode cL_law 183 = .ok (.invokevirtual 17, 3) := by decide +kernel
theorem dL_law_186 : decode cL_law 186 = .ok (.if_icmp .eq 722, 3) := by decide +kernel
theorem dL_law_189 : decode cL_law 189 = .ok (.iconst 0, 1) := by decide +kernel
theorem dL_law_190 : decode cL_law 190 = .ok (.ireturn, 1) := by decide +kernel
theorem dL_law_191 : decode cL_law 191 = .ok (.aload_n 1, 1) := by decide +kernel
theorem dL_law_192 : decode cL_law 192 = .ok (.invokevirtual 18, 3) := by decide +kernel
theorem dL_law_195 : decode cL_law 195 = .ok (.aload_n 2, 1) := by decide +kernel
theorem dL_law_196 : decode cL_law 196 = .ok (.invokevirtual 22, 3) := by decide +kernel
theorem dL_law_199 : decode cL_law 199 = .ok (.if_icmp .eq 709, 3) := by decide +kernel
theorem dL_law_202 : decode cL_law 202 = .ok (.iconst 0, 1) := by decide +kernel
theorem dL_law_203 : decode cL_law 203 = .ok (.ireturn, 1) := by decide +kernel
theorem dL_law_204 : decode cL_law 204 = .ok (.aload_n 1, 1) := by decide +kernel
theorem dL_law_205 : decode cL_law 205 = .ok (.invokevirtual 23, 3) := by decide +kernel
theorem dL_law_208 : decode cL_law 208 = .ok (.aload_n 2, 1) := by decide +kernel
theorem dL_law_209 : decode cL_law 209 = .ok (.invokevirtual 26, 3) := by decide +kernel
theorem dL_law_212 : decode cL_law 212 = .ok (.if_icmp .eq 696, 3) := by decide +kernel
theorem dL_law_215 : decode cL_law 215 = .ok (.iconst 0, 1) := by decide +kernel
theorem dL_law_216 : decode cL_law 216 = .ok (.ireturn, 1) := by decide +kernel
theorem dL_law_217 : decode cL_law 217 = .ok (.aload_n 1, 1) := by decide +kernel
theorem dL_law_218 : decode cL_law 218 = .ok (.aload_n 0, 1) := by decide +kernel
theorem dL_law_219 : decode cL_law 219 = .ok (.iload_n 3, 1) := by decide +kernel
theorem dL_law_220 : decode cL_law 220 = .ok (.iconst 1, 1) := by decide +kernel
theorem dL_law_221 : decode cL_law 221 = .ok (.iadd, 1) := by decide +kernel
theorem dL_law_222 : decode cL_law 222 = .ok (.iaload, 1) := by decide +kernel
theorem dL_law_223 : decode cL_law 223 = .ok (.invokevirtual 27, 3) := by decide +kernel
theorem dL_law_226 : decode cL_law 226 = .ok (.aload_n 2, 1) := by decide +kernel
theorem dL_law_227 : decode cL_law 227 = .ok (.aload_n 0, 1) := by decide +kernel
theorem dL_law_228 : decode cL_law 228 = .ok (.iload_n 3, 1) := by decide +kernel
theorem dL_law_229 : decode cL_law 229 = .ok (.iconst 1, 1) := by decide +kernel
theorem dL_law_230 : decode cL_law 230 = .ok (.iadd, 1) := by decide +kernel
theorem dL_law_231 : decode cL_law 231 = .ok (.iaload, 1) := by decide +kernel
theorem dL_law_232 : decode cL_law 232 = .ok (.invokevirtual 30, 3) := by decide +kernel
theorem dL_law_235 : decode cL_law 235 = .ok (.if_icmp .eq 673, 3) := by decide +kernel
theorem dL_law_238 : decode cL_law 238 = .ok (.iconst 0, 1) := by decide +kernel
theorem dL_law_239 : decode cL_law 239 = .ok (.ireturn, 1) := by decide +kernel
theorem dL_law_240 : decode cL_law 240 = .ok (.aload_n 1, 1) := by decide +kernel
theorem dL_law_241 : decode cL_law 241 = .ok (.aload_n 0, 1) := by decide +kernel
theorem dL_law_242 : decode cL_law 242 = .ok (.iload_n 3, 1) := by decide +kernel
theorem dL_law_243 : decode cL_law 243 = .ok (.iconst 1, 1) := by decide +kernel
theorem dL_law_244 : decode cL_law 244 = .ok (.iadd, 1) := by decide +kernel
theorem dL_law_245 : decode cL_law 245 = .ok (.iaload, 1) := by decide +kernel
theorem dL_law_246 : decode cL_law 246 = .ok (.aload_n 0, 1) := by decide +kernel
theorem dL_law_247 : decode cL_law 247 = .ok (.iload_n 3, 1) := by decide +kernel
theorem dL_law_248 : decode cL_law 248 = .ok (.iconst 2, 1) := by decide +kernel
theorem dL_law_249 : decode cL_law 249 = .ok (.iadd, 1) := by decide +kernel
theorem dL_law_250 : decode cL_law 250 = .ok (.iaload, 1) := by decide +kernel
theorem dL_law_251 : decode cL_law 251 = .ok (.invokevirtual 31, 3) := by decide +kernel
theorem dL_law_254 : decode cL_law 254 = .ok (.aload_n 2, 1) := by decide +kernel
theorem dL_law_255 : decode cL_law 255 = .ok (.aload_n 0, 1) := by decide +kernel
theorem dL_law_256 : decode cL_law 256 = .ok (.iload_n 3, 1) := by decide +kernel
theorem dL_law_257 : decode cL_law 257 = .ok (.iconst 1, 1) := by decide +kernel
theorem dL_law_258 : decode cL_law 258 = .ok (.iadd, 1) := by decide +kernel
theorem dL_law_259 : decode cL_law 259 = .ok (.iaload, 1) := by decide +kernel
theorem dL_law_260 : decode cL_law 260 = .ok (.aload_n 0, 1) := by decide +kernel
theorem dL_law_261 : decode cL_law 261 = .ok (.iload_n 3, 1) := by decide +kernel
theorem dL_law_262 : decode cL_law 262 = .ok (.iconst 2, 1) := by decide +kernel
theorem dL_law_263 : decode cL_law 263 = .ok (.iadd, 1) := by decide +kernel
theorem dL_law_264 : decode cL_law 264 = .ok (.iaload, 1) := by decide +kernel
theorem dL_law_265 : decode cL_law 265 = .ok (.invokevirtual 35, 3) := by decide +kernel
theorem dL_law_268 : decode cL_law 268 = .ok (.if_icmp .eq 640, 3) := by decide +kernel
theorem dL_law_271 : decode cL_law 271 = .ok (.iconst 0, 1) := by decide +kernel
theorem dL_law_272 : decode cL_law 272 = .ok (.ireturn, 1) := by decide +kernel
theorem dL_law_273 : decode cL_law 273 = .ok (.aload_n 1, 1) := by decide +kernel
theorem dL_law_274 : decode cL_law 274 = .ok (.aload_n 0, 1) := by decide +kernel
theorem dL_law_275 : decode cL_law 275 = .ok (.iload_n 3, 1) := by decide +kernel
theorem dL_law_276 : decode cL_law 276 = .ok (.iconst 1, 1) := by decide +kernel
theorem dL_law_277 : decode cL_law 277 = .ok (.iadd, 1) := by decide +kernel
theorem dL_law_278 : decode cL_law 278 = .ok (.iaload, 1) := by decide +kernel
theorem dL_law_279 : decode cL_law 279 = .ok (.aload_n 0, 1) := by decide +kernel
theorem dL_law_280 : decode cL_law 280 = .ok (.iload_n 3, 1) := by decide +kernel
theorem dL_law_281 : decode cL_law 281 = .ok (.iconst 2, 1) := by decide +kernel
theorem dL_law_282 : decode cL_law 282 = .ok (.iadd, 1) := by decide +kernel
theorem dL_law_283 : decode cL_law 283 = .ok (.iaload, 1) := by decide +kernel
theorem dL_law_284 : decode cL_law 284 = .ok (.invokevirtual 36, 3) := by decide +kernel
theorem dL_law_287 : decode cL_law 287 = .ok (.aload_n 2, 1) := by decide +kernel
theorem dL_law_288 : decode cL_law 288 = .ok (.aload_n 0, 1) := by decide +kernel
theorem dL_law_289 : decode cL_law 289 = .ok (.iload_n 3, 1) := by decide +kernel
theorem dL_law_290 : decode cL_law 290 = .ok (.iconst 1, 1) := by decide +kernel
theorem dL_law_291 : decode cL_law 291 = .ok (.iadd, 1) := by decide +kernel
theorem dL_law_292 : decode cL_law 292 = .ok (.iaload, 1) := by decide +kernel
theorem dL_law_293 : decode cL_law 293 = .ok (.aload_n 0, 1) := by decide +kernel
theorem dL_law_294 : decode cL_law 294 = .ok (.iload_n 3, 1) := by decide +kernel
theorem dL_law_295 : decode cL_law 295 = .ok (.iconst 2, 1) := by decide +kernel
theorem dL_law_296 : decode cL_law 296 = .ok (.iadd, 1) := by decide +kernel
theorem dL_law_297 : decode cL_law 297 = .ok (.iaload, 1) := by decide +kernel
theorem dL_law_298 : decode cL_law 298 = .ok (.invokevirtual 39, 3) := by decide +kernel
theorem dL_law_301 : decode cL_law 301 = .ok (.if_icmp .eq 607, 3) := by decide +kernel
theorem dL_law_304 : decode cL_law 304 = .ok (.iconst 0, 1) := by decide +kernel
theorem dL_law_305 : decode cL_law 305 = .ok (.ireturn, 1) := by decide +kernel
theorem dL_law_306 : decode cL_law 306 = .ok (.aload_n 1, 1) := by decide +kernel
theorem dL_law_307 : decode cL_law 307 = .ok (.aload_n 0, 1) := by decide +kernel
theorem dL_law_308 : decode cL_law 308 = .ok (.iload_n 3, 1) := by decide +kernel
theorem dL_law_309 : decode cL_law 309 = .ok (.iconst 1, 1) := by decide +kernel
theorem dL_law_310 : decode cL_law 310 = .ok (.iadd, 1) := by decide +kernel
theorem dL_law_311 : decode cL_law 311 = .ok (.iaload, 1) := by decide +kernel
theorem dL_law_312 : decode cL_law 312 = .ok (.invokevirtual 40, 3) := by decide +kernel
theorem dL_law_315 : decode cL_law 315 = .ok (.aload_n 2, 1) := by decide +kernel
theorem dL_law_316 : decode cL_law 316 = .ok (.aload_n 0, 1) := by decide +kernel
theorem dL_law_317 : decode cL_law 317 = .ok (.iload_n 3, 1) := by decide +kernel
theorem dL_law_318 : decode cL_law 318 = .ok (.iconst 1, 1) := by decide +kernel
theorem dL_law_319 : decode cL_law 319 = .ok (.iadd, 1) := by decide +kernel
theorem dL_law_320 : decode cL_law 320 = .ok (.iaload, 1) := by decide +kernel
theorem dL_law_321 : decode cL_law 321 = .ok (.invokevirtual 43, 3) := by decide +kernel
theorem dL_law_324 : decode cL_law 324 = .ok (.if_icmp .eq 584, 3) := by decide +kernel
theorem dL_law_327 : decode cL_law 327 = .ok (.iconst 0, 1) := by decide +kernel
theorem dL_law_328 : decode cL_law 328 = .ok (.ireturn, 1) := by decide +kernel
theorem dL_law_329 : decode cL_law 329 = .ok (.aload_n 1, 1) := by decide +kernel
theorem dL_law_330 : decode cL_law 330 = .ok (.aload_n 0, 1) := by decide +kernel
theorem dL_law_331 : decode cL_law 331 = .ok (.iload_n 3, 1) := by decide +kernel
theorem dL_law_332 : decode cL_law 332 = .ok (.iconst 1, 1) := by decide +kernel
theorem dL_law_333 : decode cL_law 333 = .ok (.iadd, 1) := by decide +kernel
theorem dL_law_334 : decode cL_law 334 = .ok (.iaload, 1) := by decide +kernel
theorem dL_law_335 : decode cL_law 335 = .ok (.invokevirtual 44, 3) := by decide +kernel
theorem dL_law_338 : decode cL_law 338 = .ok (.aload_n 2, 1) := by decide +kernel
theorem dL_law_339 : decode cL_law 339 = .ok (.aload_n 0, 1) := by decide +kernel
theorem dL_law_340 : decode cL_law 340 = .ok (.iload_n 3, 1) := by decide +kernel
theorem dL_law_341 : decode cL_law 341 = .ok (.iconst 1, 1) := by decide +kernel
theorem dL_law_342 : decode cL_law 342 = .ok (.iadd, 1) := by decide +kernel
theorem dL_law_343 : decode cL_law 343 = .ok (.iaload, 1) := by decide +kernel
theorem dL_law_344 : decode cL_law 344 = .ok (.invokevirtual 47, 3) := by decide +kernel
theorem dL_law_347 : decode cL_law 347 = .ok (.if_icmp .eq 561, 3) := by decide +kernel
theorem dL_law_350 : decode cL_law 350 = .ok (.iconst 0, 1) := by decide +kernel
theorem dL_law_351 : decode cL_law 351 = .ok (.ireturn, 1) := by decide +kernel
theorem dL_law_352 : decode cL_law 352 = .ok (.aload_n 1, 1) := by decide +kernel
theorem dL_law_353 : decode cL_law 353 = .ok (.aload_n 0, 1) := by decide +kernel
theorem dL_law_354 : decode cL_law 354 = .ok (.iload_n 3, 1) := by decide +kernel
theorem dL_law_355 : decode cL_law 355 = .ok (.iconst 1, 1) := by decide +kernel
theorem dL_law_356 : decode cL_law 356 = .ok (.iadd, 1) := by decide +kernel
theorem dL_law_357 : decode cL_law 357 = .ok (.iaload, 1) := by decide +kernel
theorem dL_law_358 : decode cL_law 358 = .ok (.invokevirtual 48, 3) := by decide +kernel
theorem dL_law_361 : decode cL_law 361 = .ok (.aload_n 2, 1) := by decide +kernel
theorem dL_law_362 : decode cL_law 362 = .ok (.aload_n 0, 1) := by decide +kernel
theorem dL_law_363 : decode cL_law 363 = .ok (.iload_n 3, 1) := by decide +kernel
theorem dL_law_364 : decode cL_law 364 = .ok (.iconst 1, 1) := by decide +kernel
theorem dL_law_365 : decode cL_law 365 = .ok (.iadd, 1) := by decide +kernel
theorem dL_law_366 : decode cL_law 366 = .ok (.iaload, 1) := by decide +kernel
theorem dL_law_367 : decode cL_law 367 = .ok (.invokevirtual 51, 3) := by decide +kernel
theorem dL_law_370 : decode cL_law 370 = .ok (.if_icmp .eq 538, 3) := by decide +kernel
theorem dL_law_373 : decode cL_law 373 = .ok (.iconst 0, 1) := by decide +kernel
theorem dL_law_374 : decode cL_law 374 = .ok (.ireturn, 1) := by decide +kernel
theorem dL_law_375 : decode cL_law 375 = .ok (.aload_n 1, 1) := by decide +kernel
theorem dL_law_376 : decode cL_law 376 = .ok (.aload_n 0, 1) := by decide +kernel
theorem dL_law_377 : decode cL_law 377 = .ok (.iload_n 3, 1) := by decide +kernel
theorem dL_law_378 : decode cL_law 378 = .ok (.iconst 1, 1) := by decide +kernel
theorem dL_law_379 : decode cL_law 379 = .ok (.iadd, 1) := by decide +kernel
theorem dL_law_380 : decode cL_law 380 = .ok (.iaload, 1) := by decide +kernel
theorem dL_law_381 : decode cL_law 381 = .ok (.invokevirtual 52, 3) := by decide +kernel
theorem dL_law_384 : decode cL_law 384 = .ok (.aload_n 2, 1) := by decide +kernel
theorem dL_law_385 : decode cL_law 385 = .ok (.aload_n 0, 1) := by decide +kernel
theorem dL_law_386 : decode cL_law 386 = .ok (.iload_n 3, 1) := by decide +kernel
theorem dL_law_387 : decode cL_law 387 = .ok (.iconst 1, 1) := by decide +kernel
theorem dL_law_388 : decode cL_law 388 = .ok (.iadd, 1) := by decide +kernel
theorem dL_law_389 : decode cL_law 389 = .ok (.iaload, 1) := by decide +kernel
theorem dL_law_390 : decode cL_law 390 = .ok (.invokevirtual 55, 3) := by decide +kernel
theorem dL_law_393 : decode cL_law 393 = .ok (.if_icmp .eq 515, 3) := by decide +kernel
theorem dL_law_396 : decode cL_law 396 = .ok (.iconst 0, 1) := by decide +kernel
theorem dL_law_397 : decode cL_law 397 = .ok (.ireturn, 1) := by decide +kernel
theorem dL_law_398 : decode cL_law 398 = .ok (.aload_n 1, 1) := by decide +kernel
theorem dL_law_399 : decode cL_law 399 = .ok (.aload_n 0, 1) := by decide +kernel
theorem dL_law_400 : decode cL_law 400 = .ok (.iload_n 3, 1) := by decide +kernel
theorem dL_law_401 : decode cL_law 401 = .ok (.iconst 1, 1) := by decide +kernel
theorem dL_law_402 : decode cL_law 402 = .ok (.iadd, 1) := by decide +kernel
theorem dL_law_403 : decode cL_law 403 = .ok (.iaload, 1) := by decide +kernel
theorem dL_law_404 : decode cL_law 404 = .ok (.invokevirtual 56, 3) := by decide +kernel
theorem dL_law_407 : decode cL_law 407 = .ok (.aload_n 2, 1) := by decide +kernel
theorem dL_law_408 : decode cL_law 408 = .ok (.aload_n 0, 1) := by decide +kernel
theorem dL_law_409 : decode cL_law 409 = .ok (.iload_n 3, 1) := by decide +kernel
theorem dL_law_410 : decode cL_law 410 = .ok (.iconst 1, 1) := by decide +kernel
theorem dL_law_411 : decode cL_law 411 = .ok (.iadd, 1) := by decide +kernel
theorem dL_law_412 : decode cL_law 412 = .ok (.iaload, 1) := by decide +kernel
theorem dL_law_413 : decode cL_law 413 = .ok (.invokevirtual 59, 3) := by decide +kernel
theorem dL_law_416 : decode cL_law 416 = .ok (.if_icmp .eq 492, 3) := by decide +kernel
theorem dL_law_419 : decode cL_law 419 = .ok (.iconst 0, 1) := by decide +kernel
theorem dL_law_420 : decode cL_law 420 = .ok (.ireturn, 1) := by decide +kernel
theorem dL_law_421 : decode cL_law 421 = .ok (.aload_n 1, 1) := by decide +kernel
theorem dL_law_422 : decode cL_law 422 = .ok (.aload_n 0, 1) := by decide +kernel
theorem dL_law_423 : decode cL_law 423 = .ok (.iload_n 3, 1) := by decide +kernel
theorem dL_law_424 : decode cL_law 424 = .ok (.iconst 1, 1) := by decide +kernel
theorem dL_law_425 : decode cL_law 425 = .ok (.iadd, 1) := by decide +kernel
theorem dL_law_426 : decode cL_law 426 = .ok (.iaload, 1) := by decide +kernel
theorem dL_law_427 : decode cL_law 427 = .ok (.invokevirtual 60, 3) := by decide +kernel
theorem dL_law_430 : decode cL_law 430 = .ok (.aload_n 2, 1) := by decide +kernel
theorem dL_law_431 : decode cL_law 431 = .ok (.aload_n 0, 1) := by decide +kernel
theorem dL_law_432 : decode cL_law 432 = .ok (.iload_n 3, 1) := by decide +kernel
theorem dL_law_433 : decode cL_law 433 = .ok (.iconst 1, 1) := by decide +kernel
theorem dL_law_434 : decode cL_law 434 = .ok (.iadd, 1) := by decide +kernel
theorem dL_law_435 : decode cL_law 435 = .ok (.iaload, 1) := by decide +kernel
theorem dL_law_436 : decode cL_law 436 = .ok (.invokevirtual 63, 3) := by decide +kernel
theorem dL_law_439 : decode cL_law 439 = .ok (.if_icmp .eq 469, 3) := by decide +kernel
theorem dL_law_442 : decode cL_law 442 = .ok (.iconst 0, 1) := by decide +kernel
theorem dL_law_443 : decode cL_law 443 = .ok (.ireturn, 1) := by decide +kernel
theorem dL_law_444 : decode cL_law 444 = .ok (.aload_n 1, 1) := by decide +kernel
theorem dL_law_445 : decode cL_law 445 = .ok (.aload_n 0, 1) := by decide +kernel
theorem dL_law_446 : decode cL_law 446 = .ok (.iload_n 3, 1) := by decide +kernel
theorem dL_law_447 : decode cL_law 447 = .ok (.iconst 1, 1) := by decide +kernel
theorem dL_law_448 : decode cL_law 448 = .ok (.iadd, 1) := by decide +kernel
theorem dL_law_449 : decode cL_law 449 = .ok (.iaload, 1) := by decide +kernel
theorem dL_law_450 : decode cL_law 450 = .ok (.invokevirtual 64, 3) := by decide +kernel
theorem dL_law_453 : decode cL_law 453 = .ok (.aload_n 2, 1) := by decide +kernel
theorem dL_law_454 : decode cL_law 454 = .ok (.aload_n 0, 1) := by decide +kernel
theorem dL_law_455 : decode cL_law 455 = .ok (.iload_n 3, 1) := by decide +kernel
theorem dL_law_456 : decode cL_law 456 = .ok (.iconst 1, 1) := by decide +kernel
theorem dL_law_457 : decode cL_law 457 = .ok (.iadd, 1) := by decide +kernel
theorem dL_law_458 : decode cL_law 458 = .ok (.iaload, 1) := by decide +kernel
theorem dL_law_459 : decode cL_law 459 = .ok (.invokevirtual 67, 3) := by decide +kernel
theorem dL_law_462 : decode cL_law 462 = .ok (.if_icmp .eq 446, 3) := by decide +kernel
theorem dL_law_465 : decode cL_law 465 = .ok (.iconst 0, 1) := by decide +kernel
theorem dL_law_466 : decode cL_law 466 = .ok (.ireturn, 1) := by decide +kernel
theorem dL_law_467 : decode cL_law 467 = .ok (.aload_n 1, 1) := by decide +kernel
theorem dL_law_468 : decode cL_law 468 = .ok (.aload_n 0, 1) := by decide +kernel
theorem dL_law_469 : decode cL_law 469 = .ok (.iload_n 3, 1) := by decide +kernel
theorem dL_law_470 : decode cL_law 470 = .ok (.iconst 1, 1) := by decide +kernel
theorem dL_law_471 : decode cL_law 471 = .ok (.iadd, 1) := by decide +kernel
theorem dL_law_472 : decode cL_law 472 = .ok (.iaload, 1) := by decide +kernel
theorem dL_law_473 : decode cL_law 473 = .ok (.invokevirtual 68, 3) := by decide +kernel
theorem dL_law_476 : decode cL_law 476 = .ok (.aload_n 2, 1) := by decide +kernel
theorem dL_law_477 : decode cL_law 477 = .ok (.aload_n 0, 1) := by decide +kernel
theorem dL_law_478 : decode cL_law 478 = .ok (.iload_n 3, 1) := by decide +kernel
theorem dL_law_479 : decode cL_law 479 = .ok (.iconst 1, 1) := by decide +kernel
theorem dL_law_480 : decode cL_law 480 = .ok (.iadd, 1) := by decide +kernel
theorem dL_law_481 : decode cL_law 481 = .ok (.iaload, 1) := by decide +kernel
theorem dL_law_482 : decode cL_law 482 = .ok (.invokevirtual 71, 3) := by decide +kernel
theorem dL_law_485 : decode cL_law 485 = .ok (.if_icmp .eq 423, 3) := by decide +kernel
theorem dL_law_488 : decode cL_law 488 = .ok (.iconst 0, 1) := by decide +kernel
theorem dL_law_489 : decode cL_law 489 = .ok (.ireturn, 1) := by decide +kernel
theorem dL_law_490 : decode cL_law 490 = .ok (.aload_n 1, 1) := by decide +kernel
theorem dL_law_491 : decode cL_law 491 = .ok (.aload_n 0, 1) := by decide +kernel
theorem dL_law_492 : decode cL_law 492 = .ok (.iload_n 3, 1) := by decide +kernel
theorem dL_law_493 : decode cL_law 493 = .ok (.iconst 1, 1) := by decide +kernel
theorem dL_law_494 : decode cL_law 494 = .ok (.iadd, 1) := by decide +kernel
theorem dL_law_495 : decode cL_law 495 = .ok (.iaload, 1) := by decide +kernel
theorem dL_law_496 : decode cL_law 496 = .ok (.aload_n 0, 1) := by decide +kernel
theorem dL_law_497 : decode cL_law 497 = .ok (.iload_n 3, 1) := by decide +kernel
theorem dL_law_498 : decode cL_law 498 = .ok (.iconst 2, 1) := by decide +kernel
theorem dL_law_499 : decode cL_law 499 = .ok (.iadd, 1) := by decide +kernel
theorem dL_law_500 : decode cL_law 500 = .ok (.iaload, 1) := by decide +kernel
theorem dL_law_501 : decode cL_law 501 = .ok (.invokevirtual 72, 3) := by decide +kernel
theorem dL_law_504 : decode cL_law 504 = .ok (.aload_n 2, 1) := by decide +kernel
theorem dL_law_505 : decode cL_law 505 = .ok (.aload_n 0, 1) := by decide +kernel
theorem dL_law_506 : decode cL_law 506 = .ok (.iload_n 3, 1) := by decide +kernel
theorem dL_law_507 : decode cL_law 507 = .ok (.iconst 1, 1) := by decide +kernel
theorem dL_law_508 : decode cL_law 508 = .ok (.iadd, 1) := by decide +kernel
theorem dL_law_509 : decode cL_law 509 = .ok (.iaload, 1) := by decide +kernel
theorem dL_law_510 : decode cL_law 510 = .ok (.aload_n 0, 1) := by decide +kernel
theorem dL_law_511 : decode cL_law 511 = .ok (.iload_n 3, 1) := by decide +kernel
theorem dL_law_512 : decode cL_law 512 = .ok (.iconst 2, 1) := by decide +kernel
theorem dL_law_513 : decode cL_law 513 = .ok (.iadd, 1) := by decide +kernel
theorem dL_law_514 : decode cL_law 514 = .ok (.iaload, 1) := by decide +kernel
theorem dL_law_515 : decode cL_law 515 = .ok (.invokevirtual 75, 3) := by decide +kernel
theorem dL_law_518 : decode cL_law 518 = .ok (.if_icmp .eq 390, 3) := by decide +kernel
theorem dL_law_521 : decode cL_law 521 = .ok (.iconst 0, 1) := by decide +kernel
theorem dL_law_522 : decode cL_law 522 = .ok (.ireturn, 1) := by decide +kernel
theorem dL_law_523 : decode cL_law 523 = .ok (.aload_n 1, 1) := by decide +kernel
theorem dL_law_524 : decode cL_law 524 = .ok (.aload_n 0, 1) := by decide +kernel
theorem dL_law_525 : decode cL_law 525 = .ok (.iload_n 3, 1) := by decide +kernel
theorem dL_law_526 : decode cL_law 526 = .ok (.iconst 1, 1) := by decide +kernel
theorem dL_law_527 : decode cL_law 527 = .ok (.iadd, 1) := by decide +kernel
theorem dL_law_528 : decode cL_law 528 = .ok (.iaload, 1) := by decide +kernel
theorem dL_law_529 : decode cL_law 529 = .ok (.aload_n 0, 1) := by decide +kernel
theorem dL_law_530 : decode cL_law 530 = .ok (.iload_n 3, 1) := by decide +kernel
theorem dL_law_531 : decode cL_law 531 = .ok (.iconst 2, 1) := by decide +kernel
theorem dL_law_532 : decode cL_law 532 = .ok (.iadd, 1) := by decide +kernel
theorem dL_law_533 : decode cL_law 533 = .ok (.iaload, 1) := by decide +kernel
theorem dL_law_534 : decode cL_law 534 = .ok (.invokevirtual 76, 3) := by decide +kernel
theorem dL_law_537 : decode cL_law 537 = .ok (.aload_n 2, 1) := by decide +kernel
theorem dL_law_538 : decode cL_law 538 = .ok (.aload_n 0, 1) := by decide +kernel
theorem dL_law_539 : decode cL_law 539 = .ok (.iload_n 3, 1) := by decide +kernel
theorem dL_law_540 : decode cL_law 540 = .ok (.iconst 1, 1) := by decide +kernel
theorem dL_law_541 : decode cL_law 541 = .ok (.iadd, 1) := by decide +kernel
theorem dL_law_542 : decode cL_law 542 = .ok (.iaload, 1) := by decide +kernel
theorem dL_law_543 : decode cL_law 543 = .ok (.aload_n 0, 1) := by decide +kernel
theorem dL_law_544 : decode cL_law 544 = .ok (.iload_n 3, 1) := by decide +kernel
theorem dL_law_545 : decode cL_law 545 = .ok (.iconst 2, 1) := by decide +kernel
theorem dL_law_546 : decode cL_law 546 = .ok (.iadd, 1) := by decide +kernel
theorem dL_law_547 : decode cL_law 547 = .ok (.iaload, 1) := by decide +kernel
theorem dL_law_548 : decode cL_law 548 = .ok (.invokevirtual 79, 3) := by decide +kernel
theorem dL_law_551 : decode cL_law 551 = .ok (.if_icmp .eq 357, 3) := by decide +kernel
theorem dL_law_554 : decode cL_law 554 = .ok (.iconst 0, 1) := by decide +kernel
theorem dL_law_555 : decode cL_law 555 = .ok (.ireturn, 1) := by decide +kernel
theorem dL_law_556 : decode cL_law 556 = .ok (.aload_n 1, 1) := by decide +kernel
theorem dL_law_557 : decode cL_law 557 = .ok (.aload_n 0, 1) := by decide +kernel
theorem dL_law_558 : decode cL_law 558 = .ok (.iload_n 3, 1) := by decide +kernel
theorem dL_law_559 : decode cL_law 559 = .ok (.iconst 1, 1) := by decide +kernel
theorem dL_law_560 : decode cL_law 560 = .ok (.iadd, 1) := by decide +kernel
theorem dL_law_561 : decode cL_law 561 = .ok (.iaload, 1) := by decide +kernel
theorem dL_law_562 : decode cL_law 562 = .ok (.aload_n 0, 1) := by decide +kernel
theorem dL_law_563 : decode cL_law 563 = .ok (.iload_n 3, 1) := by decide +kernel
theorem dL_law_564 : decode cL_law 564 = .ok (.iconst 2, 1) := by decide +kernel
theorem dL_law_565 : decode cL_law 565 = .ok (.iadd, 1) := by decide +kernel
theorem dL_law_566 : decode cL_law 566 = .ok (.iaload, 1) := by decide +kernel
theorem dL_law_567 : decode cL_law 567 = .ok (.invokevirtual 80, 3) := by decide +kernel
theorem dL_law_570 : decode cL_law 570 = .ok (.aload_n 2, 1) := by decide +kernel
theorem dL_law_571 : decode cL_law 571 = .ok (.aload_n 0, 1) := by decide +kernel
theorem dL_law_572 : decode cL_law 572 = .ok (.iload_n 3, 1) := by decide +kernel
theorem dL_law_573 : decode cL_law 573 = .ok (.iconst 1, 1) := by decide +kernel
theorem dL_law_574 : decode cL_law 574 = .ok (.iadd, 1) := by decide +kernel
theorem dL_law_575 : decode cL_law 575 = .ok (.iaload, 1) := by decide +kernel
theorem dL_law_576 : decode cL_law 576 = .ok (.aload_n 0, 1) := by decide +kernel
theorem dL_law_577 : decode cL_law 577 = .ok (.iload_n 3, 1) := by decide +kernel
theorem dL_law_578 : decode cL_law 578 = .ok (.iconst 2, 1) := by decide +kernel
theorem dL_law_579 : decode cL_law 579 = .ok (.iadd, 1) := by decide +kernel
theorem dL_law_580 : decode cL_law 580 = .ok (.iaload, 1) := by decide +kernel
theorem dL_law_581 : decode cL_law 581 = .ok (.invokevirtual 83, 3) := by decide +kernel
theorem dL_law_584 : decode cL_law 584 = .ok (.if_icmp .eq 324, 3) := by decide +kernel
theorem dL_law_587 : decode cL_law 587 = .ok (.iconst 0, 1) := by decide +kernel
theorem dL_law_588 : decode cL_law 588 = .ok (.ireturn, 1) := by decide +kernel
theorem dL_law_589 : decode cL_law 589 = .ok (.aload_n 1, 1) := by decide +kernel
theorem dL_law_590 : decode cL_law 590 = .ok (.aload_n 0, 1) := by decide +kernel
theorem dL_law_591 : decode cL_law 591 = .ok (.iload_n 3, 1) := by decide +kernel
theorem dL_law_592 : decode cL_law 592 = .ok (.iconst 1, 1) := by decide +kernel
theorem dL_law_593 : decode cL_law 593 = .ok (.iadd, 1) := by decide +kernel
theorem dL_law_594 : decode cL_law 594 = .ok (.iaload, 1) := by decide +kernel
theorem dL_law_595 : decode cL_law 595 = .ok (.invokevirtual 84, 3) := by decide +kernel
theorem dL_law_598 : decode cL_law 598 = .ok (.aload_n 2, 1) := by decide +kernel
theorem dL_law_599 : decode cL_law 599 = .ok (.aload_n 0, 1) := by decide +kernel
theorem dL_law_600 : decode cL_law 600 = .ok (.iload_n 3, 1) := by decide +kernel
theorem dL_law_601 : decode cL_law 601 = .ok (.iconst 1, 1) := by decide +kernel
theorem dL_law_602 : decode cL_law 602 = .ok (.iadd, 1) := by decide +kernel
theorem dL_law_603 : decode cL_law 603 = .ok (.iaload, 1) := by decide +kernel
theorem dL_law_604 : decode cL_law 604 = .ok (.invokevirtual 87, 3) := by decide +kernel
theorem dL_law_607 : decode cL_law 607 = .ok (.if_icmp .eq 301, 3) := by decide +kernel
theorem dL_law_610 : decode cL_law 610 = .ok (.iconst 0, 1) := by decide +kernel
theorem dL_law_611 : decode cL_law 611 = .ok (.ireturn, 1) := by decide +kernel
theorem dL_law_612 : decode cL_law 612 = .ok (.aload_n 1, 1) := by decide +kernel
theorem dL_law_613 : decode cL_law 613 = .ok (.aload_n 0, 1) := by decide +kernel
theorem dL_law_614 : decode cL_law 614 = .ok (.iload_n 3, 1) := by decide +kernel
theorem dL_law_615 : decode cL_law 615 = .ok (.iconst 1, 1) := by decide +kernel
theorem dL_law_616 : decode cL_law 616 = .ok (.iadd, 1) := by decide +kernel
theorem dL_law_617 : decode cL_law 617 = .ok (.iaload, 1) := by decide +kernel
theorem dL_law_618 : decode cL_law 618 = .ok (.invokevirtual 88, 3) := by decide +kernel
theorem dL_law_621 : decode cL_law 621 = .ok (.aload_n 2, 1) := by decide +kernel
theorem dL_law_622 : decode cL_law 622 = .ok (.aload_n 0, 1) := by decide +kernel
theorem dL_law_623 : decode cL_law 623 = .ok (.iload_n 3, 1) := by decide +kernel
theorem dL_law_624 : decode cL_law 624 = .ok (.iconst 1, 1) := by decide +kernel
theorem dL_law_625 : decode cL_law 625 = .ok (.iadd, 1) := by decide +kernel
theorem dL_law_626 : decode cL_law 626 = .ok (.iaload, 1) := by decide +kernel
theorem dL_law_627 : decode cL_law 627 = .ok (.invokevirtual 91, 3) := by decide +kernel
theorem dL_law_630 : decode cL_law 630 = .ok (.if_icmp .eq 278, 3) := by decide +kernel
theorem dL_law_633 : decode cL_law 633 = .ok (.iconst 0, 1) := by decide +kernel
theorem dL_law_634 : decode cL_law 634 = .ok (.ireturn, 1) := by decide +kernel
theorem dL_law_635 : decode cL_law 635 = .ok (.aload_n 1, 1) := by decide +kernel
theorem dL_law_636 : decode cL_law 636 = .ok (.aload_n 0, 1) := by decide +kernel
theorem dL_law_637 : decode cL_law 637 = .ok (.iload_n 3, 1) := by decide +kernel
theorem dL_law_638 : decode cL_law 638 = .ok (.iconst 1, 1) := by decide +kernel
theorem dL_law_639 : decode cL_law 639 = .ok (.iadd, 1) := by decide +kernel
theorem dL_law_640 : decode cL_law 640 = .ok (.iaload, 1) := by decide +kernel
theorem dL_law_641 : decode cL_law 641 = .ok (.invokevirtual 92, 3) := by decide +kernel
theorem dL_law_644 : decode cL_law 644 = .ok (.aload_n 2, 1) := by decide +kernel
theorem dL_law_645 : decode cL_law 645 = .ok (.aload_n 0, 1) := by decide +kernel
theorem dL_law_646 : decode cL_law 646 = .ok (.iload_n 3, 1) := by decide +kernel
theorem dL_law_647 : decode cL_law 647 = .ok (.iconst 1, 1) := by decide +kernel
theorem dL_law_648 : decode cL_law 648 = .ok (.iadd, 1) := by decide +kernel
theorem dL_law_649 : decode cL_law 649 = .ok (.iaload, 1) := by decide +kernel
theorem dL_law_650 : decode cL_law 650 = .ok (.invokevirtual 95, 3) := by decide +kernel
theorem dL_law_653 : decode cL_law 653 = .ok (.if_icmp .eq 255, 3) := by decide +kernel
theorem dL_law_656 : decode cL_law 656 = .ok (.iconst 0, 1) := by decide +kernel
theorem dL_law_657 : decode cL_law 657 = .ok (.ireturn, 1) := by decide +kernel
theorem dL_law_658 : decode cL_law 658 = .ok (.aload_n 1, 1) := by decide +kernel
theorem dL_law_659 : decode cL_law 659 = .ok (.aload_n 0, 1) := by decide +kernel
theorem dL_law_660 : decode cL_law 660 = .ok (.iload_n 3, 1) := by decide +kernel
theorem dL_law_661 : decode cL_law 661 = .ok (.iconst 1, 1) := by decide +kernel
theorem dL_law_662 : decode cL_law 662 = .ok (.iadd, 1) := by decide +kernel
theorem dL_law_663 : decode cL_law 663 = .ok (.iaload, 1) := by decide +kernel
theorem dL_law_664 : decode cL_law 664 = .ok (.aload_n 0, 1) := by decide +kernel
theorem dL_law_665 : decode cL_law 665 = .ok (.iload_n 3, 1) := by decide +kernel
theorem dL_law_666 : decode cL_law 666 = .ok (.iconst 2, 1) := by decide +kernel
theorem dL_law_667 : decode cL_law 667 = .ok (.iadd, 1) := by decide +kernel
theorem dL_law_668 : decode cL_law 668 = .ok (.iaload, 1) := by decide +kernel
theorem dL_law_669 : decode cL_law 669 = .ok (.invokevirtual 96, 3) := by decide +kernel
theorem dL_law_672 : decode cL_law 672 = .ok (.aload_n 2, 1) := by decide +kernel
theorem dL_law_673 : decode cL_law 673 = .ok (.aload_n 0, 1) := by decide +kernel
theorem dL_law_674 : decode cL_law 674 = .ok (.iload_n 3, 1) := by decide +kernel
theorem dL_law_675 : decode cL_law 675 = .ok (.iconst 1, 1) := by decide +kernel
theorem dL_law_676 : decode cL_law 676 = .ok (.iadd, 1) := by decide +kernel
theorem dL_law_677 : decode cL_law 677 = .ok (.iaload, 1) := by decide +kernel
theorem dL_law_678 : decode cL_law 678 = .ok (.aload_n 0, 1) := by decide +kernel
theorem dL_law_679 : decode cL_law 679 = .ok (.iload_n 3, 1) := by decide +kernel
theorem dL_law_680 : decode cL_law 680 = .ok (.iconst 2, 1) := by decide +kernel
theorem dL_law_681 : decode cL_law 681 = .ok (.iadd, 1) := by decide +kernel
theorem dL_law_682 : decode cL_law 682 = .ok (.iaload, 1) := by decide +kernel
theorem dL_law_683 : decode cL_law 683 = .ok (.invokevirtual 99, 3) := by decide +kernel
theorem dL_law_686 : decode cL_law 686 = .ok (.if_icmp .eq 222, 3) := by decide +kernel
theorem dL_law_689 : decode cL_law 689 = .ok (.iconst 0, 1) := by decide +kernel
theorem dL_law_690 : decode cL_law 690 = .ok (.ireturn, 1) := by decide +kernel
theorem dL_law_691 : decode cL_law 691 = .ok (.aload_n 1, 1) := by decide +kernel
theorem dL_law_692 : decode cL_law 692 = .ok (.aload_n 0, 1) := by decide +kernel
theorem dL_law_693 : decode cL_law 693 = .ok (.iload_n 3, 1) := by decide +kernel
theorem dL_law_694 : decode cL_law 694 = .ok (.iconst 1, 1) := by decide +kernel
theorem dL_law_695 : decode cL_law 695 = .ok (.iadd, 1) := by decide +kernel
theorem dL_law_696 : decode cL_law 696 = .ok (.iaload, 1) := by decide +kernel
theorem dL_law_697 : decode cL_law 697 = .ok (.aload_n 0, 1) := by decide +kernel
theorem dL_law_698 : decode cL_law 698 = .ok (.iload_n 3, 1) := by decide +kernel
theorem dL_law_699 : decode cL_law 699 = .ok (.iconst 2, 1) := by decide +kernel
theorem dL_law_700 : decode cL_law 700 = .ok (.iadd, 1) := by decide +kernel
theorem dL_law_701 : decode cL_law 701 = .ok (.iaload, 1) := by decide +kernel
theorem dL_law_702 : decode cL_law 702 = .ok (.invokevirtual 100, 3) := by decide +kernel
theorem dL_law_705 : decode cL_law 705 = .ok (.aload_n 2, 1) := by decide +kernel
theorem dL_law_706 : decode cL_law 706 = .ok (.aload_n 0, 1) := by decide +kernel
theorem dL_law_707 : decode cL_law 707 = .ok (.iload_n 3, 1) := by decide +kernel
theorem dL_law_708 : decode cL_law 708 = .ok (.iconst 1, 1) := by decide +kernel
theorem dL_law_709 : decode cL_law 709 = .ok (.iadd, 1) := by decide +kernel
theorem dL_law_710 : decode cL_law 710 = .ok (.iaload, 1) := by decide +kernel
theorem dL_law_711 : decode cL_law 711 = .ok (.aload_n 0, 1) := by decide +kernel
theorem dL_law_712 : decode cL_law 712 = .ok (.iload_n 3, 1) := by decide +kernel
theorem dL_law_713 : decode cL_law 713 = .ok (.iconst 2, 1) := by decide +kernel
theorem dL_law_714 : decode cL_law 714 = .ok (.iadd, 1) := by decide +kernel
theorem dL_law_715 : decode cL_law 715 = .ok (.iaload, 1) := by decide +kernel
theorem dL_law_716 : decode cL_law 716 = .ok (.invokevirtual 103, 3) := by decide +kernel
theorem dL_law_719 : decode cL_law 719 = .ok (.if_icmp .eq 189, 3) := by decide +kernel
theorem dL_law_722 : decode cL_law 722 = .ok (.iconst 0, 1) := by decide +kernel
theorem dL_law_723 : decode cL_law 723 = .ok (.ireturn, 1) := by decide +kernel
theorem dL_law_724 : decode cL_law 724 = .ok (.aload_n 1, 1) := by decide +kernel
theorem dL_law_725 : decode cL_law 725 = .ok (.aload_n 0, 1) := by decide +kernel
theorem dL_law_726 : decode cL_law 726 = .ok (.iload_n 3, 1) := by decide +kernel
theorem dL_law_727 : decode cL_law 727 = .ok (.iconst 1, 1) := by decide +kernel
theorem dL_law_728 : decode cL_law 728 = .ok (.iadd, 1) := by decide +kernel
theorem dL_law_729 : decode cL_law 729 = .ok (.iaload, 1) := by decide +kernel
theorem dL_law_730 : decode cL_law 730 = .ok (.aload_n 0, 1) := by decide +kernel
theorem dL_law_731 : decode cL_law 731 = .ok (.iload_n 3, 1) := by decide +kernel
theorem dL_law_732 : decode cL_law 732 = .ok (.iconst 2, 1) := by decide +kernel
theorem dL_law_733 : decode cL_law 733 = .ok (.iadd, 1) := by decide +kernel
theorem dL_law_734 : decode cL_law 734 = .ok (.iaload, 1) := by decide +kernel
theorem dL_law_735 : decode cL_law 735 = .ok (.invokevirtual 104, 3) := by decide +kernel
theorem dL_law_738 : decode cL_law 738 = .ok (.aload_n 2, 1) := by decide +kernel
theorem dL_law_739 : decode cL_law 739 = .ok (.aload_n 0, 1) := by decide +kernel
theorem dL_law_740 : decode cL_law 740 = .ok (.iload_n 3, 1) := by decide +kernel
theorem dL_law_741 : decode cL_law 741 = .ok (.iconst 1, 1) := by decide +kernel
theorem dL_law_742 : decode cL_law 742 = .ok (.iadd, 1) := by decide +kernel
theorem dL_law_743 : decode cL_law 743 = .ok (.iaload, 1) := by decide +kernel
theorem dL_law_744 : decode cL_law 744 = .ok (.aload_n 0, 1) := by decide +kernel
theorem dL_law_745 : decode cL_law 745 = .ok (.iload_n 3, 1) := by decide +kernel
theorem dL_law_746 : decode cL_law 746 = .ok (.iconst 2, 1) := by decide +kernel
theorem dL_law_747 : decode cL_law 747 = .ok (.iadd, 1) := by decide +kernel
theorem dL_law_748 : decode cL_law 748 = .ok (.iaload, 1) := by decide +kernel
theorem dL_law_749 : decode cL_law 749 = .ok (.invokevirtual 107, 3) := by decide +kernel
theorem dL_law_752 : decode cL_law 752 = .ok (.if_icmp .eq 156, 3) := by decide +kernel
theorem dL_law_755 : decode cL_law 755 = .ok (.iconst 0, 1) := by decide +kernel
theorem dL_law_756 : decode cL_law 756 = .ok (.ireturn, 1) := by decide +kernel
theorem dL_law_757 : decode cL_law 757 = .ok (.aload_n 1, 1) := by decide +kernel
theorem dL_law_758 : decode cL_law 758 = .ok (.aload_n 0, 1) := by decide +kernel
theorem dL_law_759 : decode cL_law 759 = .ok (.iload_n 3, 1) := by decide +kernel
theorem dL_law_760 : decode cL_law 760 = .ok (.iconst 1, 1) := by decide +kernel
theorem dL_law_761 : decode cL_law 761 = .ok (.iadd, 1) := by decide +kernel
theorem dL_law_762 : decode cL_law 762 = .ok (.iaload, 1) := by decide +kernel
theorem dL_law_763 : decode cL_law 763 = .ok (.invokevirtual 108, 3) := by decide +kernel
theorem dL_law_766 : decode cL_law 766 = .ok (.aload_n 2, 1) := by decide +kernel
theorem dL_law_767 : decode cL_law 767 = .ok (.aload_n 0, 1) := by decide +kernel
theorem dL_law_768 : decode cL_law 768 = .ok (.iload_n 3, 1) := by decide +kernel
theorem dL_law_769 : decode cL_law 769 = .ok (.iconst 1, 1) := by decide +kernel
theorem dL_law_770 : decode cL_law 770 = .ok (.iadd, 1) := by decide +kernel
theorem dL_law_771 : decode cL_law 771 = .ok (.iaload, 1) := by decide +kernel
theorem dL_law_772 : decode cL_law 772 = .ok (.invokevirtual 111, 3) := by decide +kernel
theorem dL_law_775 : decode cL_law 775 = .ok (.if_icmp .eq 133, 3) := by decide +kernel
theorem dL_law_778 : decode cL_law 778 = .ok (.iconst 0, 1) := by decide +kernel
theorem dL_law_779 : decode cL_law 779 = .ok (.ireturn, 1) := by decide +kernel
theorem dL_law_780 : decode cL_law 780 = .ok (.aload_n 1, 1) := by decide +kernel
theorem dL_law_781 : decode cL_law 781 = .ok (.aload_n 0, 1) := by decide +kernel
theorem dL_law_782 : decode cL_law 782 = .ok (.iload_n 3, 1) := by decide +kernel
theorem dL_law_783 : decode cL_law 783 = .ok (.iconst 1, 1) := by decide +kernel
theorem dL_law_784 : decode cL_law 784 = .ok (.iadd, 1) := by decide +kernel
theorem dL_law_785 : decode cL_law 785 = .ok (.iaload, 1) := by decide +kernel
theorem dL_law_786 : decode cL_law 786 = .ok (.invokevirtual 112, 3) := by decide +kernel
theorem dL_law_789 : decode cL_law 789 = .ok (.aload_n 2, 1) := by decide +kernel
theorem dL_law_790 : decode cL_law 790 = .ok (.aload_n 0, 1) := by decide +kernel
theorem dL_law_791 : decode cL_law 791 = .ok (.iload_n 3, 1) := by decide +kernel
theorem dL_law_792 : decode cL_law 792 = .ok (.iconst 1, 1) := by decide +kernel
theorem dL_law_793 : decode cL_law 793 = .ok (.iadd, 1) := by decide +kernel
theorem dL_law_794 : decode cL_law 794 = .ok (.iaload, 1) := by decide +kernel
theorem dL_law_795 : decode cL_law 795 = .ok (.invokevirtual 115, 3) := by decide +kernel
theorem dL_law_798 : decode cL_law 798 = .ok (.if_icmp .eq 110, 3) := by decide +kernel
theorem dL_law_801 : decode cL_law 801 = .ok (.iconst 0, 1) := by decide +kernel
theorem dL_law_802 : decode cL_law 802 = .ok (.ireturn, 1) := by decide +kernel
theorem dL_law_803 : decode cL_law 803 = .ok (.aload_n 1, 1) := by decide +kernel
theorem dL_law_804 : decode cL_law 804 = .ok (.aload_n 0, 1) := by decide +kernel
theorem dL_law_805 : decode cL_law 805 = .ok (.iload_n 3, 1) := by decide +kernel
theorem dL_law_806 : decode cL_law 806 = .ok (.iconst 1, 1) := by decide +kernel
theorem dL_law_807 : decode cL_law 807 = .ok (.iadd, 1) := by decide +kernel
theorem dL_law_808 : decode cL_law 808 = .ok (.iaload, 1) := by decide +kernel
theorem dL_law_809 : decode cL_law 809 = .ok (.invokevirtual 116, 3) := by decide +kernel
theorem dL_law_812 : decode cL_law 812 = .ok (.aload_n 2, 1) := by decide +kernel
theorem dL_law_813 : decode cL_law 813 = .ok (.aload_n 0, 1) := by decide +kernel
theorem dL_law_814 : decode cL_law 814 = .ok (.iload_n 3, 1) := by decide +kernel
theorem dL_law_815 : decode cL_law 815 = .ok (.iconst 1, 1) := by decide +kernel
theorem dL_law_816 : decode cL_law 816 = .ok (.iadd, 1) := by decide +kernel
theorem dL_law_817 : decode cL_law 817 = .ok (.iaload, 1) := by decide +kernel
theorem dL_law_818 : decode cL_law 818 = .ok (.invokevirtual 119, 3) := by decide +kernel
theorem dL_law_821 : decode cL_law 821 = .ok (.if_icmp .eq 87, 3) := by decide +kernel
theorem dL_law_824 : decode cL_law 824 = .ok (.iconst 0, 1) := by decide +kernel
theorem dL_law_825 : decode cL_law 825 = .ok (.ireturn, 1) := by decide +kernel
theorem dL_law_826 : decode cL_law 826 = .ok (.aload_n 1, 1) := by decide +kernel
theorem dL_law_827 : decode cL_law 827 = .ok (.invokevirtual 120, 3) := by decide +kernel
theorem dL_law_830 : decode cL_law 830 = .ok (.aload_n 2, 1) := by decide +kernel
theorem dL_law_831 : decode cL_law 831 = .ok (.invokevirtual 123, 3) := by decide +kernel
theorem dL_law_834 : decode cL_law 834 = .ok (.if_icmp .eq 74, 3) := by decide +kernel
theorem dL_law_837 : decode cL_law 837 = .ok (.iconst 0, 1) := by decide +kernel
theorem dL_law_838 : decode cL_law 838 = .ok (.ireturn, 1) := by decide +kernel
theorem dL_law_839 : decode cL_law 839 = .ok (.aload_n 1, 1) := by decide +kernel
theorem dL_law_840 : decode cL_law 840 = .ok (.aload_n 0, 1) := by decide +kernel
theorem dL_law_841 : decode cL_law 841 = .ok (.iload_n 3, 1) := by decide +kernel
theorem dL_law_842 : decode cL_law 842 = .ok (.iconst 1, 1) := by decide +kernel
theorem dL_law_843 : decode cL_law 843 = .ok (.iadd, 1) := by decide +kernel
theorem dL_law_844 : decode cL_law 844 = .ok (.iaload, 1) := by decide +kernel
theorem dL_law_845 : decode cL_law 845 = .ok (.invokevirtual 124, 3) := by decide +kernel
theorem dL_law_848 : decode cL_law 848 = .ok (.aload_n 2, 1) := by decide +kernel
theorem dL_law_849 : decode cL_law 849 = .ok (.aload_n 0, 1) := by decide +kernel
theorem dL_law_850 : decode cL_law 850 = .ok (.iload_n 3, 1) := by decide +kernel
theorem dL_law_851 : decode cL_law 851 = .ok (.iconst 1, 1) := by decide +kernel
theorem dL_law_852 : decode cL_law 852 = .ok (.iadd, 1) := by decide +kernel
theorem dL_law_853 : decode cL_law 853 = .ok (.iaload, 1) := by decide +kernel
theorem dL_law_854 : decode cL_law 854 = .ok (.invokevirtual 127, 3) := by decide +kernel
theorem dL_law_857 : decode cL_law 857 = .ok (.if_icmp .eq 51, 3) := by decide +kernel
theorem dL_law_860 : decode cL_law 860 = .ok (.iconst 0, 1) := by decide +kernel
theorem dL_law_861 : decode cL_law 861 = .ok (.ireturn, 1) := by decide +kernel
theorem dL_law_862 : decode cL_law 862 = .ok (.aload_n 1, 1) := by decide +kernel
theorem dL_law_863 : decode cL_law 863 = .ok (.aload_n 0, 1) := by decide +kernel
theorem dL_law_864 : decode cL_law 864 = .ok (.iload_n 3, 1) := by decide +kernel
theorem dL_law_865 : decode cL_law 865 = .ok (.iconst 1, 1) := by decide +kernel
theorem dL_law_866 : decode cL_law 866 = .ok (.iadd, 1) := by decide +kernel
theorem dL_law_867 : decode cL_law 867 = .ok (.iaload, 1) := by decide +kernel
theorem dL_law_868 : decode cL_law 868 = .ok (.invokevirtual 128, 3) := by decide +kernel
theorem dL_law_871 : decode cL_law 871 = .ok (.aload_n 2, 1) := by decide +kernel
theorem dL_law_872 : decode cL_law 872 = .ok (.aload_n 0, 1) := by decide +kernel
theorem dL_law_873 : decode cL_law 873 = .ok (.iload_n 3, 1) := by decide +kernel
theorem dL_law_874 : decode cL_law 874 = .ok (.iconst 1, 1) := by decide +kernel
theorem dL_law_875 : decode cL_law 875 = .ok (.iadd, 1) := by decide +kernel
theorem dL_law_876 : decode cL_law 876 = .ok (.iaload, 1) := by decide +kernel
theorem dL_law_877 : decode cL_law 877 = .ok (.invokevirtual 131, 3) := by decide +kernel
theorem dL_law_880 : decode cL_law 880 = .ok (.if_icmp .eq 28, 3) := by decide +kernel
theorem dL_law_883 : decode cL_law 883 = .ok (.iconst 0, 1) := by decide +kernel
theorem dL_law_884 : decode cL_law 884 = .ok (.ireturn, 1) := by decide +kernel
theorem dL_law_885 : decode cL_law 885 = .ok (.aload_n 1, 1) := by decide +kernel
theorem dL_law_886 : decode cL_law 886 = .ok (.aload_n 0, 1) := by decide +kernel
theorem dL_law_887 : decode cL_law 887 = .ok (.iload_n 3, 1) := by decide +kernel
theorem dL_law_888 : decode cL_law 888 = .ok (.iconst 1, 1) := by decide +kernel
theorem dL_law_889 : decode cL_law 889 = .ok (.iadd, 1) := by decide +kernel
theorem dL_law_890 : decode cL_law 890 = .ok (.iaload, 1) := by decide +kernel
theorem dL_law_891 : decode cL_law 891 = .ok (.invokevirtual 132, 3) := by decide +kernel
theorem dL_law_894 : decode cL_law 894 = .ok (.aload_n 2, 1) := by decide +kernel
theorem dL_law_895 : decode cL_law 895 = .ok (.aload_n 0, 1) := by decide +kernel
theorem dL_law_896 : decode cL_law 896 = .ok (.iload_n 3, 1) := by decide +kernel
theorem dL_law_897 : decode cL_law 897 = .ok (.iconst 1, 1) := by decide +kernel
theorem dL_law_898 : decode cL_law 898 = .ok (.iadd, 1) := by decide +kernel
theorem dL_law_899 : decode cL_law 899 = .ok (.iaload, 1) := by decide +kernel
theorem dL_law_900 : decode cL_law 900 = .ok (.invokevirtual 135, 3) := by decide +kernel
theorem dL_law_903 : decode cL_law 903 = .ok (.if_icmp .eq 5, 3) := by decide +kernel
theorem dL_law_906 : decode cL_law 906 = .ok (.iconst 0, 1) := by decide +kernel
theorem dL_law_907 : decode cL_law 907 = .ok (.ireturn, 1) := by decide +kernel
theorem dL_law_908 : decode cL_law 908 = .ok (.iinc 3 3, 3) := by decide +kernel
theorem dL_law_911 : decode cL_law 911 = .ok (.goto (-893), 3) := by decide +kernel
theorem dL_law_914 : decode cL_law 914 = .ok (.iconst 1, 1) := by decide +kernel
theorem dL_law_915 : decode cL_law 915 = .ok (.ireturn, 1) := by decide +kernel
end
section
/-! ===== numbers: ints and longs of the machine as whole numbers ===== -/
def iI (z : Int) : Int32 := Int32.ofInt z
def iL (z : Int) : Int64 := Int64.ofInt z
def inR (z : Int) : Prop := -2147483648 ≤ z ∧ z ≤ 2147483647
def inL (z : Int) : Prop := -9223372036854775808 ≤ z ∧ z ≤ 9223372036854775807
theorem iI_toInt {z : Int} (h : inR z) : (iI z).toInt = z := Int32.toInt_ofInt_of_le (by have := h.1; omega) (by have := h.2; omega)
theorem iL_toInt {z : Int} (h : inL z) : (iL z).toInt = z := Int64.toInt_ofInt_of_le (by have := h.1; omega) (by have := h.2; omega)
theorem iI_of (x : Int32) : iI x.toInt = x := Int32.ofInt_toInt x
theorem iL_of (x : Int64) : iL x.toInt = x := Int64.ofInt_toInt x
theorem inR_of (x : Int32) : inR x.toInt := ⟨by have := Int32.le_toInt x; omega, by have := Int32.toInt_lt x; omega⟩
theorem inL_of (x : Int64) : inL x.toInt := ⟨by have := Int64.le_toInt x; omega, by have := Int64.toInt_lt x; omega⟩
theorem iI_add (a b : Int) : iI a + iI b = iI (a + b) := (Int32.ofInt_add a b).symm
theorem iI_sub (a b : Int) : iI a - iI b = iI (a - b) := (Int32.ofInt_sub a b).symm
theorem iI_mul (a b : Int) : iI a * iI b = iI (a * b) := (Int32.ofInt_mul a b).symm
theorem iI_neg (a : Int) : - iI a = iI (-a) := (Int32.ofInt_neg a).symm
theorem iL_add (a b : Int) : iL a + iL b = iL (a + b) := (Int64.ofInt_add a b).symm
theorem iL_mul (a b : Int) : iL a * iL b = iL (a * b) := (Int64.ofInt_mul a b).symm
theorem iI_lt {a b : Int} (ha : inR a) (hb : inR b) : iI a < iI b ↔ a < b := by rw [Int32.lt_iff_toInt_lt, iI_toInt ha, iI_toInt hb]
theorem iI_le {a b : Int} (ha : inR a) (hb : inR b) : iI a ≤ iI b ↔ a ≤ b := by rw [Int32.le_iff_toInt_le, iI_toInt ha, iI_toInt hb]
theorem iI_eq {a b : Int} (ha : inR a) (hb : inR b) : iI a = iI b ↔ a = b := ⟨fun h => by rw [← iI_toInt ha, ← iI_toInt hb, h], fun h => h ▸ rfl⟩
theorem inR_0 : inR 0 := ⟨by decide, by decide⟩
theorem iI_0 : (0 : Int32) = iI 0 := rfl
theorem iI_div {a b : Int} (ha : inR a) (hb : inR b) : iI a / iI b = iI (a.tdiv b) := (Int32.ofInt_tdiv ha.1 ha.2 hb.1 hb.2).symm
theorem iI_rem {a b : Int} (ha : inR a) (hb : inR b) : iI a - iI a / iI b * iI b = iI (a.tmod b) := by
  rw [iI_div ha hb, iI_mul, iI_sub]
  congr 1
  have := Int.tmod_def a b
  rw [this, Int.mul_comm]
theorem iL_div {a b : Int} (ha : inL a) (hb : inL b) : iL a / iL b = iL (a.tdiv b) := (Int64.ofInt_tdiv ha.1 ha.2 hb.1 hb.2).symm
theorem iL_sub (a b : Int) : iL a - iL b = iL (a - b) := (Int64.ofInt_sub a b).symm
theorem iL_rem {a b : Int} (ha : inL a) (hb : inL b) : iL a - iL a / iL b * iL b = iL (a.tmod b) := by
  rw [iL_div ha hb, iL_mul, iL_sub]
  congr 1
  have := Int.tmod_def a b
  rw [this, Int.mul_comm]
theorem iI_i2l {a : Int} (ha : inR a) : (iI a).toInt64 = iL a := Int32.toInt64_ofInt ha.1 ha.2
theorem iL_l2i (a : Int) : (iL a).toInt32 = iI a := Int64.toInt32_ofInt
theorem iI_nz {b : Int} (hb : inR b) (h : b ≠ 0) : ¬ iI b = 0 := fun q => h ((iI_eq hb inR_0).mp q)
theorem iL_nz {b : Int} (hb : inL b) (h : b ≠ 0) : ¬ iL b = 0 := fun q => h (by rw [← iL_toInt hb, q]; rfl)
theorem iL_lt {a b : Int} (ha : inL a) (hb : inL b) : iL a < iL b ↔ a < b := by rw [Int64.lt_iff_toInt_lt, iL_toInt ha, iL_toInt hb]
theorem iL_eq {a b : Int} (ha : inL a) (hb : inL b) : iL a = iL b ↔ a = b := ⟨fun h => by rw [← iL_toInt ha, ← iL_toInt hb, h], fun h => h ▸ rfl⟩
def zand (a b : Int) : Int := (iI a &&& iI b).toInt
def zor (a b : Int) : Int := (iI a ||| iI b).toInt
def zxor (a b : Int) : Int := (iI a ^^^ iI b).toInt
def zshl (a b : Int) : Int := (iI a <<< (iI b &&& 31)).toInt
def zshr (a b : Int) : Int := (iI a >>> (iI b &&& 31)).toInt
def zushr (a b : Int) : Int := (((iI a).toUInt32 >>> ((iI b).toUInt32 &&& Int32.toUInt32 31)).toInt32).toInt
def yand (a b : Int) : Int := (iL a &&& iL b).toInt
def yor (a b : Int) : Int := (iL a ||| iL b).toInt
def yshl (a b : Int) : Int := (iL a <<< ((iI b).toInt64 &&& 63)).toInt
def yshr (a b : Int) : Int := (iL a >>> ((iI b).toInt64 &&& 63)).toInt
theorem iI_in {z : Int} {n : Nat} (h0 : 0 ≤ z) (h1 : z < (n : Int)) (hn : n ≤ 1000000) : vp_in (iI z) n := by
  rw [vp_in_iff, iI_toInt ⟨by omega, by omega⟩]
  exact ⟨h0, h1⟩
theorem iI_cl {z : Int} (h0 : 0 ≤ z) (h1 : z ≤ 2147483647) : (iI z).toNatClampNeg = z.toNat := by
  show (iI z).toInt.toNat = z.toNat
  rw [iI_toInt ⟨by omega, h1⟩]
/-! ===== the state: cells by number, places in a cell by number ===== -/
abbrev Mem : Type := Nat → Nat → Int
def up1 (r : Nat → Int) (k : Nat) (v : Int) : Nat → Int := fun j => if j = k then v else r j
def upr (σ : Mem) (c : Nat) (r : Nat → Int) : Mem := fun d => if d = c then r else σ d
def up2 (σ : Mem) (c k : Nat) (v : Int) : Mem := upr σ c (up1 (σ c) k v)
def tb : List Cond := lw_tbl.filter goodWord
theorem tb_in {w : Cond} (i : Nat) (h : lw_tbl[i]? = some w) (g : goodWord w = true) : w ∈ tb := List.mem_filter.mpr ⟨List.mem_of_getElem? h, g⟩
theorem tb_ws {ws : List Cond} (ps : List Nat) (hp : ws = ps.filterMap (fun i => lw_tbl[i]?)) (h : ws.all goodWord = true) : ∀ w ∈ ws, w ∈ tb := by
  intro w hw
  have h1 := List.all_eq_true.mp h w hw
  rw [hp] at hw
  obtain ⟨i, -, hi⟩ := List.mem_filterMap.mp hw
  exact tb_in i hi h1
abbrev wSh : Type := (Nat × Nat) ⊕ (Nat × List Nat)
def wcl : List vw_C := [(RX0, TX0, 10), (RX1, TX1, 2), (RX2, TX2, 4), (RX3, TX3, 9), (RX4, TX4, 4), (RX5, TX5, 4), (RX6, TX6, 9), (RX7, TX7, 3), (RX8, TX8, 4), (RX9, TX9, 6), (RX10, TX10, 5), (RX11, TX11, 13), (RX12, TX12, 27)]
def wV (ad : Nat → Nat) (kd : Nat) (z : Int) : Value := match kd with
  | 0 => .int (iI z)
  | 1 => .long (iL z)
  | n + 2 => .ref (ad n)
def wFs (ad : Nat → Nat) : List Nat → Nat → (Nat → Int) → List Value
  | [], _, _ => []
  | kd :: ks, i, r => wV ad kd (r i) :: wFs ad ks (i + 1) r
theorem wFs_get {ad : Nat → Nat} {r : Nat → Int} {kd : Nat} : ∀ (ks : List Nat) (i k : Nat), ks[k]? = some kd → (wFs ad ks i r)[k]? = some (wV ad kd (r (i + k)))
  | [], i, k, h => by simp at h
  | a :: ks, i, 0, h => by
    simp only [List.getElem?_cons_zero, Option.some.injEq] at h
    subst h
    rfl
  | a :: ks, i, k + 1, h => by
    rw [List.getElem?_cons_succ] at h
    have := wFs_get (ad := ad) (r := r) ks (i + 1) k h
    rw [wFs, List.getElem?_cons_succ, this]
    congr 3
    omega
theorem wFs_len {ad : Nat → Nat} {r : Nat → Int} : ∀ (ks : List Nat) (i : Nat), (wFs ad ks i r).length = ks.length
  | [], i => rfl
  | a :: ks, i => by rw [wFs, List.length_cons, List.length_cons, wFs_len ks (i + 1)]
theorem wFs_off {ad : Nat → Nat} {r : Nat → Int} {k : Nat} {z : Int} : ∀ (ks : List Nat) (i : Nat), k < i → wFs ad ks i (up1 r k z) = wFs ad ks i r
  | [], i, _ => rfl
  | a :: ks, i, h => by
    rw [wFs, wFs, wFs_off ks (i + 1) (by omega)]
    simp [up1, Nat.ne_of_gt h]
theorem wFs_set {ad : Nat → Nat} {r : Nat → Int} {kd : Nat} {z : Int} : ∀ (ks : List Nat) (i k : Nat), ks[k]? = some kd → (wFs ad ks i r).set k (wV ad kd z) = wFs ad ks i (up1 r (i + k) z)
  | [], i, k, h => by simp at h
  | a :: ks, i, 0, h => by
    simp only [List.getElem?_cons_zero, Option.some.injEq] at h
    subst h
    rw [wFs, List.set_cons_zero, wFs, Nat.add_zero, wFs_off ks (i + 1) (by omega)]
    simp [up1]
  | a :: ks, i, k + 1, h => by
    rw [List.getElem?_cons_succ] at h
    rw [wFs, List.set_cons_succ, wFs_set ks (i + 1) k h, wFs]
    have e : i + 1 + k = i + (k + 1) := by omega
    rw [e]
    congr 1
    simp [up1]
def wE (cA : Nat → ClassId) (ad : Nat → Nat) (sh : wSh) (r : Nat → Int) : va_E := match sh with
  | .inr (ci, ks) => .inr (ci, wFs ad ks 0 r)
  | .inl (0, n) => .inl (cA 0, n, .inl (fun j => iI (r j)))
  | .inl (1, n) => .inl (cA 1, n, .inr (.inl (fun j => iL (r j))))
  | .inl (2, n) => .inl (cA 2, n, .inr (.inr (.inr (.inr (fun j => some (ad (27 + j)))))))
  | .inl (_, n) => .inl (cA 3, n, .inr (.inr (.inr (.inr (fun j => some (ad (33 + 3 * j)))))))
def wNs (c : Nat) : List wSh := [.inr (4, [3, c + 3, c + 4, 0]), .inl (0, 6), .inl (0, 6)]
def wBs (c : Nat) : List wSh := [.inr (0, [0, 0, 0, 0, c + 3, c + 4, c + 5, c + 6, c + 7, c + 8]), .inl (0, 6), .inl (0, 6), .inl (0, 6), .inl (0, 6), .inl (0, 6), .inl (0, 8)]
def wShL : List wSh :=
  [.inr (11, [10, 3, 19, 22, 25, 28, 31, 53, 54, 60, 62, 65, 0])] ++ wBs 1 ++ [.inr (6, [11, 12, 0, 0, 0, 0, 0, 0, 0]), .inl (0, 200)] ++ wBs 10 ++ wNs 17 ++ wNs 20 ++ [.inr (5, [26, 27, 0, 0]), .inl (1, 30), .inl (0, 30), .inl (2, 2), .inr (2, [0, 1, 0, 0]), .inr (2, [0, 1, 0, 0]), .inr (10, [32, 33, 34, 0, 0]), .inl (3, 6), .inl (0, 5), .inl (0, 5)] ++ wNs 33 ++ wNs 36 ++ wNs 39 ++ wNs 42 ++ wNs 45 ++ wNs 48 ++ [.inr (7, [22, 0, 0]), .inr (3, [22, 55, 56, 57, 0, 0, 58, 59, 0]), .inl (0, 6), .inl (0, 6), .inl (0, 6), .inl (0, 6), .inl (0, 36), .inr (8, [22, 61, 0, 0]), .inl (1, 201), .inr (9, [63, 64, 0, 0, 0, 0]), .inl (0, 6), .inl (0, 6), .inr (1, [66, 0]), .inl (0, 20), .inr (12, [68, 69, 70, 0, 0, 0, 0, 0, 71, 0, 72, 0, 73, 74, 75, 76, 77, 78, 0, 79, 80, 0, 81, 0, 0, 0, 82]), .inl (0, 44), .inl (0, 44), .inl (0, 200), .inl (0, 13), .inl (0, 6), .inl (0, 390), .inl (0, 13), .inl (0, 6), .inl (0, 6), .inl (0, 6), .inl (0, 2412), .inl (0, 6), .inl (0, 6), .inl (0, 20), .inl (0, 30)]
def wsh (c : Nat) : wSh := wShL.getD c (.inl (0, 0))
theorem wShL_len : wShL.length = 81 := rfl
def wl (cA : Nat → ClassId) (ad : Nat → Nat) (σ : Mem) : va_W := (List.range 81).map (fun c => (ad c, wE cA ad (wsh c) (σ c)))
def wtys (cA : Nat → ClassId) : List (ClassId × FieldType) := [(cA 0, .int), (cA 1, .long), (cA 2, .object RX2), (cA 3, .object RX4)]
def wA (ad : Nat → Nat) : Nat → Prop := fun q => ∃ c, c < 81 ∧ q = ad c
def wI (ad : Nat → Nat) : Prop := ∀ i j, i < 81 → j < 81 → ad i = ad j → i = j
def wP (D : va_G) (cA : Nat → ClassId) (ad : Nat → Nat) (σ : Mem) (H : Heap) : Prop := va_P D wcl (wl cA ad σ) H
theorem wl_at {cA : Nat → ClassId} {ad : Nat → Nat} {σ : Mem} {c : Nat} (h : c < 81) : (wl cA ad σ)[c]? = some (ad c, wE cA ad (wsh c) (σ c)) := by
  simp [wl, List.getElem?_map, List.getElem?_range h]
theorem wl_inv {cA : Nat → ClassId} {ad : Nat → Nat} {σ : Mem} {c : Nat} {q : Nat × va_E} (h : (wl cA ad σ)[c]? = some q) : c < 81 ∧ q = (ad c, wE cA ad (wsh c) (σ c)) := by
  have hc : c < 81 := by
    have := (List.getElem?_eq_some_iff.mp h).1
    simpa [wl] using this
  rw [wl_at hc] at h
  exact ⟨hc, (Option.some.inj h).symm⟩
theorem wl_D {cA : Nat → ClassId} {ad : Nat → Nat} {σ : Mem} (hI : wI ad) : va_D (wA ad) (wl cA ad σ) := by
  refine ⟨fun i j p q hi hj e => ?_, fun k q hk => ?_⟩
  · obtain ⟨h1, rfl⟩ := wl_inv hi
    obtain ⟨h2, rfl⟩ := wl_inv hj
    exact hI i j h1 h2 e
  · obtain ⟨h1, rfl⟩ := wl_inv hk
    exact ⟨k, h1, rfl⟩
theorem wl_set {cA : Nat → ClassId} {ad : Nat → Nat} {σ : Mem} {c : Nat} {e : va_E} {r : Nat → Int} (h : c < 81) (he : e = wE cA ad (wsh c) r) : (wl cA ad σ).set c (ad c, e) = wl cA ad (upr σ c r) := by
  subst he
  apply List.ext_getElem?
  intro i
  by_cases hi : i < 81
  · rw [wl_at hi, List.getElem?_set]
    by_cases hc : c = i
    · subst hc
      simp [wl, upr, h]
    · simp [hc, wl_at hi, upr, Ne.symm hc]
  · have l1 : (wl cA ad (upr σ c (r))).length = 81 := by simp [wl]
    have l2 : ((wl cA ad σ).set c (ad c, wE cA ad (wsh c) r)).length = 81 := by simp [wl]
    rw [List.getElem?_eq_none (by omega), List.getElem?_eq_none (by omega)]
def wN (U : State) : Prop := va_Nw (.methodLinkNest RX7 32 yX11_wordOf RX11) U ∧ va_Nw (.methodLinkNest RX9 49 yX11_wordOf RX11) U
theorem wN.warm {s U : State} (hW : s.WarmedH U.vm) (h : wN s) : wN U := ⟨va_Nw.warmM hW h.1, va_Nw.warmM hW h.2⟩
def wB (D : va_G) (cA : Nat → ClassId) (ad : Nat → Nat) (σ : Mem) (U : State) : Prop := wP D cA ad σ U.heap ∧ va_K D wcl (wtys cA) U ∧ wN U
def wC (p : Program) (s : State) (m : MethodId) (args : Array Value) (c : Code) (cc : ByteArray) (nL : Nat) (own : String) (D : va_G) (cA : Nat → ClassId) (ad : Nat → Nat) : Prop :=
  p.tables.exec = Jvm.exec ∧ c.code = cc ∧ c.maxLocals = nL ∧ s.vm.findClass own = some m.cls ∧ (∀ w ∈ tb, w.before args s = true) ∧ va_K D wcl (wtys cA) s ∧ wI ad ∧ wN s
def rmL (k : Nat) : Room := { frames := k, cells := 0, slots := 0, locals := 64 * k }
/-! ===== what a field's link says, what a call's link says ===== -/
def wFl (own : String) (idx ci k : Nat) (C : String) (T : u_T) (N : Nat) (ty : Nat → FieldType) : Prop :=
  wcl[ci]? = some (C, T, N) ∧ k < N ∧ (∀ w ∈ u_ws C T N, w ∈ tb) ∧ Cond.fieldLink own idx C (T k).2.1 (T k).2.2.1 ∈ tb ∧ (T k).1 = C ∧ (∀ k, k < N → parseFieldDescriptor (T k).2.2.1 = some (ty k)) ∧ (∀ a, a < N → ∀ b, b < N → a ≠ b → (T a).2.1 ≠ (T b).2.1)
def wCl (own : String) (idx : Nat) (y : MethodName) (bytes : ByteArray) (maxL : Nat) (ret : Option FieldType) (n : Nat) : Prop :=
  Cond.methodLink own idx y ∈ tb ∧ Cond.code y bytes maxL ret ∈ tb ∧ Cond.initialized y.cls ∈ tb ∧ (y.cls ≠ "java/lang/invoke/MethodHandle" ∧ y.cls ≠ "java/lang/invoke/VarHandle" ∧ (parseMethodDescriptor y.desc).map (fun d => d.parameters.length) = some n)
def wCv (own : String) (idx : Nat) (y : MethodName) (bytes : ByteArray) (maxL : Nat) (ret : Option FieldType) (n : Nat) : Prop := wCl own idx y bytes maxL ret n ∧ Cond.instanceMethod y ∈ tb ∧ Cond.selects y.cls y y ∈ tb
def wCs (own : String) (idx : Nat) (y : MethodName) (bytes : ByteArray) (maxL : Nat) (ret : Option FieldType) (n : Nat) : Prop := wCl own idx y bytes maxL ret n ∧ Cond.static y ∈ tb
def wMi (l : Launch) (D : va_G) (cA : Nat → ClassId) (ad : Nat → Nat) (y : MethodName) (bytes : ByteArray) (maxL : Nat) (ret : Option FieldType) (j : Nat) (av : List Value) (σ : Mem) (Q : Int → Mem → Prop) : Prop :=
  Met l y (.code y bytes maxL ret :: tb) (rmL j) (va_Pc av (wB D cA ad σ)) (va_Qi (fun (r : Int32) (u : Mem) => ∃ z, r = iI z ∧ Q z u) (wB D cA ad) (wA ad)) 0 0 (wA ad)
def wMl (l : Launch) (D : va_G) (cA : Nat → ClassId) (ad : Nat → Nat) (y : MethodName) (bytes : ByteArray) (maxL : Nat) (ret : Option FieldType) (j : Nat) (av : List Value) (σ : Mem) (Q : Int → Mem → Prop) : Prop :=
  Met l y (.code y bytes maxL ret :: tb) (rmL j) (va_Pc av (wB D cA ad σ)) (va_Ql (fun (r : Int64) (u : Mem) => ∃ z, r = iL z ∧ Q z u) (wB D cA ad) (wA ad)) 0 0 (wA ad)
def wMv (l : Launch) (D : va_G) (cA : Nat → ClassId) (ad : Nat → Nat) (y : MethodName) (bytes : ByteArray) (maxL : Nat) (ret : Option FieldType) (j : Nat) (av : List Value) (σ : Mem) (Q : Mem → Prop) : Prop :=
  Met l y (.code y bytes maxL ret :: tb) (rmL j) (va_Pc av (wB D cA ad σ)) (va_Qv (fun (u : Mem) => Q u) (wB D cA ad) (wA ad)) 0 0 (wA ad)
section WK
variable {p : Program} {l : Launch} {e : Env} {R : Room} {s : State} {m : MethodId} {args : Array Value} {below : List Frame} {meth : Method} {c : Code} {H : Heap} {locs : List Loc} {cells slots : Nat} {Q : State → Prop}
variable {cc : ByteArray} {pc : Nat} {ls : Array Slot} {rest : List Value} {D : va_G} {cA : Nat → ClassId} {ad : Nat → Nat} {σ : Mem} {nL : Nat} {own : String} {H0 : Heap}
theorem wk_iadd (hx : p.tables.exec = Jvm.exec) (hb : c.code = cc) {x y : Int} (hdg : decode cc pc = .ok (.iadd, 1)) (k : W p l e R s m args below meth c H locs cells slots Q (F0 m (pc + 1) ls (.int (iI (x + y)) :: rest))) : W p l e R s m args below meth c H locs cells slots Q (F0 m pc ls (.int (iI y) :: .int (iI x) :: rest)) := lv_iadd hx hb hdg (by rw [iI_add]; exact k)
theorem wk_isub (hx : p.tables.exec = Jvm.exec) (hb : c.code = cc) {x y : Int} (hdg : decode cc pc = .ok (.isub, 1)) (k : W p l e R s m args below meth c H locs cells slots Q (F0 m (pc + 1) ls (.int (iI (x - y)) :: rest))) : W p l e R s m args below meth c H locs cells slots Q (F0 m pc ls (.int (iI y) :: .int (iI x) :: rest)) := lv_isub hx hb hdg (by rw [iI_sub]; exact k)
theorem wk_imul (hx : p.tables.exec = Jvm.exec) (hb : c.code = cc) {x y : Int} (hdg : decode cc pc = .ok (.imul, 1)) (k : W p l e R s m args below meth c H locs cells slots Q (F0 m (pc + 1) ls (.int (iI (x * y)) :: rest))) : W p l e R s m args below meth c H locs cells slots Q (F0 m pc ls (.int (iI y) :: .int (iI x) :: rest)) := lv_imul hx hb hdg (by rw [iI_mul]; exact k)
theorem wk_ineg (hx : p.tables.exec = Jvm.exec) (hb : c.code = cc) {x : Int} (hdg : decode cc pc = .ok (.ineg, 1)) (k : W p l e R s m args below meth c H locs cells slots Q (F0 m (pc + 1) ls (.int (iI (-x)) :: rest))) : W p l e R s m args below meth c H locs cells slots Q (F0 m pc ls (.int (iI x) :: rest)) := lv_ineg hx hb hdg (by first | (rw [iI_neg]; exact k) | (rw [show (0 : Int32) - iI x = iI (-x) by rw [← iI_neg]; simp]; exact k))
theorem wk_iand (hx : p.tables.exec = Jvm.exec) (hb : c.code = cc) {x y : Int} (hdg : decode cc pc = .ok (.iand, 1)) (k : W p l e R s m args below meth c H locs cells slots Q (F0 m (pc + 1) ls (.int (iI (zand x y)) :: rest))) : W p l e R s m args below meth c H locs cells slots Q (F0 m pc ls (.int (iI y) :: .int (iI x) :: rest)) := lv_iand hx hb hdg (by rw [zand, iI_of] at k; exact k)
theorem wk_ior (hx : p.tables.exec = Jvm.exec) (hb : c.code = cc) {x y : Int} (hdg : decode cc pc = .ok (.ior, 1)) (k : W p l e R s m args below meth c H locs cells slots Q (F0 m (pc + 1) ls (.int (iI (zor x y)) :: rest))) : W p l e R s m args below meth c H locs cells slots Q (F0 m pc ls (.int (iI y) :: .int (iI x) :: rest)) := lv_ior hx hb hdg (by rw [zor, iI_of] at k; exact k)
theorem wk_ixor (hx : p.tables.exec = Jvm.exec) (hb : c.code = cc) {x y : Int} (hdg : decode cc pc = .ok (.ixor, 1)) (k : W p l e R s m args below meth c H locs cells slots Q (F0 m (pc + 1) ls (.int (iI (zxor x y)) :: rest))) : W p l e R s m args below meth c H locs cells slots Q (F0 m pc ls (.int (iI y) :: .int (iI x) :: rest)) := lv_ixor hx hb hdg (by rw [zxor, iI_of] at k; exact k)
theorem wk_ishl (hx : p.tables.exec = Jvm.exec) (hb : c.code = cc) {x y : Int} (hdg : decode cc pc = .ok (.ishl, 1)) (k : W p l e R s m args below meth c H locs cells slots Q (F0 m (pc + 1) ls (.int (iI (zshl x y)) :: rest))) : W p l e R s m args below meth c H locs cells slots Q (F0 m pc ls (.int (iI y) :: .int (iI x) :: rest)) := lv_ishl hx hb hdg (by rw [zshl, iI_of] at k; exact k)
theorem wk_ishr (hx : p.tables.exec = Jvm.exec) (hb : c.code = cc) {x y : Int} (hdg : decode cc pc = .ok (.ishr, 1)) (k : W p l e R s m args below meth c H locs cells slots Q (F0 m (pc + 1) ls (.int (iI (zshr x y)) :: rest))) : W p l e R s m args below meth c H locs cells slots Q (F0 m pc ls (.int (iI y) :: .int (iI x) :: rest)) := lv_ishr hx hb hdg (by rw [zshr, iI_of] at k; exact k)
theorem wk_iushr (hx : p.tables.exec = Jvm.exec) (hb : c.code = cc) {x y : Int} (hdg : decode cc pc = .ok (.iushr, 1)) (k : W p l e R s m args below meth c H locs cells slots Q (F0 m (pc + 1) ls (.int (iI (zushr x y)) :: rest))) : W p l e R s m args below meth c H locs cells slots Q (F0 m pc ls (.int (iI y) :: .int (iI x) :: rest)) := lv_iushr (v := iI (zushr x y)) hx hb hdg (by rw [zushr, iI_of]) k
theorem wk_idiv (hx : p.tables.exec = Jvm.exec) (hb : c.code = cc) {x y : Int} (h1 : inR x) (h2 : inR y) (h3 : y ≠ 0) (hdg : decode cc pc = .ok (.idiv, 1)) (k : W p l e R s m args below meth c H locs cells slots Q (F0 m (pc + 1) ls (.int (iI (x.tdiv y)) :: rest))) : W p l e R s m args below meth c H locs cells slots Q (F0 m pc ls (.int (iI y) :: .int (iI x) :: rest)) := lv_idiv hx hb hdg (iI_nz h2 h3) (by rw [iI_div h1 h2]; exact k)
theorem wk_irem (hx : p.tables.exec = Jvm.exec) (hb : c.code = cc) {x y : Int} (h1 : inR x) (h2 : inR y) (h3 : y ≠ 0) (hdg : decode cc pc = .ok (.irem, 1)) (k : W p l e R s m args below meth c H locs cells slots Q (F0 m (pc + 1) ls (.int (iI (x.tmod y)) :: rest))) : W p l e R s m args below meth c H locs cells slots Q (F0 m pc ls (.int (iI y) :: .int (iI x) :: rest)) := lv_irem hx hb hdg (iI_nz h2 h3) (by rw [iI_rem h1 h2]; exact k)
theorem wk_ladd (hx : p.tables.exec = Jvm.exec) (hb : c.code = cc) {x y : Int} (hdg : decode cc pc = .ok (.ladd, 1)) (k : W p l e R s m args below meth c H locs cells slots Q (F0 m (pc + 1) ls (.long (iL (x + y)) :: rest))) : W p l e R s m args below meth c H locs cells slots Q (F0 m pc ls (.long (iL y) :: .long (iL x) :: rest)) := lv_ladd hx hb hdg (by rw [iL_add]; exact k)
theorem wk_lmul (hx : p.tables.exec = Jvm.exec) (hb : c.code = cc) {x y : Int} (hdg : decode cc pc = .ok (.lmul, 1)) (k : W p l e R s m args below meth c H locs cells slots Q (F0 m (pc + 1) ls (.long (iL (x * y)) :: rest))) : W p l e R s m args below meth c H locs cells slots Q (F0 m pc ls (.long (iL y) :: .long (iL x) :: rest)) := lv_lmul hx hb hdg (by rw [iL_mul]; exact k)
theorem wk_land (hx : p.tables.exec = Jvm.exec) (hb : c.code = cc) {x y : Int} (hdg : decode cc pc = .ok (.land, 1)) (k : W p l e R s m args below meth c H locs cells slots Q (F0 m (pc + 1) ls (.long (iL (yand x y)) :: rest))) : W p l e R s m args below meth c H locs cells slots Q (F0 m pc ls (.long (iL y) :: .long (iL x) :: rest)) := lv_land hx hb hdg (by rw [yand, iL_of] at k; exact k)
theorem wk_lor (hx : p.tables.exec = Jvm.exec) (hb : c.code = cc) {x y : Int} (hdg : decode cc pc = .ok (.lor, 1)) (k : W p l e R s m args below meth c H locs cells slots Q (F0 m (pc + 1) ls (.long (iL (yor x y)) :: rest))) : W p l e R s m args below meth c H locs cells slots Q (F0 m pc ls (.long (iL y) :: .long (iL x) :: rest)) := lv_lor hx hb hdg (by rw [yor, iL_of] at k; exact k)
theorem wk_lshl (hx : p.tables.exec = Jvm.exec) (hb : c.code = cc) {x y : Int} (hdg : decode cc pc = .ok (.lshl, 1)) (k : W p l e R s m args below meth c H locs cells slots Q (F0 m (pc + 1) ls (.long (iL (yshl x y)) :: rest))) : W p l e R s m args below meth c H locs cells slots Q (F0 m pc ls (.int (iI y) :: .long (iL x) :: rest)) := lv_lshl (v := iL (yshl x y)) hx hb hdg (by rw [yshl, iL_of]) k
theorem wk_lshr (hx : p.tables.exec = Jvm.exec) (hb : c.code = cc) {x y : Int} (hdg : decode cc pc = .ok (.lshr, 1)) (k : W p l e R s m args below meth c H locs cells slots Q (F0 m (pc + 1) ls (.long (iL (yshr x y)) :: rest))) : W p l e R s m args below meth c H locs cells slots Q (F0 m pc ls (.int (iI y) :: .long (iL x) :: rest)) := lv_lshr (v := iL (yshr x y)) hx hb hdg (by rw [yshr, iL_of]) k
theorem wk_ldiv (hx : p.tables.exec = Jvm.exec) (hb : c.code = cc) {x y : Int} (h1 : inL x) (h2 : inL y) (h3 : y ≠ 0) (hdg : decode cc pc = .ok (.ldiv, 1)) (k : W p l e R s m args below meth c H locs cells slots Q (F0 m (pc + 1) ls (.long (iL (x.tdiv y)) :: rest))) : W p l e R s m args below meth c H locs cells slots Q (F0 m pc ls (.long (iL y) :: .long (iL x) :: rest)) := lv_ldiv hx hb hdg (iL_nz h2 h3) (by rw [iL_div h1 h2]; exact k)
theorem wk_lrem (hx : p.tables.exec = Jvm.exec) (hb : c.code = cc) {x y : Int} (h1 : inL x) (h2 : inL y) (h3 : y ≠ 0) (hdg : decode cc pc = .ok (.lrem, 1)) (k : W p l e R s m args below meth c H locs cells slots Q (F0 m (pc + 1) ls (.long (iL (x.tmod y)) :: rest))) : W p l e R s m args below meth c H locs cells slots Q (F0 m pc ls (.long (iL y) :: .long (iL x) :: rest)) := lv_lrem hx hb hdg (iL_nz h2 h3) (by rw [iL_rem h1 h2]; exact k)
theorem wk_i2l (hx : p.tables.exec = Jvm.exec) (hb : c.code = cc) {x : Int} (h1 : inR x) (hdg : decode cc pc = .ok (.i2l, 1)) (k : W p l e R s m args below meth c H locs cells slots Q (F0 m (pc + 1) ls (.long (iL x) :: rest))) : W p l e R s m args below meth c H locs cells slots Q (F0 m pc ls (.int (iI x) :: rest)) := lv_i2l hx hb hdg (iI_i2l h1) k
theorem wk_l2i (hx : p.tables.exec = Jvm.exec) (hb : c.code = cc) {x : Int} (hdg : decode cc pc = .ok (.l2i, 1)) (k : W p l e R s m args below meth c H locs cells slots Q (F0 m (pc + 1) ls (.int (iI x) :: rest))) : W p l e R s m args below meth c H locs cells slots Q (F0 m pc ls (.long (iL x) :: rest)) := lv_l2i hx hb hdg (iL_l2i x) k
theorem wk_iinc (hx : p.tables.exec = Jvm.exec) (hb : c.code = cc) {i nL k : Nat} {n x : Int} {lv : List (Nat × Value)} {lv' : Int → List (Nat × Value)} (hdg : decode cc pc = .ok (.iinc i n, 3)) (h : lv_has ls nL lv) (hk : lv[k]? = some (i, .int (iI x))) (hn : i < nL) (hl : ∀ y : Int, (i, Value.int (iI y)) :: lv.filter (fun q => !(q.1 == i) && !(q.1 + 1 == i && q.2.category == 2)) = lv' y)
    (kk : ∀ (y : Int) (ls' : Array Slot), y = x + n → lv_has ls' nL (lv' y) → W p l e R s m args below meth c H locs cells slots Q (F0 m (pc + 3) ls' rest)) : W p l e R s m args below meth c H locs cells slots Q (F0 m pc ls rest) := lv_iinc (v := iI (x + n)) (lv' := lv' (x + n)) hx hb hdg h hk (iI_add x n) hn (hl _) (fun ls' h' => kk _ ls' rfl h')
theorem wk_top {z : Int} (k : ∀ x : Int, x = z → W p l e R s m args below meth c H locs cells slots Q (F0 m pc ls (.int (iI x) :: rest))) : W p l e R s m args below meth c H locs cells slots Q (F0 m pc ls (.int (iI z) :: rest)) := k z rfl
theorem wk_topl {z : Int} (k : ∀ x : Int, x = z → W p l e R s m args below meth c H locs cells slots Q (F0 m pc ls (.long (iL x) :: rest))) : W p l e R s m args below meth c H locs cells slots Q (F0 m pc ls (.long (iL z) :: rest)) := k z rfl
theorem wk_icmp_eq (hx : p.tables.exec = Jvm.exec) (hb : c.code = cc) {x y : Int} (h1 : inR x) (h2 : inR y) {off : Int} {tgt : Nat} (hdg : decode cc pc = .ok (.if_icmp .eq off, 3)) (ht : (pc : Int) + off = (tgt : Int))
    (kt : x = y → W p l e R s m args below meth c H locs cells slots Q (F0 m tgt ls rest)) (kf : ¬ x = y → W p l e R s m args below meth c H locs cells slots Q (F0 m (pc + 3) ls rest)) : W p l e R s m args below meth c H locs cells slots Q (F0 m pc ls (.int (iI y) :: .int (iI x) :: rest)) :=
  lv_icmp_eq hx hb hdg ht (fun h => kt (by exact (iI_eq h1 h2).mp h)) (fun h => kf (by exact fun q => h ((iI_eq h1 h2).mpr q)))
theorem wk_if_eq (hx : p.tables.exec = Jvm.exec) (hb : c.code = cc) {x : Int} (h1 : inR x) {off : Int} {tgt : Nat} (hdg : decode cc pc = .ok (.ifCond .eq off, 3)) (ht : (pc : Int) + off = (tgt : Int))
    (kt : x = 0 → W p l e R s m args below meth c H locs cells slots Q (F0 m tgt ls rest)) (kf : ¬ x = 0 → W p l e R s m args below meth c H locs cells slots Q (F0 m (pc + 3) ls rest)) : W p l e R s m args below meth c H locs cells slots Q (F0 m pc ls (.int (iI x) :: rest)) :=
  lv_if_eq hx hb hdg ht (fun h => kt (by rw [iI_0] at h; exact (iI_eq h1 inR_0).mp h)) (fun h => kf (by rw [iI_0] at h; exact fun q => h ((iI_eq h1 inR_0).mpr q)))
theorem wk_icmp_ne (hx : p.tables.exec = Jvm.exec) (hb : c.code = cc) {x y : Int} (h1 : inR x) (h2 : inR y) {off : Int} {tgt : Nat} (hdg : decode cc pc = .ok (.if_icmp .ne off, 3)) (ht : (pc : Int) + off = (tgt : Int))
    (kt : ¬ x = y → W p l e R s m args below meth c H locs cells slots Q (F0 m tgt ls rest)) (kf : x = y → W p l e R s m args below meth c H locs cells slots Q (F0 m (pc + 3) ls rest)) : W p l e R s m args below meth c H locs cells slots Q (F0 m pc ls (.int (iI y) :: .int (iI x) :: rest)) :=
  lv_icmp_ne hx hb hdg ht (fun h => kt (by exact fun q => h ((iI_eq h1 h2).mpr q))) (fun h => kf (by exact (iI_eq h1 h2).mp h))
theorem wk_if_ne (hx : p.tables.exec = Jvm.exec) (hb : c.code = cc) {x : Int} (h1 : inR x) {off : Int} {tgt : Nat} (hdg : decode cc pc = .ok (.ifCond .ne off, 3)) (ht : (pc : Int) + off = (tgt : Int))
    (kt : ¬ x = 0 → W p l e R s m args below meth c H locs cells slots Q (F0 m tgt ls rest)) (kf : x = 0 → W p l e R s m args below meth c H locs cells slots Q (F0 m (pc + 3) ls rest)) : W p l e R s m args below meth c H locs cells slots Q (F0 m pc ls (.int (iI x) :: rest)) :=
  lv_if_ne hx hb hdg ht (fun h => kt (by rw [iI_0] at h; exact fun q => h ((iI_eq h1 inR_0).mpr q))) (fun h => kf (by rw [iI_0] at h; exact (iI_eq h1 inR_0).mp h))
theorem wk_icmp_lt (hx : p.tables.exec = Jvm.exec) (hb : c.code = cc) {x y : Int} (h1 : inR x) (h2 : inR y) {off : Int} {tgt : Nat} (hdg : decode cc pc = .ok (.if_icmp .lt off, 3)) (ht : (pc : Int) + off = (tgt : Int))
    (kt : x < y → W p l e R s m args below meth c H locs cells slots Q (F0 m tgt ls rest)) (kf : ¬ x < y → W p l e R s m args below meth c H locs cells slots Q (F0 m (pc + 3) ls rest)) : W p l e R s m args below meth c H locs cells slots Q (F0 m pc ls (.int (iI y) :: .int (iI x) :: rest)) :=
  lv_icmp_lt hx hb hdg ht (fun h => kt (by exact (iI_lt h1 h2).mp h)) (fun h => kf (by exact fun q => h ((iI_lt h1 h2).mpr q)))
theorem wk_if_lt (hx : p.tables.exec = Jvm.exec) (hb : c.code = cc) {x : Int} (h1 : inR x) {off : Int} {tgt : Nat} (hdg : decode cc pc = .ok (.ifCond .lt off, 3)) (ht : (pc : Int) + off = (tgt : Int))
    (kt : x < 0 → W p l e R s m args below meth c H locs cells slots Q (F0 m tgt ls rest)) (kf : ¬ x < 0 → W p l e R s m args below meth c H locs cells slots Q (F0 m (pc + 3) ls rest)) : W p l e R s m args below meth c H locs cells slots Q (F0 m pc ls (.int (iI x) :: rest)) :=
  lv_if_lt hx hb hdg ht (fun h => kt (by rw [iI_0] at h; exact (iI_lt h1 inR_0).mp h)) (fun h => kf (by rw [iI_0] at h; exact fun q => h ((iI_lt h1 inR_0).mpr q)))
theorem wk_icmp_le (hx : p.tables.exec = Jvm.exec) (hb : c.code = cc) {x y : Int} (h1 : inR x) (h2 : inR y) {off : Int} {tgt : Nat} (hdg : decode cc pc = .ok (.if_icmp .le off, 3)) (ht : (pc : Int) + off = (tgt : Int))
    (kt : x ≤ y → W p l e R s m args below meth c H locs cells slots Q (F0 m tgt ls rest)) (kf : ¬ x ≤ y → W p l e R s m args below meth c H locs cells slots Q (F0 m (pc + 3) ls rest)) : W p l e R s m args below meth c H locs cells slots Q (F0 m pc ls (.int (iI y) :: .int (iI x) :: rest)) :=
  lv_icmp_le hx hb hdg ht (fun h => kt (by exact (iI_le h1 h2).mp h)) (fun h => kf (by exact fun q => h ((iI_le h1 h2).mpr q)))
theorem wk_if_le (hx : p.tables.exec = Jvm.exec) (hb : c.code = cc) {x : Int} (h1 : inR x) {off : Int} {tgt : Nat} (hdg : decode cc pc = .ok (.ifCond .le off, 3)) (ht : (pc : Int) + off = (tgt : Int))
    (kt : x ≤ 0 → W p l e R s m args below meth c H locs cells slots Q (F0 m tgt ls rest)) (kf : ¬ x ≤ 0 → W p l e R s m args below meth c H locs cells slots Q (F0 m (pc + 3) ls rest)) : W p l e R s m args below meth c H locs cells slots Q (F0 m pc ls (.int (iI x) :: rest)) :=
  lv_if_le hx hb hdg ht (fun h => kt (by rw [iI_0] at h; exact (iI_le h1 inR_0).mp h)) (fun h => kf (by rw [iI_0] at h; exact fun q => h ((iI_le h1 inR_0).mpr q)))
theorem wk_icmp_gt (hx : p.tables.exec = Jvm.exec) (hb : c.code = cc) {x y : Int} (h1 : inR x) (h2 : inR y) {off : Int} {tgt : Nat} (hdg : decode cc pc = .ok (.if_icmp .gt off, 3)) (ht : (pc : Int) + off = (tgt : Int))
    (kt : y < x → W p l e R s m args below meth c H locs cells slots Q (F0 m tgt ls rest)) (kf : ¬ y < x → W p l e R s m args below meth c H locs cells slots Q (F0 m (pc + 3) ls rest)) : W p l e R s m args below meth c H locs cells slots Q (F0 m pc ls (.int (iI y) :: .int (iI x) :: rest)) :=
  lv_icmp_gt hx hb hdg ht (fun h => kt (by exact (iI_lt h2 h1).mp h)) (fun h => kf (by exact fun q => h ((iI_lt h2 h1).mpr q)))
theorem wk_if_gt (hx : p.tables.exec = Jvm.exec) (hb : c.code = cc) {x : Int} (h1 : inR x) {off : Int} {tgt : Nat} (hdg : decode cc pc = .ok (.ifCond .gt off, 3)) (ht : (pc : Int) + off = (tgt : Int))
    (kt : 0 < x → W p l e R s m args below meth c H locs cells slots Q (F0 m tgt ls rest)) (kf : ¬ 0 < x → W p l e R s m args below meth c H locs cells slots Q (F0 m (pc + 3) ls rest)) : W p l e R s m args below meth c H locs cells slots Q (F0 m pc ls (.int (iI x) :: rest)) :=
  lv_if_gt hx hb hdg ht (fun h => kt (by rw [iI_0] at h; exact (iI_lt inR_0 h1).mp h)) (fun h => kf (by rw [iI_0] at h; exact fun q => h ((iI_lt inR_0 h1).mpr q)))
theorem wk_icmp_ge (hx : p.tables.exec = Jvm.exec) (hb : c.code = cc) {x y : Int} (h1 : inR x) (h2 : inR y) {off : Int} {tgt : Nat} (hdg : decode cc pc = .ok (.if_icmp .ge off, 3)) (ht : (pc : Int) + off = (tgt : Int))
    (kt : y ≤ x → W p l e R s m args below meth c H locs cells slots Q (F0 m tgt ls rest)) (kf : ¬ y ≤ x → W p l e R s m args below meth c H locs cells slots Q (F0 m (pc + 3) ls rest)) : W p l e R s m args below meth c H locs cells slots Q (F0 m pc ls (.int (iI y) :: .int (iI x) :: rest)) :=
  lv_icmp_ge hx hb hdg ht (fun h => kt (by exact (iI_le h2 h1).mp h)) (fun h => kf (by exact fun q => h ((iI_le h2 h1).mpr q)))
theorem wk_if_ge (hx : p.tables.exec = Jvm.exec) (hb : c.code = cc) {x : Int} (h1 : inR x) {off : Int} {tgt : Nat} (hdg : decode cc pc = .ok (.ifCond .ge off, 3)) (ht : (pc : Int) + off = (tgt : Int))
    (kt : 0 ≤ x → W p l e R s m args below meth c H locs cells slots Q (F0 m tgt ls rest)) (kf : ¬ 0 ≤ x → W p l e R s m args below meth c H locs cells slots Q (F0 m (pc + 3) ls rest)) : W p l e R s m args below meth c H locs cells slots Q (F0 m pc ls (.int (iI x) :: rest)) :=
  lv_if_ge hx hb hdg ht (fun h => kt (by rw [iI_0] at h; exact (iI_le inR_0 h1).mp h)) (fun h => kf (by rw [iI_0] at h; exact fun q => h ((iI_le inR_0 h1).mpr q)))
def iL_c (x y : Int) : Int := if y < x then 1 else if x = y then 0 else -1
theorem iL_cmp {x y : Int} (h1 : inL x) (h2 : inL y) : lg_cmp (iL x) (iL y) = iI (iL_c x y) := by
  unfold lg_cmp iL_c
  by_cases h : y < x
  · rw [if_pos h, if_pos ((iL_lt h2 h1).mpr h)]; rfl
  · rw [if_neg h, if_neg (fun q => h ((iL_lt h2 h1).mp q))]
    by_cases h' : x = y
    · rw [if_pos h', if_pos ((iL_eq h1 h2).mpr h')]; rfl
    · rw [if_neg h', if_neg (fun q => h' ((iL_eq h1 h2).mp q))]; rfl
theorem iL_cmpR (x y : Int) : inR (iL_c x y) := by
  unfold iL_c inR
  split
  · omega
  · split <;> omega
theorem wk_lcmp_eq (hx : p.tables.exec = Jvm.exec) (hb : c.code = cc) {x y : Int} (h1 : inL x) (h2 : inL y) {off : Int} {tgt : Nat} (hd0 : decode cc pc = .ok (.lcmp, 1)) (hdg : decode cc (pc + 1) = .ok (.ifCond .eq off, 3)) (ht : ((pc + 1 : Nat) : Int) + off = (tgt : Int))
    (kt : x = y → W p l e R s m args below meth c H locs cells slots Q (F0 m tgt ls rest)) (kf : ¬ x = y → W p l e R s m args below meth c H locs cells slots Q (F0 m (pc + 1 + 3) ls rest)) : W p l e R s m args below meth c H locs cells slots Q (F0 m pc ls (.long (iL y) :: .long (iL x) :: rest)) := by
  refine W.lcmp hx hb hd0 ?_
  rw [iL_cmp h1 h2]
  refine wk_if_eq hx hb (iL_cmpR x y) hdg ht (fun h => kt ?_) (fun h => kf ?_)
  all_goals (unfold iL_c at h; split at h <;> first | omega | (split at h <;> omega))
theorem wk_lcmp_ne (hx : p.tables.exec = Jvm.exec) (hb : c.code = cc) {x y : Int} (h1 : inL x) (h2 : inL y) {off : Int} {tgt : Nat} (hd0 : decode cc pc = .ok (.lcmp, 1)) (hdg : decode cc (pc + 1) = .ok (.ifCond .ne off, 3)) (ht : ((pc + 1 : Nat) : Int) + off = (tgt : Int))
    (kt : ¬ x = y → W p l e R s m args below meth c H locs cells slots Q (F0 m tgt ls rest)) (kf : x = y → W p l e R s m args below meth c H locs cells slots Q (F0 m (pc + 1 + 3) ls rest)) : W p l e R s m args below meth c H locs cells slots Q (F0 m pc ls (.long (iL y) :: .long (iL x) :: rest)) := by
  refine W.lcmp hx hb hd0 ?_
  rw [iL_cmp h1 h2]
  refine wk_if_ne hx hb (iL_cmpR x y) hdg ht (fun h => kt ?_) (fun h => kf ?_)
  all_goals (unfold iL_c at h; split at h <;> first | omega | (split at h <;> omega))
theorem wk_lcmp_lt (hx : p.tables.exec = Jvm.exec) (hb : c.code = cc) {x y : Int} (h1 : inL x) (h2 : inL y) {off : Int} {tgt : Nat} (hd0 : decode cc pc = .ok (.lcmp, 1)) (hdg : decode cc (pc + 1) = .ok (.ifCond .lt off, 3)) (ht : ((pc + 1 : Nat) : Int) + off = (tgt : Int))
    (kt : x < y → W p l e R s m args below meth c H locs cells slots Q (F0 m tgt ls rest)) (kf : ¬ x < y → W p l e R s m args below meth c H locs cells slots Q (F0 m (pc + 1 + 3) ls rest)) : W p l e R s m args below meth c H locs cells slots Q (F0 m pc ls (.long (iL y) :: .long (iL x) :: rest)) := by
  refine W.lcmp hx hb hd0 ?_
  rw [iL_cmp h1 h2]
  refine wk_if_lt hx hb (iL_cmpR x y) hdg ht (fun h => kt ?_) (fun h => kf ?_)
  all_goals (unfold iL_c at h; split at h <;> first | omega | (split at h <;> omega))
theorem wk_lcmp_le (hx : p.tables.exec = Jvm.exec) (hb : c.code = cc) {x y : Int} (h1 : inL x) (h2 : inL y) {off : Int} {tgt : Nat} (hd0 : decode cc pc = .ok (.lcmp, 1)) (hdg : decode cc (pc + 1) = .ok (.ifCond .le off, 3)) (ht : ((pc + 1 : Nat) : Int) + off = (tgt : Int))
    (kt : x ≤ y → W p l e R s m args below meth c H locs cells slots Q (F0 m tgt ls rest)) (kf : ¬ x ≤ y → W p l e R s m args below meth c H locs cells slots Q (F0 m (pc + 1 + 3) ls rest)) : W p l e R s m args below meth c H locs cells slots Q (F0 m pc ls (.long (iL y) :: .long (iL x) :: rest)) := by
  refine W.lcmp hx hb hd0 ?_
  rw [iL_cmp h1 h2]
  refine wk_if_le hx hb (iL_cmpR x y) hdg ht (fun h => kt ?_) (fun h => kf ?_)
  all_goals (unfold iL_c at h; split at h <;> first | omega | (split at h <;> omega))
theorem wk_lcmp_gt (hx : p.tables.exec = Jvm.exec) (hb : c.code = cc) {x y : Int} (h1 : inL x) (h2 : inL y) {off : Int} {tgt : Nat} (hd0 : decode cc pc = .ok (.lcmp, 1)) (hdg : decode cc (pc + 1) = .ok (.ifCond .gt off, 3)) (ht : ((pc + 1 : Nat) : Int) + off = (tgt : Int))
    (kt : y < x → W p l e R s m args below meth c H locs cells slots Q (F0 m tgt ls rest)) (kf : ¬ y < x → W p l e R s m args below meth c H locs cells slots Q (F0 m (pc + 1 + 3) ls rest)) : W p l e R s m args below meth c H locs cells slots Q (F0 m pc ls (.long (iL y) :: .long (iL x) :: rest)) := by
  refine W.lcmp hx hb hd0 ?_
  rw [iL_cmp h1 h2]
  refine wk_if_gt hx hb (iL_cmpR x y) hdg ht (fun h => kt ?_) (fun h => kf ?_)
  all_goals (unfold iL_c at h; split at h <;> first | omega | (split at h <;> omega))
theorem wk_lcmp_ge (hx : p.tables.exec = Jvm.exec) (hb : c.code = cc) {x y : Int} (h1 : inL x) (h2 : inL y) {off : Int} {tgt : Nat} (hd0 : decode cc pc = .ok (.lcmp, 1)) (hdg : decode cc (pc + 1) = .ok (.ifCond .ge off, 3)) (ht : ((pc + 1 : Nat) : Int) + off = (tgt : Int))
    (kt : y ≤ x → W p l e R s m args below meth c H locs cells slots Q (F0 m tgt ls rest)) (kf : ¬ y ≤ x → W p l e R s m args below meth c H locs cells slots Q (F0 m (pc + 1 + 3) ls rest)) : W p l e R s m args below meth c H locs cells slots Q (F0 m pc ls (.long (iL y) :: .long (iL x) :: rest)) := by
  refine W.lcmp hx hb hd0 ?_
  rw [iL_cmp h1 h2]
  refine wk_if_ge hx hb (iL_cmpR x y) hdg ht (fun h => kt ?_) (fun h => kf ?_)
  all_goals (unfold iL_c at h; split at h <;> first | omega | (split at h <;> omega))
/-! heap -/
theorem wk_get {idx ci k N kd cell : Nat} {C : String} {T : u_T} {ty : Nat → FieldType} {ks : List Nat} (C0 : wC p s m args c cc nL own D cA ad) (hf : wFl own idx ci k C T N ty) (hP : wP D cA ad σ H) (hc : cell < 81) (hsh : wsh cell = .inr (ci, ks)) (hkd : ks[k]? = some kd) (hdg : decode cc pc = .ok (.getfield idx, 3))
    (kk : W p l e R s m args below meth c H locs cells slots Q (F0 m (pc + 3) ls (wV ad kd (σ cell k) :: rest))) : W p l e R s m args below meth c H locs cells slots Q (F0 m pc ls (.ref (ad cell) :: rest)) := by
  obtain ⟨hx, hb, hml, hown, htb, hK, hI, hN⟩ := C0
  obtain ⟨f1, f2, f3, f4, f5, f6, f7⟩ := hf
  have he : (wl cA ad σ)[cell]? = some (ad cell, .inr (ci, wFs ad ks 0 (σ cell))) := by rw [wl_at hc, hsh]; rfl
  have hv := wFs_get (ad := ad) (r := σ cell) ks 0 k hkd
  rw [Nat.zero_add] at hv
  exact va_get hx hb htb f3 hown hK hP cell he f1 k f2 (htb _ f4) (fun x h => by rw [f5] at h; exact h) hv hdg kk
theorem wk_put {idx ci k N kd cell : Nat} {C : String} {T : u_T} {ty : Nat → FieldType} {ks : List Nat} {z : Int} (C0 : wC p s m args c cc nL own D cA ad) (hf : wFl own idx ci k C T N ty) (hfin : (T k).2.2.2 = false) (hP : wP D cA ad σ H) (hS : va_S (wA ad) H0 H locs) (hc : cell < 81) (hsh : wsh cell = .inr (ci, ks)) (hkd : ks[k]? = some kd) (hn : narrow (ty k) (wV ad kd z) = wV ad kd z) (hfit : fits (ty k) (wV ad kd z) = true) (hdg : decode cc pc = .ok (.putfield idx, 3))
    (kk : ∀ (u : Mem) (H1 : Heap) (locs1 : List Loc), u = up2 σ cell k z → wP D cA ad u H1 → va_S (wA ad) H0 H1 locs1 → W p l e R s m args below meth c H1 locs1 cells slots Q (F0 m (pc + 3) ls rest)) : W p l e R s m args below meth c H locs cells slots Q (F0 m pc ls (wV ad kd z :: .ref (ad cell) :: rest)) := by
  obtain ⟨hx, hb, hml, hown, htb, hK, hI, hN⟩ := C0
  obtain ⟨f1, f2, f3, f4, f5, f6, f7⟩ := hf
  have he : (wl cA ad σ)[cell]? = some (ad cell, .inr (ci, wFs ad ks 0 (σ cell))) := by rw [wl_at hc, hsh]; rfl
  have hlen : k < (wFs ad ks 0 (σ cell)).length := by rw [wFs_len]; exact (List.getElem?_eq_some_iff.mp hkd).1
  refine va_put hx hb htb f3 ty f6 f7 hown hK hP (wl_D hI) hS cell he f1 k f2 (htb _ f4) (fun x h => by rw [f5] at h; exact h) hfin (f6 k f2) hn hfit hlen hdg (fun H1 locs1 h1 h2 h3 => kk _ H1 locs1 rfl ?_ h3)
  have e := wFs_set (ad := ad) (r := σ cell) (z := z) ks 0 k hkd
  rw [Nat.zero_add] at e
  rw [e, wl_set (r := up1 (σ cell) k z) hc (by rw [hsh]; rfl)] at h1
  exact h1
theorem narrow_b {z : Int} (h : z = 0 ∨ z = 1) : narrow .boolean (.int (iI z)) = .int (iI z) ∧ fits .boolean (.int (iI z)) = true := by
  rcases h with rfl | rfl <;> exact ⟨by decide +kernel, by decide +kernel⟩
theorem wk_getI {idx ci k N cell : Nat} {C : String} {T : u_T} {ty : Nat → FieldType} {ks : List Nat} (C0 : wC p s m args c cc nL own D cA ad) (hf : wFl own idx ci k C T N ty) (hP : wP D cA ad σ H) (hc : cell < 81) (hsh : wsh cell = .inr (ci, ks)) (hkd : ks[k]? = some 0) (hdg : decode cc pc = .ok (.getfield idx, 3))
    (kk : W p l e R s m args below meth c H locs cells slots Q (F0 m (pc + 3) ls (.int (iI (σ cell k)) :: rest))) : W p l e R s m args below meth c H locs cells slots Q (F0 m pc ls (.ref (ad cell) :: rest)) := wk_get C0 hf hP hc hsh hkd hdg kk
theorem wk_getJ {idx ci k N cell : Nat} {C : String} {T : u_T} {ty : Nat → FieldType} {ks : List Nat} (C0 : wC p s m args c cc nL own D cA ad) (hf : wFl own idx ci k C T N ty) (hP : wP D cA ad σ H) (hc : cell < 81) (hsh : wsh cell = .inr (ci, ks)) (hkd : ks[k]? = some 1) (hdg : decode cc pc = .ok (.getfield idx, 3))
    (kk : W p l e R s m args below meth c H locs cells slots Q (F0 m (pc + 3) ls (.long (iL (σ cell k)) :: rest))) : W p l e R s m args below meth c H locs cells slots Q (F0 m pc ls (.ref (ad cell) :: rest)) := wk_get C0 hf hP hc hsh hkd hdg kk
theorem wk_getR {idx ci k N cell : Nat} {C : String} {T : u_T} {ty : Nat → FieldType} {ks : List Nat} (tgt : Nat) (C0 : wC p s m args c cc nL own D cA ad) (hf : wFl own idx ci k C T N ty) (hP : wP D cA ad σ H) (hc : cell < 81) (hsh : wsh cell = .inr (ci, ks)) (hkd : ks[k]? = some (tgt + 2)) (hdg : decode cc pc = .ok (.getfield idx, 3))
    (kk : W p l e R s m args below meth c H locs cells slots Q (F0 m (pc + 3) ls (.ref (ad tgt) :: rest))) : W p l e R s m args below meth c H locs cells slots Q (F0 m pc ls (.ref (ad cell) :: rest)) := wk_get C0 hf hP hc hsh hkd hdg kk
theorem wk_putI {idx ci k N cell : Nat} {C : String} {T : u_T} {ty : Nat → FieldType} {ks : List Nat} {z : Int} (C0 : wC p s m args c cc nL own D cA ad) (hf : wFl own idx ci k C T N ty) (hfin : (T k).2.2.2 = false) (hty : ty k = .int) (hP : wP D cA ad σ H) (hS : va_S (wA ad) H0 H locs) (hc : cell < 81) (hsh : wsh cell = .inr (ci, ks)) (hkd : ks[k]? = some 0) (hdg : decode cc pc = .ok (.putfield idx, 3))
    (kk : ∀ (u : Mem) (H1 : Heap) (locs1 : List Loc), u = up2 σ cell k z → wP D cA ad u H1 → va_S (wA ad) H0 H1 locs1 → W p l e R s m args below meth c H1 locs1 cells slots Q (F0 m (pc + 3) ls rest)) : W p l e R s m args below meth c H locs cells slots Q (F0 m pc ls (.int (iI z) :: .ref (ad cell) :: rest)) := wk_put (kd := 0) C0 hf hfin hP hS hc hsh hkd (by rw [hty]; rfl) (by rw [hty]; rfl) hdg kk
theorem wk_putZ {idx ci k N cell : Nat} {C : String} {T : u_T} {ty : Nat → FieldType} {ks : List Nat} {z : Int} (C0 : wC p s m args c cc nL own D cA ad) (hf : wFl own idx ci k C T N ty) (hfin : (T k).2.2.2 = false) (hty : ty k = .boolean) (hz : z = 0 ∨ z = 1) (hP : wP D cA ad σ H) (hS : va_S (wA ad) H0 H locs) (hc : cell < 81) (hsh : wsh cell = .inr (ci, ks)) (hkd : ks[k]? = some 0) (hdg : decode cc pc = .ok (.putfield idx, 3))
    (kk : ∀ (u : Mem) (H1 : Heap) (locs1 : List Loc), u = up2 σ cell k z → wP D cA ad u H1 → va_S (wA ad) H0 H1 locs1 → W p l e R s m args below meth c H1 locs1 cells slots Q (F0 m (pc + 3) ls rest)) : W p l e R s m args below meth c H locs cells slots Q (F0 m pc ls (.int (iI z) :: .ref (ad cell) :: rest)) := wk_put (kd := 0) C0 hf hfin hP hS hc hsh hkd (by rw [hty]; exact (narrow_b hz).1) (by rw [hty]; exact (narrow_b hz).2) hdg kk
theorem wk_putJ {idx ci k N cell : Nat} {C : String} {T : u_T} {ty : Nat → FieldType} {ks : List Nat} {z : Int} (C0 : wC p s m args c cc nL own D cA ad) (hf : wFl own idx ci k C T N ty) (hfin : (T k).2.2.2 = false) (hty : ty k = .long) (hP : wP D cA ad σ H) (hS : va_S (wA ad) H0 H locs) (hc : cell < 81) (hsh : wsh cell = .inr (ci, ks)) (hkd : ks[k]? = some 1) (hdg : decode cc pc = .ok (.putfield idx, 3))
    (kk : ∀ (u : Mem) (H1 : Heap) (locs1 : List Loc), u = up2 σ cell k z → wP D cA ad u H1 → va_S (wA ad) H0 H1 locs1 → W p l e R s m args below meth c H1 locs1 cells slots Q (F0 m (pc + 3) ls rest)) : W p l e R s m args below meth c H locs cells slots Q (F0 m pc ls (.long (iL z) :: .ref (ad cell) :: rest)) := wk_put (kd := 1) C0 hf hfin hP hS hc hsh hkd (by rw [hty]; rfl) (by rw [hty]; rfl) hdg kk
theorem wk_iald {n cell : Nat} {i : Int} (C0 : wC p s m args c cc nL own D cA ad) (hP : wP D cA ad σ H) (hc : cell < 81) (hsh : wsh cell = .inl (0, n)) (h0 : 0 ≤ i) (h1 : i < (n : Int)) (hn : n ≤ 1000000) (hdg : decode cc pc = .ok (.iaload, 1))
    (kk : W p l e R s m args below meth c H locs cells slots Q (F0 m (pc + 1) ls (.int (iI (σ cell i.toNat)) :: rest))) : W p l e R s m args below meth c H locs cells slots Q (F0 m pc ls (.int (iI i) :: .ref (ad cell) :: rest)) := by
  obtain ⟨hx, hb, hml, hown, htb, hK, hI, hN⟩ := C0
  have he : (wl cA ad σ)[cell]? = some (ad cell, .inl (cA 0, n, .inl (fun j => iI (σ cell j)))) := by rw [wl_at hc, hsh]; rfl
  refine va_iald hx hb hK hP cell 0 he rfl (iI_in h0 h1 hn) hdg ?_
  rw [iI_cl h0 (by omega)]
  exact kk
theorem wk_lald {n cell : Nat} {i : Int} (C0 : wC p s m args c cc nL own D cA ad) (hP : wP D cA ad σ H) (hc : cell < 81) (hsh : wsh cell = .inl (1, n)) (h0 : 0 ≤ i) (h1 : i < (n : Int)) (hn : n ≤ 1000000) (hdg : decode cc pc = .ok (.laload, 1))
    (kk : W p l e R s m args below meth c H locs cells slots Q (F0 m (pc + 1) ls (.long (iL (σ cell i.toNat)) :: rest))) : W p l e R s m args below meth c H locs cells slots Q (F0 m pc ls (.int (iI i) :: .ref (ad cell) :: rest)) := by
  obtain ⟨hx, hb, hml, hown, htb, hK, hI, hN⟩ := C0
  have he : (wl cA ad σ)[cell]? = some (ad cell, .inl (cA 1, n, .inr (.inl (fun j => iL (σ cell j))))) := by rw [wl_at hc, hsh]; rfl
  refine va_lald hx hb hK hP cell 1 he rfl (iI_in h0 h1 hn) hdg ?_
  rw [iI_cl h0 (by omega)]
  exact kk
theorem wk_aaldI {i : Int} (C0 : wC p s m args c cc nL own D cA ad) (hP : wP D cA ad σ H) (h0 : 0 ≤ i) (h1 : i < 2) (hdg : decode cc pc = .ok (.aaload, 1))
    (kk : W p l e R s m args below meth c H locs cells slots Q (F0 m (pc + 1) ls (.ref (ad (27 + i.toNat)) :: rest))) : W p l e R s m args below meth c H locs cells slots Q (F0 m pc ls (.int (iI i) :: .ref (ad 26) :: rest)) := by
  obtain ⟨hx, hb, hml, hown, htb, hK, hI, hN⟩ := C0
  have he : (wl cA ad σ)[26]? = some (ad 26, .inl (cA 2, 2, .inr (.inr (.inr (.inr (fun j => some (ad (27 + j)))))))) := by rw [wl_at (by decide)]; rfl
  refine va_aldq hx hb hK hP 26 2 he rfl (iI_in h0 (by omega) (by omega)) hdg ?_
  rw [iI_cl h0 (by omega)]
  exact kk
theorem wk_aaldN {i : Int} (C0 : wC p s m args c cc nL own D cA ad) (hP : wP D cA ad σ H) (h0 : 0 ≤ i) (h1 : i < 6) (hdg : decode cc pc = .ok (.aaload, 1))
    (kk : W p l e R s m args below meth c H locs cells slots Q (F0 m (pc + 1) ls (.ref (ad (33 + 3 * i.toNat)) :: rest))) : W p l e R s m args below meth c H locs cells slots Q (F0 m pc ls (.int (iI i) :: .ref (ad 30) :: rest)) := by
  obtain ⟨hx, hb, hml, hown, htb, hK, hI, hN⟩ := C0
  have he : (wl cA ad σ)[30]? = some (ad 30, .inl (cA 3, 6, .inr (.inr (.inr (.inr (fun j => some (ad (33 + 3 * j)))))))) := by rw [wl_at (by decide)]; rfl
  refine va_aldq hx hb hK hP 30 3 he rfl (iI_in h0 (by omega) (by omega)) hdg ?_
  rw [iI_cl h0 (by omega)]
  exact kk
theorem up_iI (r : Nat → Int) (k : Nat) (z : Int) : upd (fun j => iI (r j)) k (iI z) = fun j => iI (up1 r k z j) := by
  funext j
  simp only [upd, up1]
  split <;> rfl
theorem up_iL (r : Nat → Int) (k : Nat) (z : Int) : vp_updL (fun j => iL (r j)) k (iL z) = fun j => iL (up1 r k z j) := by
  funext j
  simp only [vp_updL, up1]
  split <;> rfl
theorem wk_iast {n cell : Nat} {i z : Int} (C0 : wC p s m args c cc nL own D cA ad) (hP : wP D cA ad σ H) (hS : va_S (wA ad) H0 H locs) (hc : cell < 81) (hsh : wsh cell = .inl (0, n)) (h0 : 0 ≤ i) (h1 : i < (n : Int)) (hn : n ≤ 1000000) (hdg : decode cc pc = .ok (.iastore, 1))
    (kk : ∀ (u : Mem) (H1 : Heap) (locs1 : List Loc), u = up2 σ cell i.toNat z → wP D cA ad u H1 → va_S (wA ad) H0 H1 locs1 → W p l e R s m args below meth c H1 locs1 cells slots Q (F0 m (pc + 1) ls rest)) : W p l e R s m args below meth c H locs cells slots Q (F0 m pc ls (.int (iI z) :: .int (iI i) :: .ref (ad cell) :: rest)) := by
  obtain ⟨hx, hb, hml, hown, htb, hK, hI, hN⟩ := C0
  have he : (wl cA ad σ)[cell]? = some (ad cell, .inl (cA 0, n, .inl (fun j => iI (σ cell j)))) := by rw [wl_at hc, hsh]; rfl
  refine va_iast hx hb hK hP (wl_D hI) hS cell 0 he rfl (iI_in h0 h1 hn) hdg (fun H1 locs1 q1 q2 q3 => kk _ H1 locs1 rfl ?_ q3)
  rw [iI_cl h0 (by omega), up_iI, wl_set (r := up1 (σ cell) i.toNat z) hc (by rw [hsh]; rfl)] at q1
  exact q1
theorem wk_last {n cell : Nat} {i z : Int} (C0 : wC p s m args c cc nL own D cA ad) (hP : wP D cA ad σ H) (hS : va_S (wA ad) H0 H locs) (hc : cell < 81) (hsh : wsh cell = .inl (1, n)) (h0 : 0 ≤ i) (h1 : i < (n : Int)) (hn : n ≤ 1000000) (hdg : decode cc pc = .ok (.lastore, 1))
    (kk : ∀ (u : Mem) (H1 : Heap) (locs1 : List Loc), u = up2 σ cell i.toNat z → wP D cA ad u H1 → va_S (wA ad) H0 H1 locs1 → W p l e R s m args below meth c H1 locs1 cells slots Q (F0 m (pc + 1) ls rest)) : W p l e R s m args below meth c H locs cells slots Q (F0 m pc ls (.long (iL z) :: .int (iI i) :: .ref (ad cell) :: rest)) := by
  obtain ⟨hx, hb, hml, hown, htb, hK, hI, hN⟩ := C0
  have he : (wl cA ad σ)[cell]? = some (ad cell, .inl (cA 1, n, .inr (.inl (fun j => iL (σ cell j))))) := by rw [wl_at hc, hsh]; rfl
  refine va_last hx hb hK hP (wl_D hI) hS cell 1 he rfl (iI_in h0 h1 hn) hdg (fun H1 locs1 q1 q2 q3 => kk _ H1 locs1 rfl ?_ q3)
  rw [iI_cl h0 (by omega), up_iL, wl_set (r := up1 (σ cell) i.toNat z) hc (by rw [hsh]; rfl)] at q1
  exact q1
theorem cpy_iI (f g : Nat → Int) (n : Nat) : va_cpy (fun j => iI (f j)) (fun j => iI (g j)) 0 0 n = fun j => iI (if j < n then f j else g j) := by
  funext j
  simp only [va_cpy]
  by_cases h : j < n
  · rw [if_pos ⟨by omega, by omega⟩, if_pos h]; congr 2; omega
  · rw [if_neg (by omega), if_neg h]
theorem wk_copy {n0 n1 idx c0 c1 : Nat} {n : Int} (C0 : wC p s m args c cc nL own D cA ad) (hsz : ls.size = nL) (hlk : Cond.methodLink own idx arraycopyName ∈ tb) (hnat : Cond.native arraycopyName ∈ tb) (hstat : Cond.static arraycopyName ∈ tb) (hini : Cond.initialized "java/lang/System" ∈ tb) (hP : wP D cA ad σ H) (hS : va_S (wA ad) H0 H locs) (hc0 : c0 < 81) (hc1 : c1 < 81) (hs0 : wsh c0 = .inl (0, n0)) (hs1 : wsh c1 = .inl (0, n1)) (h0 : 0 ≤ n) (h1 : n ≤ (n0 : Int)) (h2 : n ≤ (n1 : Int)) (hn : n0 ≤ 1000000)
    (hframes : 1 ≤ R.frames) (hlocals : (rest.map fun v => v.category).sum + (nativeFrameWords "java/lang/System" "arraycopy" 5 + 11) ≤ R.locals) (hdg : decode cc pc = .ok (.invokestatic idx, 3))
    (kk : ∀ (u : Mem) (H1 : Heap) (locs1 : List Loc), u = upr σ c1 (fun j => if j < n.toNat then σ c0 j else σ c1 j) → wP D cA ad u H1 → va_S (wA ad) H0 H1 locs1 → W p l e R s m args below meth c H1 locs1 cells slots Q (F0 m (pc + 3) ls rest)) : W p l e R s m args below meth c H locs cells slots Q (F0 m pc ls (.int (iI n) :: .int (iI 0) :: .ref (ad c1) :: .int (iI 0) :: .ref (ad c0) :: rest)) := by
  obtain ⟨hx, hb, hml, hown, htb, hK, hI, hN⟩ := C0
  have he0 : (wl cA ad σ)[c0]? = some (ad c0, .inl (cA 0, n0, .inl (fun j => iI (σ c0 j)))) := by rw [wl_at hc0, hs0]; rfl
  have he1 : (wl cA ad σ)[c1]? = some (ad c1, .inl (cA 0, n1, .inl (fun j => iI (σ c1 j)))) := by rw [wl_at hc1, hs1]; rfl
  have z0 : (iI 0).toNatClampNeg = 0 := by rw [iI_cl (by omega) (by omega)]; rfl
  have zn : (iI n).toNatClampNeg = n.toNat := iI_cl h0 (by omega)
  have nz : ¬ iI 0 < 0 := by rw [iI_0, iI_lt inR_0 inR_0]; omega
  have nn : ¬ iI n < 0 := by rw [iI_0, iI_lt ⟨by omega, by omega⟩ inR_0]; omega
  refine va_copyi hx hb (by rw [hml, hsz]) hown (htb _ hlk) (htb _ hnat) (htb _ hstat) (htb _ hini) hK hP (wl_D hI) hS c0 c1 0 0 he0 he1 rfl rfl rfl nz nz nn (by rw [z0, zn]; omega) (by rw [z0, zn]; omega) (fun i _ => rfl) hframes hlocals hdg (fun H1 locs1 q1 q2 q3 => kk _ H1 locs1 rfl ?_ q3)
  rw [z0, zn, cpy_iI, wl_set (r := fun j => if j < n.toNat then σ c0 j else σ c1 j) hc1 (by rw [hs1]; rfl)] at q1
  exact q1
/-! calls -/
theorem wB_blind {av : List Value} : FrameBlind (va_Pc av (wB D cA ad σ)) := fun a U g mk q => ⟨q.1, q.2.1, va_K.moved (u := U) (U := U.calling g mk a) (Vm.Alike.refl U.vm) q.2.2.1, va_Nw.same rfl (rfl : U.vm = (U.calling g mk a).vm) q.2.2.2.1, va_Nw.same rfl (rfl : U.vm = (U.calling g mk a).vm) q.2.2.2.2⟩
theorem wk_callB {j idx maxL n : Nat} {y : MethodName} {bytes : ByteArray} {ret : Option FieldType} (C0 : wC p s m args c cc nL own D cA ad) (hcl : wCl own idx y bytes maxL ret n) (hR : j + 1 ≤ R.frames ∧ 8 + (maxL + 11) + 64 * j ≤ R.locals) : CallB R s args own idx y bytes maxL ret (.code y bytes maxL ret :: tb) (rmL j) 0 0 n := by
  obtain ⟨hx, hb, hml, hown, htb, hK, hI, hN⟩ := C0
  obtain ⟨q1, q2, q3, q4⟩ := hcl
  refine callB_of (Ts := tb) n htb (fun w hw => ?_) rfl rfl rfl (htb _ q3) (htb _ q1) q4 hR
  have hm : w ∈ tb := by
    rcases List.mem_cons.mp hw with h | h
    · rw [h]; exact q2
    · exact h
  exact ⟨hm, good_of_word (List.mem_filter.mp hm).2⟩
theorem wk_callV {j idx maxL n cl ci N : Nat} {T : u_T} {ks : List Nat} {y : MethodName} {bytes : ByteArray} {ret : Option FieldType} {As st : List Value} {Qc : Array Value → State → Outcome → State → Prop} (C0 : wC p s m args c cc nL own D cA ad) (hcl : wCv own idx y bytes maxL ret n)
    (hM : Met l y (.code y bytes maxL ret :: tb) (rmL j) (va_Pc (.ref (ad cl) :: As) (wB D cA ad σ)) Qc 0 0 (wA ad)) (hP : wP D cA ad σ H) (hc : cl < 81) (hsh : wsh cl = .inr (ci, ks)) (hcc : wcl[ci]? = some (y.cls, T, N)) (hn : As.length = n) (hst : st = As.reverse ++ .ref (ad cl) :: rest) (hW : (rest.map fun v => v.category).sum ≤ 8) (hR : j + 1 ≤ R.frames ∧ 8 + (maxL + 11) + 64 * j ≤ R.locals) (hsz : ls.size = nL) (hdg : decode cc pc = .ok (.invokevirtual idx, 3)) (hcs : cells ≤ R.cells ∧ slots ≤ R.slots) :
    va_Run p l e R s m args below meth c H locs cells slots 0 0 (F0 m pc ls st) rest (Qc (Value.ref (ad cl) :: As).toArray) (wA ad) := by
  have hB := wk_callB (R := R) (j := j) C0 hcl.1 hR
  obtain ⟨hx, hb, hml, hown, htb, hK, hI, hN⟩ := C0
  have he : (wl cA ad σ)[cl]? = some (ad cl, .inr (ci, wFs ad ks 0 (σ cl))) := by rw [wl_at hc, hsh]; rfl
  refine va_runV (Ts := tb) (C := y.cls) (As := As) (rest := rest) ⟨hx, hb, hml, hown, htb⟩ hM ⟨hB, htb _ hcl.2.1, htb _ hcl.2.2⟩ ⟨wB_blind, va_recv hK hP hcc he, fun U hU hW => ⟨rfl, by rw [hU]; exact hP, va_K.moved hW.alike hK, hN.warm hW⟩⟩ rfl hn hsz hst (lv_room hW) hdg hcs
theorem wk_callS {j idx maxL n : Nat} {y : MethodName} {bytes : ByteArray} {ret : Option FieldType} {As st : List Value} {Qc : Array Value → State → Outcome → State → Prop} (C0 : wC p s m args c cc nL own D cA ad) (hcl : wCs own idx y bytes maxL ret n)
    (hM : Met l y (.code y bytes maxL ret :: tb) (rmL j) (va_Pc As (wB D cA ad σ)) Qc 0 0 (wA ad)) (hP : wP D cA ad σ H) (hn : As.length = n) (hst : st = As.reverse ++ rest) (hW : (rest.map fun v => v.category).sum ≤ 8) (hR : j + 1 ≤ R.frames ∧ 8 + (maxL + 11) + 64 * j ≤ R.locals) (hsz : ls.size = nL) (hdg : decode cc pc = .ok (.invokestatic idx, 3)) (hcs : cells ≤ R.cells ∧ slots ≤ R.slots) :
    va_Run p l e R s m args below meth c H locs cells slots 0 0 (F0 m pc ls st) rest (Qc As.toArray) (wA ad) := by
  have hB := wk_callB (R := R) (j := j) C0 hcl.1 hR
  obtain ⟨hx, hb, hml, hown, htb, hK, hI, hN⟩ := C0
  refine va_runS (Ts := tb) (As := As) (rest := rest) ⟨hx, hb, hml, hown, htb⟩ hM ⟨hB, htb _ hcl.2⟩ ⟨wB_blind, fun U hU hW => ⟨rfl, by rw [hU]; exact hP, va_K.moved hW.alike hK, hN.warm hW⟩⟩ rfl hn hsz hst (lv_room hW) hdg hcs
theorem wk_callSN {j idx maxL n : Nat} {host : String} {y : MethodName} {bytes : ByteArray} {ret : Option FieldType} {As st : List Value} {Qc : Array Value → State → Outcome → State → Prop} (C0 : wC p s m args c cc nL own D cA ad) (hl : va_Nw (.methodLinkNest own idx y host) s) (h2 : Cond.code y bytes maxL ret ∈ tb) (h3 : Cond.initialized y.cls ∈ tb) (h5 : Cond.static y ∈ tb) (h4 : y.cls ≠ "java/lang/invoke/MethodHandle" ∧ y.cls ≠ "java/lang/invoke/VarHandle" ∧ (parseMethodDescriptor y.desc).map (fun d => d.parameters.length) = some n)
    (hM : Met l y (.code y bytes maxL ret :: tb) (rmL j) (va_Pc As (wB D cA ad σ)) Qc 0 0 (wA ad)) (hP : wP D cA ad σ H) (hn : As.length = n) (hst : st = As.reverse ++ rest) (hW : (rest.map fun v => v.category).sum ≤ 8) (hR : j + 1 ≤ R.frames ∧ 8 + (maxL + 11) + 64 * j ≤ R.locals) (hsz : ls.size = nL) (hdg : decode cc pc = .ok (.invokestatic idx, 3)) (hcs : cells ≤ R.cells ∧ slots ≤ R.slots) :
    va_Run p l e R s m args below meth c H locs cells slots 0 0 (F0 m pc ls st) rest (Qc As.toArray) (wA ad) := by
  obtain ⟨hx, hb, hml, hown, htb, hK, hI, hN⟩ := C0
  refine va_runSN (Ts := tb) (As := As) (rest := rest) ⟨hx, hb, hml, hown, htb⟩ hM ⟨va_cnB (Ts := tb) n htb (fun w hw => ?_) rfl rfl rfl hl (htb _ h3) h4 hR, htb _ h5, trivial⟩ ⟨wB_blind, fun U hU hW => ⟨rfl, by rw [hU]; exact hP, va_K.moved hW.alike hK, hN.warm hW⟩⟩ rfl hn hsz hst (lv_room hW) hdg hcs
  have hm : w ∈ tb := by
    rcases List.mem_cons.mp hw with h | h
    · rw [h]; exact h2
    · exact h
  exact ⟨hm, good_of_word (List.mem_filter.mp hm).2⟩
theorem wk_ri {st : List Value} {a : Array Value} {P : Int → Mem → Prop} (hr : va_Run p l e R s m args below meth c H locs cells slots 0 0 (F0 m pc ls st) rest (va_Qi (fun (r : Int32) (u : Mem) => ∃ z, r = iI z ∧ P z u) (wB D cA ad) (wA ad) a) (wA ad)) (hS : va_S (wA ad) H0 H locs)
    (kk : ∀ (z : Int) (u : Mem) (H1 : Heap) (locs1 : List Loc), P z u → wP D cA ad u H1 → va_S (wA ad) H0 H1 locs1 → W p l e R s m args below meth c H1 locs1 cells slots Q (F0 m (pc + 3) ls (.int (iI z) :: rest))) : W p l e R s m args below meth c H locs cells slots Q (F0 m pc ls st) :=
  va_calli hr hS (fun _ _ h => h) (fun _ h => h) (fun r u t H1 locs1 ht hvm hw hB hz1 hk1 hS1 => by
    obtain ⟨z, rfl, hw⟩ := hw
    exact kk z u H1 locs1 hw (by rw [← ht]; exact hB.1) hS1)
theorem wk_rip {st : List Value} {a : Array Value} {P : Int → Prop} (hr : va_Run p l e R s m args below meth c H locs cells slots 0 0 (F0 m pc ls st) rest (va_Qi (fun (r : Int32) (u : Mem) => ∃ z, r = iI z ∧ u = σ ∧ P z) (wB D cA ad) (wA ad) a) (wA ad)) (hS : va_S (wA ad) H0 H locs)
    (kk : ∀ (z : Int) (H1 : Heap) (locs1 : List Loc), P z → wP D cA ad σ H1 → va_S (wA ad) H0 H1 locs1 → W p l e R s m args below meth c H1 locs1 cells slots Q (F0 m (pc + 3) ls (.int (iI z) :: rest))) : W p l e R s m args below meth c H locs cells slots Q (F0 m pc ls st) :=
  va_calli hr hS (fun _ _ h => h) (fun _ h => h) (fun r u t H1 locs1 ht hvm hw hB hz1 hk1 hS1 => by
    obtain ⟨z, rfl, hu, hw⟩ := hw
    subst hu
    exact kk z H1 locs1 hw (by rw [← ht]; exact hB.1) hS1)
theorem wk_rlp {st : List Value} {a : Array Value} {P : Int → Prop} (hr : va_Run p l e R s m args below meth c H locs cells slots 0 0 (F0 m pc ls st) rest (va_Ql (fun (r : Int64) (u : Mem) => ∃ z, r = iL z ∧ u = σ ∧ P z) (wB D cA ad) (wA ad) a) (wA ad)) (hS : va_S (wA ad) H0 H locs)
    (kk : ∀ (z : Int) (H1 : Heap) (locs1 : List Loc), P z → wP D cA ad σ H1 → va_S (wA ad) H0 H1 locs1 → W p l e R s m args below meth c H1 locs1 cells slots Q (F0 m (pc + 3) ls (.long (iL z) :: rest))) : W p l e R s m args below meth c H locs cells slots Q (F0 m pc ls st) :=
  va_calll hr hS (fun _ _ h => h) (fun _ h => h) (fun r u t H1 locs1 ht hvm hw hB hz1 hk1 hS1 => by
    obtain ⟨z, rfl, hu, hw⟩ := hw
    subst hu
    exact kk z H1 locs1 hw (by rw [← ht]; exact hB.1) hS1)
theorem wk_rv {st : List Value} {a : Array Value} {P : Mem → Prop} (hr : va_Run p l e R s m args below meth c H locs cells slots 0 0 (F0 m pc ls st) rest (va_Qv (fun (u : Mem) => P u) (wB D cA ad) (wA ad) a) (wA ad)) (hS : va_S (wA ad) H0 H locs)
    (kk : ∀ (u : Mem) (H1 : Heap) (locs1 : List Loc), P u → wP D cA ad u H1 → va_S (wA ad) H0 H1 locs1 → W p l e R s m args below meth c H1 locs1 cells slots Q (F0 m (pc + 3) ls rest)) : W p l e R s m args below meth c H locs cells slots Q (F0 m pc ls st) :=
  va_callv hr hS (fun _ _ h => h) (fun _ h => h) (fun u t H1 locs1 ht hvm hw hB hz1 hk1 hS1 => kk u H1 locs1 hw (by rw [← ht]; exact hB.1) hS1)
/-! ends -/
theorem wk_iret {z : Int} {P : Int → Mem → Prop} (C0 : wC p s m args c cc nL own D cA ad) (hr : meth.sig.returnType = some .int) (hlocks : meth.locks = false) (hq : P z σ) (hP : wP D cA ad σ H) (hS : va_S (wA ad) s.heap H locs) (hdg : decode cc pc = .ok (.ireturn, 1)) :
    W p l e R s m args below meth c H locs cells slots (MQ below (va_Qi (fun (r : Int32) (u : Mem) => ∃ z, r = iI z ∧ P z u) (wB D cA ad) (wA ad)) args s cells slots (wA ad)) (F0 m pc ls [.int (iI z)]) :=
  W.iret C0.1 C0.2.1 hr (fun t ht hW => ⟨⟨iI z, σ, rfl, ⟨z, rfl, hq⟩, by rw [ht]; exact hP, va_K.moved hW.alike C0.2.2.2.2.2.1, C0.2.2.2.2.2.2.2.warm hW⟩, hS.F ht⟩) hS.2.2 hdg hlocks
theorem wk_zret {z : Int} {P : Int → Mem → Prop} (C0 : wC p s m args c cc nL own D cA ad) (hr : meth.sig.returnType = some .boolean) (hlocks : meth.locks = false) (hz : z = 0 ∨ z = 1) (hq : P z σ) (hP : wP D cA ad σ H) (hS : va_S (wA ad) s.heap H locs) (hdg : decode cc pc = .ok (.ireturn, 1)) :
    W p l e R s m args below meth c H locs cells slots (MQ below (va_Qi (fun (r : Int32) (u : Mem) => ∃ z, r = iI z ∧ P z u) (wB D cA ad) (wA ad)) args s cells slots (wA ad)) (F0 m pc ls [.int (iI z)]) :=
  W.zret C0.1 C0.2.1 hr (narrow_b hz).1 (fun t ht hW => ⟨⟨iI z, σ, rfl, ⟨z, rfl, hq⟩, by rw [ht]; exact hP, va_K.moved hW.alike C0.2.2.2.2.2.1, C0.2.2.2.2.2.2.2.warm hW⟩, hS.F ht⟩) hS.2.2 hdg hlocks
theorem wk_lret {z : Int} {P : Int → Mem → Prop} (C0 : wC p s m args c cc nL own D cA ad) (hr : meth.sig.returnType = some .long) (hlocks : meth.locks = false) (hq : P z σ) (hP : wP D cA ad σ H) (hS : va_S (wA ad) s.heap H locs) (hdg : decode cc pc = .ok (.lreturn, 1)) :
    W p l e R s m args below meth c H locs cells slots (MQ below (va_Ql (fun (r : Int64) (u : Mem) => ∃ z, r = iL z ∧ P z u) (wB D cA ad) (wA ad)) args s cells slots (wA ad)) (F0 m pc ls [.long (iL z)]) :=
  W.lret C0.1 C0.2.1 hr (fun t ht hW => ⟨⟨iL z, σ, rfl, ⟨z, rfl, hq⟩, by rw [ht]; exact hP, va_K.moved hW.alike C0.2.2.2.2.2.1, C0.2.2.2.2.2.2.2.warm hW⟩, hS.F ht⟩) hS.2.2 hdg hlocks
theorem wk_vret {P : Mem → Prop} (C0 : wC p s m args c cc nL own D cA ad) (hr : meth.sig.returnType = none) (hlocks : meth.locks = false) (hq : P σ) (hP : wP D cA ad σ H) (hS : va_S (wA ad) s.heap H locs) (hdg : decode cc pc = .ok (.return_, 1)) :
    W p l e R s m args below meth c H locs cells slots (MQ below (va_Qv (fun (u : Mem) => P u) (wB D cA ad) (wA ad)) args s cells slots (wA ad)) (F0 m pc ls []) :=
  W.vret C0.1 C0.2.1 hr (fun t ht hW => ⟨⟨σ, rfl, hq, by rw [ht]; exact hP, va_K.moved hW.alike C0.2.2.2.2.2.1, C0.2.2.2.2.2.2.2.warm hW⟩, hS.F ht⟩) hS.2.2 hdg hlocks
theorem wk_room {k j maxL : Nat} (h : j + 1 ≤ k) (hm : maxL ≤ 40) : j + 1 ≤ (rmL k).frames ∧ 8 + (maxL + 11) + 64 * j ≤ (rmL k).locals := by
  simp only [rmL]
  omega
theorem wk_ofI {y : MethodName} {bytes : ByteArray} {maxL j : Nat} {av : List Value} {P : Int → Mem → Prop} (hy : plainName y.cls = true) (hI : wI ad) (hlen : (lg_sl av).length ≤ maxL)
    (body : ∀ (p : Program) (e : Env) (s : State) (m : MethodId) (below : List Frame) (meth : Method) (c : Code) (A : Array Value) (QQ : State → Prop) (ls : Array Slot), wC p s m A c bytes maxL y.cls D cA ad → (∀ (z : Int) (σ : Mem) (H : Heap) (locs : List Loc) (pc : Nat) (ls : Array Slot), P z σ → wP D cA ad σ H → va_S (wA ad) s.heap H locs → decode bytes pc = .ok (.ireturn, 1) → W p l e (rmL j) s m A below meth c H locs 0 0 QQ (F0 m pc ls [.int (iI z)])) → lv_has ls maxL (lv_args 0 av) → wP D cA ad σ s.heap → W p l e (rmL j) s m A below meth c s.heap [] 0 0 QQ (F0 m 0 ls [])) :
    wMi l D cA ad y bytes maxL (some .int) j av σ P := by
  refine Met.ofW (cc := bytes) (maxL := maxL) (ret := some .int) hy rfl ?_
  intro p e s m args below meth c s₁ B hml hv
  obtain ⟨rfl, hP, hK, hN⟩ := hv
  have C0 : wC p s m av.toArray c bytes maxL y.cls D cA ad := ⟨B.exec, B.bytes, hml, findClass_of_methodNamed B.named, fun w h => atoms_spec (ws := .code y bytes maxL (some .int) :: tb) B.pre w (List.mem_cons_of_mem _ h), hK, hI, hN⟩
  have hl := lv_entry av (n := maxL) hlen
  rw [lg_entry_eq]
  exact body p e s m below meth c av.toArray _ _ C0 (fun z σ H locs pc ls hq hP hS hd => wk_iret C0 B.returns B.notSynchronized hq hP hS hd) hl hP
theorem wk_ofZ {y : MethodName} {bytes : ByteArray} {maxL j : Nat} {av : List Value} {P : Int → Mem → Prop} (hy : plainName y.cls = true) (hI : wI ad) (hlen : (lg_sl av).length ≤ maxL)
    (body : ∀ (p : Program) (e : Env) (s : State) (m : MethodId) (below : List Frame) (meth : Method) (c : Code) (A : Array Value) (QQ : State → Prop) (ls : Array Slot), wC p s m A c bytes maxL y.cls D cA ad → (∀ (z : Int) (σ : Mem) (H : Heap) (locs : List Loc) (pc : Nat) (ls : Array Slot), (z = 0 ∨ z = 1) → P z σ → wP D cA ad σ H → va_S (wA ad) s.heap H locs → decode bytes pc = .ok (.ireturn, 1) → W p l e (rmL j) s m A below meth c H locs 0 0 QQ (F0 m pc ls [.int (iI z)])) → lv_has ls maxL (lv_args 0 av) → wP D cA ad σ s.heap → W p l e (rmL j) s m A below meth c s.heap [] 0 0 QQ (F0 m 0 ls [])) :
    wMi l D cA ad y bytes maxL (some .boolean) j av σ P := by
  refine Met.ofW (cc := bytes) (maxL := maxL) (ret := some .boolean) hy rfl ?_
  intro p e s m args below meth c s₁ B hml hv
  obtain ⟨rfl, hP, hK, hN⟩ := hv
  have C0 : wC p s m av.toArray c bytes maxL y.cls D cA ad := ⟨B.exec, B.bytes, hml, findClass_of_methodNamed B.named, fun w h => atoms_spec (ws := .code y bytes maxL (some .boolean) :: tb) B.pre w (List.mem_cons_of_mem _ h), hK, hI, hN⟩
  have hl := lv_entry av (n := maxL) hlen
  rw [lg_entry_eq]
  exact body p e s m below meth c av.toArray _ _ C0 (fun z σ H locs pc ls hz hq hP hS hd => wk_zret C0 B.returns B.notSynchronized hz hq hP hS hd) hl hP
theorem wk_ofL {y : MethodName} {bytes : ByteArray} {maxL j : Nat} {av : List Value} {P : Int → Mem → Prop} (hy : plainName y.cls = true) (hI : wI ad) (hlen : (lg_sl av).length ≤ maxL)
    (body : ∀ (p : Program) (e : Env) (s : State) (m : MethodId) (below : List Frame) (meth : Method) (c : Code) (A : Array Value) (QQ : State → Prop) (ls : Array Slot), wC p s m A c bytes maxL y.cls D cA ad → (∀ (z : Int) (σ : Mem) (H : Heap) (locs : List Loc) (pc : Nat) (ls : Array Slot), P z σ → wP D cA ad σ H → va_S (wA ad) s.heap H locs → decode bytes pc = .ok (.lreturn, 1) → W p l e (rmL j) s m A below meth c H locs 0 0 QQ (F0 m pc ls [.long (iL z)])) → lv_has ls maxL (lv_args 0 av) → wP D cA ad σ s.heap → W p l e (rmL j) s m A below meth c s.heap [] 0 0 QQ (F0 m 0 ls [])) :
    wMl l D cA ad y bytes maxL (some .long) j av σ P := by
  refine Met.ofW (cc := bytes) (maxL := maxL) (ret := some .long) hy rfl ?_
  intro p e s m args below meth c s₁ B hml hv
  obtain ⟨rfl, hP, hK, hN⟩ := hv
  have C0 : wC p s m av.toArray c bytes maxL y.cls D cA ad := ⟨B.exec, B.bytes, hml, findClass_of_methodNamed B.named, fun w h => atoms_spec (ws := .code y bytes maxL (some .long) :: tb) B.pre w (List.mem_cons_of_mem _ h), hK, hI, hN⟩
  have hl := lv_entry av (n := maxL) hlen
  rw [lg_entry_eq]
  exact body p e s m below meth c av.toArray _ _ C0 (fun z σ H locs pc ls hq hP hS hd => wk_lret C0 B.returns B.notSynchronized hq hP hS hd) hl hP
theorem wk_ofV {y : MethodName} {bytes : ByteArray} {maxL j : Nat} {av : List Value} {P : Mem → Prop} (hy : plainName y.cls = true) (hI : wI ad) (hlen : (lg_sl av).length ≤ maxL)
    (body : ∀ (p : Program) (e : Env) (s : State) (m : MethodId) (below : List Frame) (meth : Method) (c : Code) (A : Array Value) (QQ : State → Prop) (ls : Array Slot), wC p s m A c bytes maxL y.cls D cA ad → (∀ (σ : Mem) (H : Heap) (locs : List Loc) (pc : Nat) (ls : Array Slot), P σ → wP D cA ad σ H → va_S (wA ad) s.heap H locs → decode bytes pc = .ok (.return_, 1) → W p l e (rmL j) s m A below meth c H locs 0 0 QQ (F0 m pc ls [])) → lv_has ls maxL (lv_args 0 av) → wP D cA ad σ s.heap → W p l e (rmL j) s m A below meth c s.heap [] 0 0 QQ (F0 m 0 ls [])) :
    wMv l D cA ad y bytes maxL none j av σ P := by
  refine Met.ofW (cc := bytes) (maxL := maxL) (ret := none) hy rfl ?_
  intro p e s m args below meth c s₁ B hml hv
  obtain ⟨rfl, hP, hK, hN⟩ := hv
  have C0 : wC p s m av.toArray c bytes maxL y.cls D cA ad := ⟨B.exec, B.bytes, hml, findClass_of_methodNamed B.named, fun w h => atoms_spec (ws := .code y bytes maxL none :: tb) B.pre w (List.mem_cons_of_mem _ h), hK, hI, hN⟩
  have hl := lv_entry av (n := maxL) hlen
  rw [lg_entry_eq]
  exact body p e s m below meth c av.toArray _ _ C0 (fun σ H locs pc ls hq hP hS hd => wk_vret C0 B.returns B.notSynchronized hq hP hS hd) hl hP
end WK
def isN (c : Nat) : Prop := c = 17 ∨ c = 20 ∨ c = 33 ∨ c = 36 ∨ c = 39 ∨ c = 42 ∨ c = 45 ∨ c = 48
theorem isN_sh {c : Nat} (h : isN c) : c + 2 < 81 ∧ wsh c = .inr (4, [3, c + 3, c + 4, 0]) ∧ wsh (c + 1) = .inl (0, 6) ∧ wsh (c + 2) = .inl (0, 6) := by
  rcases h with rfl | rfl | rfl | rfl | rfl | rfl | rfl | rfl <;> exact ⟨by decide, rfl, rfl, rfl⟩
theorem isN_i {i : Int} (h0 : 0 ≤ i) (h1 : i < 6) : isN (33 + 3 * i.toNat) := by unfold isN; omega
theorem isI_sh {i : Int} (h0 : 0 ≤ i) (h1 : i < 2) : wsh (27 + i.toNat) = .inr (2, [0, 1, 0, 0]) ∧ 27 + i.toNat < 81 := by
  have : i = 0 ∨ i = 1 := by omega
  rcases this with rfl | rfl <;> exact ⟨rfl, by decide⟩
theorem isN_17 : isN 17 := Or.inl rfl
theorem isN_20 : isN 20 := Or.inr (Or.inl rfl)
def isG (c : Nat) : Prop := c = 27 ∨ c = 28
theorem isG_sh {c : Nat} (h : isG c) : c < 81 ∧ wsh c = .inr (2, [0, 1, 0, 0]) := by
  rcases h with rfl | rfl <;> exact ⟨by decide, rfl⟩
theorem isG_i {i : Int} (h0 : 0 ≤ i) (h1 : i < 2) : isG (27 + i.toNat) := by unfold isG; omega
end
