-- the tables: goes FIRST, ahead of the names: the tables' words, and 'selects' of the private methods out of them =====
/-- a private method of a class that the tables say can be made, by its rows of tables_1 -/
def lw_okq (q : MethodName × Nat) : Prop := (q.1.cls ≠ "java/lang/invoke/MethodHandle" ∧ q.1.cls ≠ "java/lang/invoke/VarHandle") ∧ Cond.instantiable q.1.cls q.2 ∈ tables_1 ∧ Cond.privateMethod q.1 ∈ tables_1 ∧ Cond.instanceMethod q.1 ∈ tables_1
theorem lw_p0 : lw_okq (⟨"IntraPicture$FedBytes", "startsAt", "(I)Z"⟩, 4) := ⟨⟨by decide +kernel, by decide +kernel⟩, List.mem_of_getElem? (i := 27) (by decide +kernel), List.mem_of_getElem? (i := 340) (by decide +kernel), List.mem_of_getElem? (i := 341) (by decide +kernel)⟩
theorem lw_p1 : lw_okq (⟨"IntraPicture$FedBytes", "firstByteOf", "(I)I"⟩, 4) := ⟨⟨by decide +kernel, by decide +kernel⟩, List.mem_of_getElem? (i := 27) (by decide +kernel), List.mem_of_getElem? (i := 352) (by decide +kernel), List.mem_of_getElem? (i := 353) (by decide +kernel)⟩
theorem lw_p2 : lw_okq (⟨"IntraPicture$Parameters", "code", "()I"⟩, 5) := ⟨⟨by decide +kernel, by decide +kernel⟩, List.mem_of_getElem? (i := 66) (by decide +kernel), List.mem_of_getElem? (i := 375) (by decide +kernel), List.mem_of_getElem? (i := 376) (by decide +kernel)⟩
theorem lw_p3 : lw_okq (⟨"IntraPicture$Parameters", "number", "(I)I"⟩, 5) := ⟨⟨by decide +kernel, by decide +kernel⟩, List.mem_of_getElem? (i := 66) (by decide +kernel), List.mem_of_getElem? (i := 379) (by decide +kernel), List.mem_of_getElem? (i := 380) (by decide +kernel)⟩
theorem lw_p4 : lw_okq (⟨"IntraPicture$Parameters", "blame", "(I)V"⟩, 5) := ⟨⟨by decide +kernel, by decide +kernel⟩, List.mem_of_getElem? (i := 66) (by decide +kernel), List.mem_of_getElem? (i := 387) (by decide +kernel), List.mem_of_getElem? (i := 388) (by decide +kernel)⟩
theorem lw_p5 : lw_okq (⟨"IntraPicture$Parameters", "checked", "(III)I"⟩, 5) := ⟨⟨by decide +kernel, by decide +kernel⟩, List.mem_of_getElem? (i := 66) (by decide +kernel), List.mem_of_getElem? (i := 395) (by decide +kernel), List.mem_of_getElem? (i := 396) (by decide +kernel)⟩
theorem lw_p6 : lw_okq (⟨"IntraPicture$Parameters", "signedCode", "()I"⟩, 5) := ⟨⟨by decide +kernel, by decide +kernel⟩, List.mem_of_getElem? (i := 66) (by decide +kernel), List.mem_of_getElem? (i := 399) (by decide +kernel), List.mem_of_getElem? (i := 400) (by decide +kernel)⟩
theorem lw_p7 : lw_okq (⟨"IntraPicture$Picture", "splitAt", "(II)I"⟩, 9) := ⟨⟨by decide +kernel, by decide +kernel⟩, List.mem_of_getElem? (i := 154) (by decide +kernel), List.mem_of_getElem? (i := 417) (by decide +kernel), List.mem_of_getElem? (i := 418) (by decide +kernel)⟩
theorem lw_p8 : lw_okq (⟨"IntraPicture$Picture", "modeToTheLeft", "()I"⟩, 9) := ⟨⟨by decide +kernel, by decide +kernel⟩, List.mem_of_getElem? (i := 154) (by decide +kernel), List.mem_of_getElem? (i := 435) (by decide +kernel), List.mem_of_getElem? (i := 436) (by decide +kernel)⟩
theorem lw_p9 : lw_okq (⟨"IntraPicture$LevelReader", "readSizes", "()V"⟩, 6) := ⟨⟨by decide +kernel, by decide +kernel⟩, List.mem_of_getElem? (i := 192) (by decide +kernel), List.mem_of_getElem? (i := 453) (by decide +kernel), List.mem_of_getElem? (i := 454) (by decide +kernel)⟩
theorem lw_p10 : lw_okq (⟨"IntraPicture$LevelReader", "notZeroBefore", "(I)I"⟩, 6) := ⟨⟨by decide +kernel, by decide +kernel⟩, List.mem_of_getElem? (i := 192) (by decide +kernel), List.mem_of_getElem? (i := 459) (by decide +kernel), List.mem_of_getElem? (i := 460) (by decide +kernel)⟩
theorem lw_p11 : lw_okq (⟨"IntraPicture$LevelReader", "readSize", "()I"⟩, 6) := ⟨⟨by decide +kernel, by decide +kernel⟩, List.mem_of_getElem? (i := 192) (by decide +kernel), List.mem_of_getElem? (i := 463) (by decide +kernel), List.mem_of_getElem? (i := 464) (by decide +kernel)⟩
theorem lw_p12 : lw_okq (⟨"IntraPicture$LevelReader", "readSigns", "(Z)V"⟩, 6) := ⟨⟨by decide +kernel, by decide +kernel⟩, List.mem_of_getElem? (i := 192) (by decide +kernel), List.mem_of_getElem? (i := 468) (by decide +kernel), List.mem_of_getElem? (i := 469) (by decide +kernel)⟩
theorem lw_p13 : lw_okq (⟨"IntraPicture$LevelReader", "keepGroup", "(I)V"⟩, 6) := ⟨⟨by decide +kernel, by decide +kernel⟩, List.mem_of_getElem? (i := 192) (by decide +kernel), List.mem_of_getElem? (i := 474) (by decide +kernel), List.mem_of_getElem? (i := 475) (by decide +kernel)⟩
theorem lw_p14 : lw_okq (⟨"IntraPicture$Picture", "buildLeaf", "()V"⟩, 9) := ⟨⟨by decide +kernel, by decide +kernel⟩, List.mem_of_getElem? (i := 154) (by decide +kernel), List.mem_of_getElem? (i := 478) (by decide +kernel), List.mem_of_getElem? (i := 479) (by decide +kernel)⟩
theorem lw_p15 : lw_okq (⟨"IntraPicture$Residuals", "scaleLevels", "(LIntraPicture$Leaf;I)V"⟩, 4) := ⟨⟨by decide +kernel, by decide +kernel⟩, List.mem_of_getElem? (i := 217) (by decide +kernel), List.mem_of_getElem? (i := 486) (by decide +kernel), List.mem_of_getElem? (i := 487) (by decide +kernel)⟩
def lw_privs_1 : List (MethodName × Nat) := [(⟨"IntraPicture$FedBytes", "startsAt", "(I)Z"⟩, 4), (⟨"IntraPicture$FedBytes", "firstByteOf", "(I)I"⟩, 4), (⟨"IntraPicture$Parameters", "code", "()I"⟩, 5), (⟨"IntraPicture$Parameters", "number", "(I)I"⟩, 5), (⟨"IntraPicture$Parameters", "blame", "(I)V"⟩, 5), (⟨"IntraPicture$Parameters", "checked", "(III)I"⟩, 5), (⟨"IntraPicture$Parameters", "signedCode", "()I"⟩, 5), (⟨"IntraPicture$Picture", "splitAt", "(II)I"⟩, 9), (⟨"IntraPicture$Picture", "modeToTheLeft", "()I"⟩, 9), (⟨"IntraPicture$LevelReader", "readSizes", "()V"⟩, 6), (⟨"IntraPicture$LevelReader", "notZeroBefore", "(I)I"⟩, 6), (⟨"IntraPicture$LevelReader", "readSize", "()I"⟩, 6), (⟨"IntraPicture$LevelReader", "readSigns", "(Z)V"⟩, 6), (⟨"IntraPicture$LevelReader", "keepGroup", "(I)V"⟩, 6), (⟨"IntraPicture$Picture", "buildLeaf", "()V"⟩, 9), (⟨"IntraPicture$Residuals", "scaleLevels", "(LIntraPicture$Leaf;I)V"⟩, 4)]
theorem lw_r1 : ∀ q ∈ lw_privs_1, lw_okq q := List.forall_mem_cons.mpr ⟨lw_p0, List.forall_mem_cons.mpr ⟨lw_p1, List.forall_mem_cons.mpr ⟨lw_p2, List.forall_mem_cons.mpr ⟨lw_p3, List.forall_mem_cons.mpr ⟨lw_p4, List.forall_mem_cons.mpr ⟨lw_p5, List.forall_mem_cons.mpr ⟨lw_p6, List.forall_mem_cons.mpr ⟨lw_p7, List.forall_mem_cons.mpr ⟨lw_p8, List.forall_mem_cons.mpr ⟨lw_p9, List.forall_mem_cons.mpr ⟨lw_p10, List.forall_mem_cons.mpr ⟨lw_p11, List.forall_mem_cons.mpr ⟨lw_p12, List.forall_mem_cons.mpr ⟨lw_p13, List.forall_mem_cons.mpr ⟨lw_p14, List.forall_mem_cons.mpr ⟨lw_p15, fun _ h => absurd h List.not_mem_nil⟩⟩⟩⟩⟩⟩⟩⟩⟩⟩⟩⟩⟩⟩⟩⟩
theorem lw_p16 : lw_okq (⟨"IntraPicture$Residuals", "scaleWithoutMatrix", "(I)V"⟩, 4) := ⟨⟨by decide +kernel, by decide +kernel⟩, List.mem_of_getElem? (i := 217) (by decide +kernel), List.mem_of_getElem? (i := 502) (by decide +kernel), List.mem_of_getElem? (i := 503) (by decide +kernel)⟩
theorem lw_p17 : lw_okq (⟨"IntraPicture$Residuals", "goThroughColumns", "(I)V"⟩, 4) := ⟨⟨by decide +kernel, by decide +kernel⟩, List.mem_of_getElem? (i := 217) (by decide +kernel), List.mem_of_getElem? (i := 506) (by decide +kernel), List.mem_of_getElem? (i := 507) (by decide +kernel)⟩
theorem lw_p18 : lw_okq (⟨"IntraPicture$Residuals", "goThroughRows", "(I)V"⟩, 4) := ⟨⟨by decide +kernel, by decide +kernel⟩, List.mem_of_getElem? (i := 217) (by decide +kernel), List.mem_of_getElem? (i := 517) (by decide +kernel), List.mem_of_getElem? (i := 518) (by decide +kernel)⟩
theorem lw_p19 : lw_okq (⟨"IntraPicture$Predictor", "collect", "(LIntraPicture$Leaf;)V"⟩, 4) := ⟨⟨by decide +kernel, by decide +kernel⟩, List.mem_of_getElem? (i := 237) (by decide +kernel), List.mem_of_getElem? (i := 525) (by decide +kernel), List.mem_of_getElem? (i := 526) (by decide +kernel)⟩
theorem lw_p20 : lw_okq (⟨"IntraPicture$Predictor", "fillGaps", "()V"⟩, 4) := ⟨⟨by decide +kernel, by decide +kernel⟩, List.mem_of_getElem? (i := 237) (by decide +kernel), List.mem_of_getElem? (i := 532) (by decide +kernel), List.mem_of_getElem? (i := 533) (by decide +kernel)⟩
theorem lw_p21 : lw_okq (⟨"IntraPicture$Predictor", "smooth", "()V"⟩, 4) := ⟨⟨by decide +kernel, by decide +kernel⟩, List.mem_of_getElem? (i := 237) (by decide +kernel), List.mem_of_getElem? (i := 536) (by decide +kernel), List.mem_of_getElem? (i := 537) (by decide +kernel)⟩
theorem lw_p22 : lw_okq (⟨"IntraPicture$Predictor", "mean", "()I"⟩, 4) := ⟨⟨by decide +kernel, by decide +kernel⟩, List.mem_of_getElem? (i := 237) (by decide +kernel), List.mem_of_getElem? (i := 541) (by decide +kernel), List.mem_of_getElem? (i := 542) (by decide +kernel)⟩
theorem lw_p23 : lw_okq (⟨"IntraPicture$Predictor", "left", "(I)I"⟩, 4) := ⟨⟨by decide +kernel, by decide +kernel⟩, List.mem_of_getElem? (i := 237) (by decide +kernel), List.mem_of_getElem? (i := 545) (by decide +kernel), List.mem_of_getElem? (i := 546) (by decide +kernel)⟩
theorem lw_p24 : lw_okq (⟨"IntraPicture$Predictor", "above", "(I)I"⟩, 4) := ⟨⟨by decide +kernel, by decide +kernel⟩, List.mem_of_getElem? (i := 237) (by decide +kernel), List.mem_of_getElem? (i := 549) (by decide +kernel), List.mem_of_getElem? (i := 550) (by decide +kernel)⟩
theorem lw_p25 : lw_okq (⟨"IntraPicture$Predictor", "predictAt", "(III)I"⟩, 4) := ⟨⟨by decide +kernel, by decide +kernel⟩, List.mem_of_getElem? (i := 237) (by decide +kernel), List.mem_of_getElem? (i := 553) (by decide +kernel), List.mem_of_getElem? (i := 554) (by decide +kernel)⟩
theorem lw_p26 : lw_okq (⟨"IntraPicture$Predictor", "plane", "(II)I"⟩, 4) := ⟨⟨by decide +kernel, by decide +kernel⟩, List.mem_of_getElem? (i := 237) (by decide +kernel), List.mem_of_getElem? (i := 557) (by decide +kernel), List.mem_of_getElem? (i := 558) (by decide +kernel)⟩
theorem lw_p27 : lw_okq (⟨"IntraPicture$Predictor", "steep", "(II)I"⟩, 4) := ⟨⟨by decide +kernel, by decide +kernel⟩, List.mem_of_getElem? (i := 237) (by decide +kernel), List.mem_of_getElem? (i := 561) (by decide +kernel), List.mem_of_getElem? (i := 562) (by decide +kernel)⟩
theorem lw_p28 : lw_okq (⟨"IntraPicture$Predictor", "flat", "(II)I"⟩, 4) := ⟨⟨by decide +kernel, by decide +kernel⟩, List.mem_of_getElem? (i := 237) (by decide +kernel), List.mem_of_getElem? (i := 568) (by decide +kernel), List.mem_of_getElem? (i := 569) (by decide +kernel)⟩
theorem lw_p29 : lw_okq (⟨"IntraPicture$Predictor", "diagonal", "(II)I"⟩, 4) := ⟨⟨by decide +kernel, by decide +kernel⟩, List.mem_of_getElem? (i := 237) (by decide +kernel), List.mem_of_getElem? (i := 572) (by decide +kernel), List.mem_of_getElem? (i := 573) (by decide +kernel)⟩
theorem lw_p30 : lw_okq (⟨"IntraPicture$Predictor", "corner", "()I"⟩, 4) := ⟨⟨by decide +kernel, by decide +kernel⟩, List.mem_of_getElem? (i := 237) (by decide +kernel), List.mem_of_getElem? (i := 576) (by decide +kernel), List.mem_of_getElem? (i := 577) (by decide +kernel)⟩
theorem lw_p31 : lw_okq (⟨"IntraPicture$Finish", "smoothEdge", "(III)V"⟩, 2) := ⟨⟨by decide +kernel, by decide +kernel⟩, List.mem_of_getElem? (i := 256) (by decide +kernel), List.mem_of_getElem? (i := 596) (by decide +kernel), List.mem_of_getElem? (i := 597) (by decide +kernel)⟩
def lw_privs_2 : List (MethodName × Nat) := [(⟨"IntraPicture$Residuals", "scaleWithoutMatrix", "(I)V"⟩, 4), (⟨"IntraPicture$Residuals", "goThroughColumns", "(I)V"⟩, 4), (⟨"IntraPicture$Residuals", "goThroughRows", "(I)V"⟩, 4), (⟨"IntraPicture$Predictor", "collect", "(LIntraPicture$Leaf;)V"⟩, 4), (⟨"IntraPicture$Predictor", "fillGaps", "()V"⟩, 4), (⟨"IntraPicture$Predictor", "smooth", "()V"⟩, 4), (⟨"IntraPicture$Predictor", "mean", "()I"⟩, 4), (⟨"IntraPicture$Predictor", "left", "(I)I"⟩, 4), (⟨"IntraPicture$Predictor", "above", "(I)I"⟩, 4), (⟨"IntraPicture$Predictor", "predictAt", "(III)I"⟩, 4), (⟨"IntraPicture$Predictor", "plane", "(II)I"⟩, 4), (⟨"IntraPicture$Predictor", "steep", "(II)I"⟩, 4), (⟨"IntraPicture$Predictor", "flat", "(II)I"⟩, 4), (⟨"IntraPicture$Predictor", "diagonal", "(II)I"⟩, 4), (⟨"IntraPicture$Predictor", "corner", "()I"⟩, 4), (⟨"IntraPicture$Finish", "smoothEdge", "(III)V"⟩, 2)]
theorem lw_r2 : ∀ q ∈ lw_privs_2, lw_okq q := List.forall_mem_cons.mpr ⟨lw_p16, List.forall_mem_cons.mpr ⟨lw_p17, List.forall_mem_cons.mpr ⟨lw_p18, List.forall_mem_cons.mpr ⟨lw_p19, List.forall_mem_cons.mpr ⟨lw_p20, List.forall_mem_cons.mpr ⟨lw_p21, List.forall_mem_cons.mpr ⟨lw_p22, List.forall_mem_cons.mpr ⟨lw_p23, List.forall_mem_cons.mpr ⟨lw_p24, List.forall_mem_cons.mpr ⟨lw_p25, List.forall_mem_cons.mpr ⟨lw_p26, List.forall_mem_cons.mpr ⟨lw_p27, List.forall_mem_cons.mpr ⟨lw_p28, List.forall_mem_cons.mpr ⟨lw_p29, List.forall_mem_cons.mpr ⟨lw_p30, List.forall_mem_cons.mpr ⟨lw_p31, fun _ h => absurd h List.not_mem_nil⟩⟩⟩⟩⟩⟩⟩⟩⟩⟩⟩⟩⟩⟩⟩⟩
theorem lw_p32 : lw_okq (⟨"IntraPicture$Finish", "addOffsets", "([I)V"⟩, 2) := ⟨⟨by decide +kernel, by decide +kernel⟩, List.mem_of_getElem? (i := 256) (by decide +kernel), List.mem_of_getElem? (i := 604) (by decide +kernel), List.mem_of_getElem? (i := 605) (by decide +kernel)⟩
theorem lw_p33 : lw_okq (⟨"IntraPicture$Finish", "offsetNumber", "([III)I"⟩, 2) := ⟨⟨by decide +kernel, by decide +kernel⟩, List.mem_of_getElem? (i := 256) (by decide +kernel), List.mem_of_getElem? (i := 609) (by decide +kernel), List.mem_of_getElem? (i := 610) (by decide +kernel)⟩
theorem lw_p34 : lw_okq (⟨"IntraPicture$Finish", "numberByNeighbours", "(II)I"⟩, 2) := ⟨⟨by decide +kernel, by decide +kernel⟩, List.mem_of_getElem? (i := 256) (by decide +kernel), List.mem_of_getElem? (i := 613) (by decide +kernel), List.mem_of_getElem? (i := 614) (by decide +kernel)⟩
theorem lw_p35 : lw_okq (⟨"IntraPicture", "answerAt", "([IIII)I"⟩, 7) := ⟨⟨by decide +kernel, by decide +kernel⟩, List.mem_of_getElem? (i := 19) (by decide +kernel), List.mem_of_getElem? (i := 628) (by decide +kernel), List.mem_of_getElem? (i := 629) (by decide +kernel)⟩
theorem lw_p36 : lw_okq (⟨"IntraPictureModel", "start", "(I)I"⟩, 32) := ⟨⟨by decide +kernel, by decide +kernel⟩, List.mem_of_getElem? (i := 662) (by decide +kernel), List.mem_of_getElem? (i := 779) (by decide +kernel), List.mem_of_getElem? (i := 780) (by decide +kernel)⟩
theorem lw_p37 : lw_okq (⟨"IntraPictureModel", "open", "(I)Z"⟩, 32) := ⟨⟨by decide +kernel, by decide +kernel⟩, List.mem_of_getElem? (i := 662) (by decide +kernel), List.mem_of_getElem? (i := 787) (by decide +kernel), List.mem_of_getElem? (i := 788) (by decide +kernel)⟩
theorem lw_p38 : lw_okq (⟨"IntraPictureModel", "readParameters", "()V"⟩, 32) := ⟨⟨by decide +kernel, by decide +kernel⟩, List.mem_of_getElem? (i := 662) (by decide +kernel), List.mem_of_getElem? (i := 796) (by decide +kernel), List.mem_of_getElem? (i := 797) (by decide +kernel)⟩
theorem lw_p39 : lw_okq (⟨"IntraPictureModel", "code", "()I"⟩, 32) := ⟨⟨by decide +kernel, by decide +kernel⟩, List.mem_of_getElem? (i := 662) (by decide +kernel), List.mem_of_getElem? (i := 800) (by decide +kernel), List.mem_of_getElem? (i := 801) (by decide +kernel)⟩
theorem lw_p40 : lw_okq (⟨"IntraPictureModel", "needed", "(I)I"⟩, 32) := ⟨⟨by decide +kernel, by decide +kernel⟩, List.mem_of_getElem? (i := 662) (by decide +kernel), List.mem_of_getElem? (i := 804) (by decide +kernel), List.mem_of_getElem? (i := 805) (by decide +kernel)⟩
theorem lw_p41 : lw_okq (⟨"IntraPictureModel", "bit", "()I"⟩, 32) := ⟨⟨by decide +kernel, by decide +kernel⟩, List.mem_of_getElem? (i := 662) (by decide +kernel), List.mem_of_getElem? (i := 808) (by decide +kernel), List.mem_of_getElem? (i := 809) (by decide +kernel)⟩
theorem lw_p42 : lw_okq (⟨"IntraPictureModel", "within", "(III)I"⟩, 32) := ⟨⟨by decide +kernel, by decide +kernel⟩, List.mem_of_getElem? (i := 662) (by decide +kernel), List.mem_of_getElem? (i := 812) (by decide +kernel), List.mem_of_getElem? (i := 813) (by decide +kernel)⟩
theorem lw_p43 : lw_okq (⟨"IntraPictureModel", "signedCode", "()I"⟩, 32) := ⟨⟨by decide +kernel, by decide +kernel⟩, List.mem_of_getElem? (i := 662) (by decide +kernel), List.mem_of_getElem? (i := 816) (by decide +kernel), List.mem_of_getElem? (i := 817) (by decide +kernel)⟩
theorem lw_p44 : lw_okq (⟨"IntraPictureModel", "readPicture", "()V"⟩, 32) := ⟨⟨by decide +kernel, by decide +kernel⟩, List.mem_of_getElem? (i := 662) (by decide +kernel), List.mem_of_getElem? (i := 820) (by decide +kernel), List.mem_of_getElem? (i := 821) (by decide +kernel)⟩
theorem lw_p45 : lw_okq (⟨"IntraPictureModel", "shift", "()V"⟩, 32) := ⟨⟨by decide +kernel, by decide +kernel⟩, List.mem_of_getElem? (i := 662) (by decide +kernel), List.mem_of_getElem? (i := 824) (by decide +kernel), List.mem_of_getElem? (i := 825) (by decide +kernel)⟩
theorem lw_p46 : lw_okq (⟨"IntraPictureModel", "bin", "(I)I"⟩, 32) := ⟨⟨by decide +kernel, by decide +kernel⟩, List.mem_of_getElem? (i := 662) (by decide +kernel), List.mem_of_getElem? (i := 828) (by decide +kernel), List.mem_of_getElem? (i := 829) (by decide +kernel)⟩
theorem lw_p47 : lw_okq (⟨"IntraPictureModel", "readLeaf", "(III)V"⟩, 32) := ⟨⟨by decide +kernel, by decide +kernel⟩, List.mem_of_getElem? (i := 662) (by decide +kernel), List.mem_of_getElem? (i := 832) (by decide +kernel), List.mem_of_getElem? (i := 833) (by decide +kernel)⟩
def lw_privs_3 : List (MethodName × Nat) := [(⟨"IntraPicture$Finish", "addOffsets", "([I)V"⟩, 2), (⟨"IntraPicture$Finish", "offsetNumber", "([III)I"⟩, 2), (⟨"IntraPicture$Finish", "numberByNeighbours", "(II)I"⟩, 2), (⟨"IntraPicture", "answerAt", "([IIII)I"⟩, 7), (⟨"IntraPictureModel", "start", "(I)I"⟩, 32), (⟨"IntraPictureModel", "open", "(I)Z"⟩, 32), (⟨"IntraPictureModel", "readParameters", "()V"⟩, 32), (⟨"IntraPictureModel", "code", "()I"⟩, 32), (⟨"IntraPictureModel", "needed", "(I)I"⟩, 32), (⟨"IntraPictureModel", "bit", "()I"⟩, 32), (⟨"IntraPictureModel", "within", "(III)I"⟩, 32), (⟨"IntraPictureModel", "signedCode", "()I"⟩, 32), (⟨"IntraPictureModel", "readPicture", "()V"⟩, 32), (⟨"IntraPictureModel", "shift", "()V"⟩, 32), (⟨"IntraPictureModel", "bin", "(I)I"⟩, 32), (⟨"IntraPictureModel", "readLeaf", "(III)V"⟩, 32)]
theorem lw_r3 : ∀ q ∈ lw_privs_3, lw_okq q := List.forall_mem_cons.mpr ⟨lw_p32, List.forall_mem_cons.mpr ⟨lw_p33, List.forall_mem_cons.mpr ⟨lw_p34, List.forall_mem_cons.mpr ⟨lw_p35, List.forall_mem_cons.mpr ⟨lw_p36, List.forall_mem_cons.mpr ⟨lw_p37, List.forall_mem_cons.mpr ⟨lw_p38, List.forall_mem_cons.mpr ⟨lw_p39, List.forall_mem_cons.mpr ⟨lw_p40, List.forall_mem_cons.mpr ⟨lw_p41, List.forall_mem_cons.mpr ⟨lw_p42, List.forall_mem_cons.mpr ⟨lw_p43, List.forall_mem_cons.mpr ⟨lw_p44, List.forall_mem_cons.mpr ⟨lw_p45, List.forall_mem_cons.mpr ⟨lw_p46, List.forall_mem_cons.mpr ⟨lw_p47, fun _ h => absurd h List.not_mem_nil⟩⟩⟩⟩⟩⟩⟩⟩⟩⟩⟩⟩⟩⟩⟩⟩
theorem lw_p48 : lw_okq (⟨"IntraPictureModel", "frees", "(I)I"⟩, 32) := ⟨⟨by decide +kernel, by decide +kernel⟩, List.mem_of_getElem? (i := 662) (by decide +kernel), List.mem_of_getElem? (i := 836) (by decide +kernel), List.mem_of_getElem? (i := 837) (by decide +kernel)⟩
theorem lw_p49 : lw_okq (⟨"IntraPictureModel", "free", "()I"⟩, 32) := ⟨⟨by decide +kernel, by decide +kernel⟩, List.mem_of_getElem? (i := 662) (by decide +kernel), List.mem_of_getElem? (i := 840) (by decide +kernel), List.mem_of_getElem? (i := 841) (by decide +kernel)⟩
theorem lw_p50 : lw_okq (⟨"IntraPictureModel", "readGroup", "(II)V"⟩, 32) := ⟨⟨by decide +kernel, by decide +kernel⟩, List.mem_of_getElem? (i := 662) (by decide +kernel), List.mem_of_getElem? (i := 844) (by decide +kernel), List.mem_of_getElem? (i := 845) (by decide +kernel)⟩
theorem lw_p51 : lw_okq (⟨"IntraPictureModel", "sizeOfLevel", "()I"⟩, 32) := ⟨⟨by decide +kernel, by decide +kernel⟩, List.mem_of_getElem? (i := 662) (by decide +kernel), List.mem_of_getElem? (i := 851) (by decide +kernel), List.mem_of_getElem? (i := 852) (by decide +kernel)⟩
theorem lw_p52 : lw_okq (⟨"IntraPictureModel", "restore", "()V"⟩, 32) := ⟨⟨by decide +kernel, by decide +kernel⟩, List.mem_of_getElem? (i := 662) (by decide +kernel), List.mem_of_getElem? (i := 855) (by decide +kernel), List.mem_of_getElem? (i := 856) (by decide +kernel)⟩
theorem lw_p53 : lw_okq (⟨"IntraPictureModel", "references", "(I)V"⟩, 32) := ⟨⟨by decide +kernel, by decide +kernel⟩, List.mem_of_getElem? (i := 662) (by decide +kernel), List.mem_of_getElem? (i := 859) (by decide +kernel), List.mem_of_getElem? (i := 860) (by decide +kernel)⟩
theorem lw_p54 : lw_okq (⟨"IntraPictureModel", "reference", "(II)I"⟩, 32) := ⟨⟨by decide +kernel, by decide +kernel⟩, List.mem_of_getElem? (i := 662) (by decide +kernel), List.mem_of_getElem? (i := 863) (by decide +kernel), List.mem_of_getElem? (i := 864) (by decide +kernel)⟩
theorem lw_p55 : lw_okq (⟨"IntraPictureModel", "predict", "(III)I"⟩, 32) := ⟨⟨by decide +kernel, by decide +kernel⟩, List.mem_of_getElem? (i := 662) (by decide +kernel), List.mem_of_getElem? (i := 867) (by decide +kernel), List.mem_of_getElem? (i := 868) (by decide +kernel)⟩
theorem lw_p56 : lw_okq (⟨"IntraPictureModel", "toLeft", "(II)I"⟩, 32) := ⟨⟨by decide +kernel, by decide +kernel⟩, List.mem_of_getElem? (i := 662) (by decide +kernel), List.mem_of_getElem? (i := 871) (by decide +kernel), List.mem_of_getElem? (i := 872) (by decide +kernel)⟩
theorem lw_p57 : lw_okq (⟨"IntraPictureModel", "above", "(II)I"⟩, 32) := ⟨⟨by decide +kernel, by decide +kernel⟩, List.mem_of_getElem? (i := 662) (by decide +kernel), List.mem_of_getElem? (i := 875) (by decide +kernel), List.mem_of_getElem? (i := 876) (by decide +kernel)⟩
theorem lw_p58 : lw_okq (⟨"IntraPictureModel", "mean", "(I)I"⟩, 32) := ⟨⟨by decide +kernel, by decide +kernel⟩, List.mem_of_getElem? (i := 662) (by decide +kernel), List.mem_of_getElem? (i := 879) (by decide +kernel), List.mem_of_getElem? (i := 880) (by decide +kernel)⟩
theorem lw_p59 : lw_okq (⟨"IntraPictureModel", "residual", "(III)I"⟩, 32) := ⟨⟨by decide +kernel, by decide +kernel⟩, List.mem_of_getElem? (i := 662) (by decide +kernel), List.mem_of_getElem? (i := 883) (by decide +kernel), List.mem_of_getElem? (i := 884) (by decide +kernel)⟩
theorem lw_p60 : lw_okq (⟨"IntraPictureModel", "coefficient", "(III)I"⟩, 32) := ⟨⟨by decide +kernel, by decide +kernel⟩, List.mem_of_getElem? (i := 662) (by decide +kernel), List.mem_of_getElem? (i := 887) (by decide +kernel), List.mem_of_getElem? (i := 888) (by decide +kernel)⟩
theorem lw_p61 : lw_okq (⟨"IntraPictureModel", "matrix", "(III)I"⟩, 32) := ⟨⟨by decide +kernel, by decide +kernel⟩, List.mem_of_getElem? (i := 662) (by decide +kernel), List.mem_of_getElem? (i := 894) (by decide +kernel), List.mem_of_getElem? (i := 895) (by decide +kernel)⟩
theorem lw_p62 : lw_okq (⟨"IntraPictureModel", "half", "(III)I"⟩, 32) := ⟨⟨by decide +kernel, by decide +kernel⟩, List.mem_of_getElem? (i := 662) (by decide +kernel), List.mem_of_getElem? (i := 898) (by decide +kernel), List.mem_of_getElem? (i := 899) (by decide +kernel)⟩
theorem lw_p63 : lw_okq (⟨"IntraPictureModel", "smoothEdge", "(II)V"⟩, 32) := ⟨⟨by decide +kernel, by decide +kernel⟩, List.mem_of_getElem? (i := 662) (by decide +kernel), List.mem_of_getElem? (i := 902) (by decide +kernel), List.mem_of_getElem? (i := 903) (by decide +kernel)⟩
def lw_privs_4 : List (MethodName × Nat) := [(⟨"IntraPictureModel", "frees", "(I)I"⟩, 32), (⟨"IntraPictureModel", "free", "()I"⟩, 32), (⟨"IntraPictureModel", "readGroup", "(II)V"⟩, 32), (⟨"IntraPictureModel", "sizeOfLevel", "()I"⟩, 32), (⟨"IntraPictureModel", "restore", "()V"⟩, 32), (⟨"IntraPictureModel", "references", "(I)V"⟩, 32), (⟨"IntraPictureModel", "reference", "(II)I"⟩, 32), (⟨"IntraPictureModel", "predict", "(III)I"⟩, 32), (⟨"IntraPictureModel", "toLeft", "(II)I"⟩, 32), (⟨"IntraPictureModel", "above", "(II)I"⟩, 32), (⟨"IntraPictureModel", "mean", "(I)I"⟩, 32), (⟨"IntraPictureModel", "residual", "(III)I"⟩, 32), (⟨"IntraPictureModel", "coefficient", "(III)I"⟩, 32), (⟨"IntraPictureModel", "matrix", "(III)I"⟩, 32), (⟨"IntraPictureModel", "half", "(III)I"⟩, 32), (⟨"IntraPictureModel", "smoothEdge", "(II)V"⟩, 32)]
theorem lw_r4 : ∀ q ∈ lw_privs_4, lw_okq q := List.forall_mem_cons.mpr ⟨lw_p48, List.forall_mem_cons.mpr ⟨lw_p49, List.forall_mem_cons.mpr ⟨lw_p50, List.forall_mem_cons.mpr ⟨lw_p51, List.forall_mem_cons.mpr ⟨lw_p52, List.forall_mem_cons.mpr ⟨lw_p53, List.forall_mem_cons.mpr ⟨lw_p54, List.forall_mem_cons.mpr ⟨lw_p55, List.forall_mem_cons.mpr ⟨lw_p56, List.forall_mem_cons.mpr ⟨lw_p57, List.forall_mem_cons.mpr ⟨lw_p58, List.forall_mem_cons.mpr ⟨lw_p59, List.forall_mem_cons.mpr ⟨lw_p60, List.forall_mem_cons.mpr ⟨lw_p61, List.forall_mem_cons.mpr ⟨lw_p62, List.forall_mem_cons.mpr ⟨lw_p63, fun _ h => absurd h List.not_mem_nil⟩⟩⟩⟩⟩⟩⟩⟩⟩⟩⟩⟩⟩⟩⟩⟩
theorem lw_p64 : lw_okq (⟨"IntraPictureModel", "offset", "(I)I"⟩, 32) := ⟨⟨by decide +kernel, by decide +kernel⟩, List.mem_of_getElem? (i := 662) (by decide +kernel), List.mem_of_getElem? (i := 909) (by decide +kernel), List.mem_of_getElem? (i := 910) (by decide +kernel)⟩
theorem lw_p65 : lw_okq (⟨"IntraPictureModel", "seen", "(II)Z"⟩, 32) := ⟨⟨by decide +kernel, by decide +kernel⟩, List.mem_of_getElem? (i := 662) (by decide +kernel), List.mem_of_getElem? (i := 924) (by decide +kernel), List.mem_of_getElem? (i := 925) (by decide +kernel)⟩
def lw_privs_5 : List (MethodName × Nat) := [(⟨"IntraPictureModel", "offset", "(I)I"⟩, 32), (⟨"IntraPictureModel", "seen", "(II)Z"⟩, 32)]
theorem lw_r5 : ∀ q ∈ lw_privs_5, lw_okq q := List.forall_mem_cons.mpr ⟨lw_p64, List.forall_mem_cons.mpr ⟨lw_p65, fun _ h => absurd h List.not_mem_nil⟩⟩
def lw_privs : List (MethodName × Nat) := lw_privs_1 ++ (lw_privs_2 ++ (lw_privs_3 ++ (lw_privs_4 ++ (lw_privs_5))))
def lw_tbl : List Cond := k2_sels lw_privs ++ tables_1
theorem lw_privs_ok : ∀ q ∈ lw_privs, lw_okq q := by
  show ∀ q ∈ lw_privs_1 ++ (lw_privs_2 ++ (lw_privs_3 ++ (lw_privs_4 ++ (lw_privs_5)))), lw_okq q
  exact List.forall_mem_append.mpr ⟨lw_r1, List.forall_mem_append.mpr ⟨lw_r2, List.forall_mem_append.mpr ⟨lw_r3, List.forall_mem_append.mpr ⟨lw_r4, lw_r5⟩⟩⟩⟩
/-- the words of the tables that any method may take along -/
def ipW : List Cond := lw_tbl.filter goodWord
theorem ip_wt {w : Cond} (h : w ∈ tables_1) (hg : goodWord w = true) : w ∈ ipW := List.mem_filter.mpr ⟨List.mem_append_right _ h, hg⟩
theorem ip_ws {w : Cond} (i : Nat) (h : (k2_sels lw_privs)[i]? = some w) (hg : goodWord w = true) : w ∈ ipW := List.mem_filter.mpr ⟨List.mem_append_left _ (List.mem_of_getElem? h), hg⟩
theorem ip_w1 {w : Cond} (i : Nat) (h : tables_1_1[i]? = some w) (hg : goodWord w = true) : w ∈ ipW := ip_wt (List.mem_append_left _ (List.mem_of_getElem? h)) hg
theorem ip_w2 {w : Cond} (i : Nat) (h : tables_1_2[i]? = some w) (hg : goodWord w = true) : w ∈ ipW := ip_wt (List.mem_append_right _ (List.mem_append_left _ (List.mem_of_getElem? h))) hg
theorem ip_w3 {w : Cond} (i : Nat) (h : tables_1_3[i]? = some w) (hg : goodWord w = true) : w ∈ ipW := ip_wt (List.mem_append_right _ (List.mem_append_right _ (List.mem_append_left _ (List.mem_of_getElem? h)))) hg
theorem ip_w4 {w : Cond} (i : Nat) (h : tables_1_4[i]? = some w) (hg : goodWord w = true) : w ∈ ipW := ip_wt (List.mem_append_right _ (List.mem_append_right _ (List.mem_append_right _ (List.mem_of_getElem? h)))) hg
theorem ip_gd {c1 c2 : Cond} (h2 : c2 ∈ ipW) : GoodIn (c1 :: ipW) (c2 :: ipW) := fun w h => by
  rcases List.mem_cons.mp h with rfl | h
  · exact ⟨List.mem_cons_of_mem _ h2, good_of_word (List.mem_filter.mp h2).2⟩
  · exact ⟨List.mem_cons_of_mem _ h, good_of_word (List.mem_filter.mp h).2⟩
theorem ip_gw {c1 w : Cond} (h : w ∈ ipW) : w ∈ c1 :: ipW ∧ ((w.onTables && w.keeps) = true ∨ ∃ ty, w = .arrayClass ty) := ⟨List.mem_cons_of_mem _ h, good_of_word (List.mem_filter.mp h).2⟩
theorem ip_gdV {c1 c2 : Cond} {own C : String} {idx : Nat} {y : MethodName} (a1 : Cond.methodLink own idx y ∈ ipW) (a2 : Cond.instanceMethod y ∈ ipW) (a3 : Cond.selects C y y ∈ ipW) (a4 : Cond.initialized C ∈ ipW) (h2 : c2 ∈ ipW) : GoodIn (c1 :: ipW) (wsV own idx C y (c2 :: ipW)) := fun w h => by
  rcases List.mem_append.mp h with h | h
  · simp only [List.mem_cons, List.not_mem_nil, or_false] at h
    rcases h with rfl | rfl | rfl | rfl
    · exact ip_gw a1
    · exact ip_gw a2
    · exact ip_gw a3
    · exact ip_gw a4
  · exact ip_gd h2 w h
theorem ip_gdS {c1 c2 : Cond} {own : String} {idx : Nat} {y : MethodName} (a1 : Cond.methodLink own idx y ∈ ipW) (a2 : Cond.static y ∈ ipW) (a4 : Cond.initialized y.cls ∈ ipW) (h2 : c2 ∈ ipW) : GoodIn (c1 :: ipW) (va_wsS own idx y (c2 :: ipW)) := fun w h => by
  rcases List.mem_append.mp h with h | h
  · simp only [List.mem_cons, List.not_mem_nil, or_false] at h
    rcases h with rfl | rfl | rfl
    · exact ip_gw a1
    · exact ip_gw a2
    · exact ip_gw a4
  · exact ip_gd h2 w h
def kR_IP : String := "IntraPicture"
def kR_FB : String := "IntraPicture$FedBytes"
def kR_RB : String := "IntraPicture$RestBits"
def kR_PA : String := "IntraPicture$Parameters"
def kR_BD : String := "IntraPicture$BinDecoder"
def kR_LF : String := "IntraPicture$Leaf"
def kR_RW : String := "IntraPicture$Rows"
def kR_PI : String := "IntraPicture$Picture"
def kR_LR : String := "IntraPicture$LevelReader"
def kR_RS : String := "IntraPicture$Residuals"
def kR_PR : String := "IntraPicture$Predictor"
def kR_FI : String := "IntraPicture$Finish"
def kR_MO : String := "IntraPictureModel"
def kR_AR : String := "java/util/Arrays"
def kR_JI : String := "java/lang/Integer"
def kT_IP : u_T := fun k => match k with
  | 0 => ("IntraPicture", "fed", "LIntraPicture$FedBytes;", true)
  | 1 => ("IntraPicture", "rest", "LIntraPicture$RestBits;", true)
  | 2 => ("IntraPicture", "parameters", "LIntraPicture$Parameters;", true)
  | 3 => ("IntraPicture", "bins", "LIntraPicture$BinDecoder;", true)
  | 4 => ("IntraPicture", "rows", "LIntraPicture$Rows;", true)
  | 5 => ("IntraPicture", "picture", "LIntraPicture$Picture;", true)
  | _ => ("IntraPicture", "pictureStands", "Z", false)
def kty_IP : Nat → FieldType := fun k => match k with
  | 0 => .object "IntraPicture$FedBytes"
  | 1 => .object "IntraPicture$RestBits"
  | 2 => .object "IntraPicture$Parameters"
  | 3 => .object "IntraPicture$BinDecoder"
  | 4 => .object "IntraPicture$Rows"
  | 5 => .object "IntraPicture$Picture"
  | _ => .boolean
theorem knm_IP : ∀ a, a < 7 → ∀ b, b < 7 → a ≠ b → (kT_IP a).2.1 ≠ (kT_IP b).2.1 := by decide +kernel
theorem kto_IP : ∀ k, k < 7 → parseFieldDescriptor (kT_IP k).2.2.1 = some (kty_IP k) := by decide +kernel
def kT_FB : u_T := fun k => match k with
  | 0 => ("IntraPicture$FedBytes", "bytes", "[I", true)
  | 1 => ("IntraPicture$FedBytes", "chosen", "[I", true)
  | 2 => ("IntraPicture$FedBytes", "count", "I", false)
  | _ => ("IntraPicture$FedBytes", "chosenLength", "I", false)
def kty_FB : Nat → FieldType := fun k => match k with
  | 0 => .array .int
  | 1 => .array .int
  | 2 => .int
  | _ => .int
theorem knm_FB : ∀ a, a < 4 → ∀ b, b < 4 → a ≠ b → (kT_FB a).2.1 ≠ (kT_FB b).2.1 := by decide +kernel
theorem kto_FB : ∀ k, k < 4 → parseFieldDescriptor (kT_FB k).2.2.1 = some (kty_FB k) := by decide +kernel
def kT_RB : u_T := fun k => match k with
  | 0 => ("IntraPicture$RestBits", "bytes", "[I", true)
  | 1 => ("IntraPicture$RestBits", "place", "I", false)
  | _ => ("IntraPicture$RestBits", "end", "I", false)
def kty_RB : Nat → FieldType := fun k => match k with
  | 0 => .array .int
  | 1 => .int
  | _ => .int
theorem knm_RB : ∀ a, a < 3 → ∀ b, b < 3 → a ≠ b → (kT_RB a).2.1 ≠ (kT_RB b).2.1 := by decide +kernel
theorem kto_RB : ∀ k, k < 3 → parseFieldDescriptor (kT_RB k).2.2.1 = some (kty_RB k) := by decide +kernel
def kT_PA : u_T := fun k => match k with
  | 0 => ("IntraPicture$Parameters", "rest", "LIntraPicture$RestBits;", true)
  | 1 => ("IntraPicture$Parameters", "values", "[I", true)
  | 2 => ("IntraPicture$Parameters", "coming", "[I", true)
  | 3 => ("IntraPicture$Parameters", "there", "Z", false)
  | _ => ("IntraPicture$Parameters", "fault", "I", false)
def kty_PA : Nat → FieldType := fun k => match k with
  | 0 => .object "IntraPicture$RestBits"
  | 1 => .array .int
  | 2 => .array .int
  | 3 => .boolean
  | _ => .int
theorem knm_PA : ∀ a, a < 5 → ∀ b, b < 5 → a ≠ b → (kT_PA a).2.1 ≠ (kT_PA b).2.1 := by decide +kernel
theorem kto_PA : ∀ k, k < 5 → parseFieldDescriptor (kT_PA k).2.2.1 = some (kty_PA k) := by decide +kernel
def kT_BD : u_T := fun k => match k with
  | 0 => ("IntraPicture$BinDecoder", "rest", "LIntraPicture$RestBits;", true)
  | 1 => ("IntraPicture$BinDecoder", "chances", "[I", true)
  | 2 => ("IntraPicture$BinDecoder", "counts", "[I", true)
  | 3 => ("IntraPicture$BinDecoder", "range", "I", false)
  | _ => ("IntraPicture$BinDecoder", "value", "I", false)
def kty_BD : Nat → FieldType := fun k => match k with
  | 0 => .object "IntraPicture$RestBits"
  | 1 => .array .int
  | 2 => .array .int
  | 3 => .int
  | _ => .int
theorem knm_BD : ∀ a, a < 5 → ∀ b, b < 5 → a ≠ b → (kT_BD a).2.1 ≠ (kT_BD b).2.1 := by decide +kernel
theorem kto_BD : ∀ k, k < 5 → parseFieldDescriptor (kT_BD k).2.2.1 = some (kty_BD k) := by decide +kernel
def kT_LF : u_T := fun k => match k with
  | 0 => ("IntraPicture$Leaf", "x", "I", false)
  | 1 => ("IntraPicture$Leaf", "y", "I", false)
  | 2 => ("IntraPicture$Leaf", "side", "I", false)
  | 3 => ("IntraPicture$Leaf", "mode", "I", false)
  | _ => ("IntraPicture$Leaf", "skip", "Z", false)
def kty_LF : Nat → FieldType := fun k => match k with
  | 0 => .int
  | 1 => .int
  | 2 => .int
  | 3 => .int
  | _ => .boolean
theorem knm_LF : ∀ a, a < 5 → ∀ b, b < 5 → a ≠ b → (kT_LF a).2.1 ≠ (kT_LF b).2.1 := by decide +kernel
theorem kto_LF : ∀ k, k < 5 → parseFieldDescriptor (kT_LF k).2.2.1 = some (kty_LF k) := by decide +kernel
def kT_RW : u_T := fun k => match k with
  | 0 => ("IntraPicture$Rows", "samples", "[I", true)
  | 1 => ("IntraPicture$Rows", "plain", "[I", true)
  | 2 => ("IntraPicture$Rows", "predicted", "[I", true)
  | 3 => ("IntraPicture$Rows", "levels", "[I", true)
  | 4 => ("IntraPicture$Rows", "modes", "[I", true)
  | _ => ("IntraPicture$Rows", "sides", "[I", true)
def kty_RW : Nat → FieldType := fun k => match k with
  | 0 => .array .int
  | 1 => .array .int
  | 2 => .array .int
  | 3 => .array .int
  | 4 => .array .int
  | _ => .array .int
theorem knm_RW : ∀ a, a < 6 → ∀ b, b < 6 → a ≠ b → (kT_RW a).2.1 ≠ (kT_RW b).2.1 := by decide +kernel
theorem kto_RW : ∀ k, k < 6 → parseFieldDescriptor (kT_RW k).2.2.1 = some (kty_RW k) := by decide +kernel
def kT_PI : u_T := fun k => match k with
  | 0 => ("IntraPicture$Picture", "bins", "LIntraPicture$BinDecoder;", true)
  | 1 => ("IntraPicture$Picture", "parameters", "[I", true)
  | 2 => ("IntraPicture$Picture", "rows", "LIntraPicture$Rows;", true)
  | 3 => ("IntraPicture$Picture", "leaf", "LIntraPicture$Leaf;", true)
  | 4 => ("IntraPicture$Picture", "levelReader", "LIntraPicture$LevelReader;", true)
  | 5 => ("IntraPicture$Picture", "residuals", "LIntraPicture$Residuals;", true)
  | 6 => ("IntraPicture$Picture", "predictor", "LIntraPicture$Predictor;", true)
  | 7 => ("IntraPicture$Picture", "finish", "LIntraPicture$Finish;", true)
  | _ => ("IntraPicture$Picture", "leaves", "I", false)
def kty_PI : Nat → FieldType := fun k => match k with
  | 0 => .object "IntraPicture$BinDecoder"
  | 1 => .array .int
  | 2 => .object "IntraPicture$Rows"
  | 3 => .object "IntraPicture$Leaf"
  | 4 => .object "IntraPicture$LevelReader"
  | 5 => .object "IntraPicture$Residuals"
  | 6 => .object "IntraPicture$Predictor"
  | 7 => .object "IntraPicture$Finish"
  | _ => .int
theorem knm_PI : ∀ a, a < 9 → ∀ b, b < 9 → a ≠ b → (kT_PI a).2.1 ≠ (kT_PI b).2.1 := by decide +kernel
theorem kto_PI : ∀ k, k < 9 → parseFieldDescriptor (kT_PI k).2.2.1 = some (kty_PI k) := by decide +kernel
def kT_LR : u_T := fun k => match k with
  | 0 => ("IntraPicture$LevelReader", "bins", "LIntraPicture$BinDecoder;", true)
  | 1 => ("IntraPicture$LevelReader", "levels", "[I", true)
  | 2 => ("IntraPicture$LevelReader", "group", "[I", true)
  | 3 => ("IntraPicture$LevelReader", "first", "I", false)
  | 4 => ("IntraPicture$LevelReader", "last", "I", false)
  | _ => ("IntraPicture$LevelReader", "sum", "I", false)
def kty_LR : Nat → FieldType := fun k => match k with
  | 0 => .object "IntraPicture$BinDecoder"
  | 1 => .array .int
  | 2 => .array .int
  | 3 => .int
  | 4 => .int
  | _ => .int
theorem knm_LR : ∀ a, a < 6 → ∀ b, b < 6 → a ≠ b → (kT_LR a).2.1 ≠ (kT_LR b).2.1 := by decide +kernel
theorem kto_LR : ∀ k, k < 6 → parseFieldDescriptor (kT_LR k).2.2.1 = some (kty_LR k) := by decide +kernel
def kT_RS : u_T := fun k => match k with
  | 0 => ("IntraPicture$Residuals", "levels", "[I", true)
  | 1 => ("IntraPicture$Residuals", "coefficients", "[I", true)
  | 2 => ("IntraPicture$Residuals", "between", "[I", true)
  | _ => ("IntraPicture$Residuals", "result", "[I", true)
def kty_RS : Nat → FieldType := fun k => match k with
  | 0 => .array .int
  | 1 => .array .int
  | 2 => .array .int
  | _ => .array .int
theorem knm_RS : ∀ a, a < 4 → ∀ b, b < 4 → a ≠ b → (kT_RS a).2.1 ≠ (kT_RS b).2.1 := by decide +kernel
theorem kto_RS : ∀ k, k < 4 → parseFieldDescriptor (kT_RS k).2.2.1 = some (kty_RS k) := by decide +kernel
def kT_PR : u_T := fun k => match k with
  | 0 => ("IntraPicture$Predictor", "rows", "LIntraPicture$Rows;", true)
  | 1 => ("IntraPicture$Predictor", "references", "[I", true)
  | 2 => ("IntraPicture$Predictor", "unsmoothed", "[I", true)
  | _ => ("IntraPicture$Predictor", "side", "I", false)
def kty_PR : Nat → FieldType := fun k => match k with
  | 0 => .object "IntraPicture$Rows"
  | 1 => .array .int
  | 2 => .array .int
  | _ => .int
theorem knm_PR : ∀ a, a < 4 → ∀ b, b < 4 → a ≠ b → (kT_PR a).2.1 ≠ (kT_PR b).2.1 := by decide +kernel
theorem kto_PR : ∀ k, k < 4 → parseFieldDescriptor (kT_PR k).2.2.1 = some (kty_PR k) := by decide +kernel
def kT_FI : u_T := fun k => match k with
  | 0 => ("IntraPicture$Finish", "samples", "[I", true)
  | _ => ("IntraPicture$Finish", "before", "[I", true)
def kty_FI : Nat → FieldType := fun k => match k with
  | 0 => .array .int
  | _ => .array .int
theorem knm_FI : ∀ a, a < 2 → ∀ b, b < 2 → a ≠ b → (kT_FI a).2.1 ≠ (kT_FI b).2.1 := by decide +kernel
theorem kto_FI : ∀ k, k < 2 → parseFieldDescriptor (kT_FI k).2.2.1 = some (kty_FI k) := by decide +kernel
def kT_MO : u_T := fun k => match k with
  | 0 => ("IntraPictureModel", "fed", "[I", true)
  | 1 => ("IntraPictureModel", "size", "I", false)
  | 2 => ("IntraPictureModel", "load", "[I", true)
  | 3 => ("IntraPictureModel", "loaded", "I", false)
  | 4 => ("IntraPictureModel", "at", "I", false)
  | 5 => ("IntraPictureModel", "fault", "I", false)
  | 6 => ("IntraPictureModel", "given", "[I", true)
  | 7 => ("IntraPictureModel", "wanted", "[I", true)
  | 8 => ("IntraPictureModel", "hasGiven", "Z", false)
  | 9 => ("IntraPictureModel", "hasPicture", "Z", false)
  | 10 => ("IntraPictureModel", "range", "I", false)
  | 11 => ("IntraPictureModel", "value", "I", false)
  | 12 => ("IntraPictureModel", "chances", "[I", true)
  | 13 => ("IntraPictureModel", "counts", "[I", true)
  | 14 => ("IntraPictureModel", "leaves", "I", false)
  | 15 => ("IntraPictureModel", "left", "[I", true)
  | 16 => ("IntraPictureModel", "top", "[I", true)
  | 17 => ("IntraPictureModel", "sides", "[I", true)
  | 18 => ("IntraPictureModel", "modes", "[I", true)
  | 19 => ("IntraPictureModel", "skips", "[Z", true)
  | 20 => ("IntraPictureModel", "owner", "[I", true)
  | 21 => ("IntraPictureModel", "levels", "[I", true)
  | 22 => ("IntraPictureModel", "group", "[I", true)
  | 23 => ("IntraPictureModel", "guess", "[I", true)
  | 24 => ("IntraPictureModel", "first", "[I", true)
  | 25 => ("IntraPictureModel", "last", "[I", true)
  | 26 => ("IntraPictureModel", "old", "[I", true)
  | 27 => ("IntraPictureModel", "row", "[I", true)
  | 28 => ("IntraPictureModel", "raw", "[I", true)
  | 29 => ("IntraPictureModel", "four", "[I", true)
  | 30 => ("IntraPictureModel", "wave", "[I", true)
  | _ => ("IntraPictureModel", "scale", "[I", true)
def kty_MO : Nat → FieldType := fun k => match k with
  | 0 => .array .int
  | 1 => .int
  | 2 => .array .int
  | 3 => .int
  | 4 => .int
  | 5 => .int
  | 6 => .array .int
  | 7 => .array .int
  | 8 => .boolean
  | 9 => .boolean
  | 10 => .int
  | 11 => .int
  | 12 => .array .int
  | 13 => .array .int
  | 14 => .int
  | 15 => .array .int
  | 16 => .array .int
  | 17 => .array .int
  | 18 => .array .int
  | 19 => .array .boolean
  | 20 => .array .int
  | 21 => .array .int
  | 22 => .array .int
  | 23 => .array .int
  | 24 => .array .int
  | 25 => .array .int
  | 26 => .array .int
  | 27 => .array .int
  | 28 => .array .int
  | 29 => .array .int
  | 30 => .array .int
  | _ => .array .int
theorem knm_MO : ∀ a, a < 32 → ∀ b, b < 32 → a ≠ b → (kT_MO a).2.1 ≠ (kT_MO b).2.1 := by decide +kernel
theorem kto_MO : ∀ k, k < 32 → parseFieldDescriptor (kT_MO k).2.2.1 = some (kty_MO k) := by decide +kernel
abbrev vwCl : List vw_C := [(kR_IP, kT_IP, 7), (kR_FB, kT_FB, 4), (kR_RB, kT_RB, 3), (kR_PA, kT_PA, 5), (kR_BD, kT_BD, 5), (kR_LF, kT_LF, 5), (kR_RW, kT_RW, 6), (kR_PI, kT_PI, 9), (kR_LR, kT_LR, 6), (kR_RS, kT_RS, 4), (kR_PR, kT_PR, 4), (kR_FI, kT_FI, 2), (kR_MO, kT_MO, 32)]
def ip_NS : List (String × Nat × MethodName × String) := [("IntraPicture", 11, ⟨"IntraPicture$FedBytes", "<init>", "()V"⟩, "IntraPicture"), ("IntraPicture", 47, ⟨"IntraPicture$Rows", "<init>", "()V"⟩, "IntraPicture"), ("IntraPicture$Picture", 11, ⟨"IntraPicture$Leaf", "<init>", "()V"⟩, "IntraPicture"), ("IntraPicture$Picture", 134, ⟨"IntraPicture", "inPicture", "(II)Z"⟩, "IntraPicture"), ("IntraPicture$Picture", 138, ⟨"IntraPicture", "placeOf", "(II)I"⟩, "IntraPicture"), ("IntraPicture$Leaf", 23, ⟨"IntraPicture", "placeOf", "(II)I"⟩, "IntraPicture"), ("IntraPicture$Residuals", 53, ⟨"IntraPicture", "bring", "(III)I"⟩, "IntraPicture"), ("IntraPicture$Predictor", 70, ⟨"IntraPicture", "inPicture", "(II)Z"⟩, "IntraPicture"), ("IntraPicture$Predictor", 77, ⟨"IntraPicture", "placeOf", "(II)I"⟩, "IntraPicture"), ("IntraPicture$Picture", 161, ⟨"IntraPicture", "bring", "(III)I"⟩, "IntraPicture"), ("IntraPicture$Finish", 18, ⟨"IntraPicture", "placeOf", "(II)I"⟩, "IntraPicture"), ("IntraPicture$Finish", 36, ⟨"IntraPicture", "bring", "(III)I"⟩, "IntraPicture")]
theorem kws_0 : (Jvm.Cond.selects "IntraPicture$FedBytes" ({ cls := "IntraPicture$FedBytes", name := "startsAt", desc := "(I)Z" } : Jvm.MethodName) ({ cls := "IntraPicture$FedBytes", name := "startsAt", desc := "(I)Z" } : Jvm.MethodName)) ∈ ipW := ip_ws 0 rfl rfl
theorem kws_1 : (Jvm.Cond.selects "IntraPicture$FedBytes" ({ cls := "IntraPicture$FedBytes", name := "firstByteOf", desc := "(I)I" } : Jvm.MethodName) ({ cls := "IntraPicture$FedBytes", name := "firstByteOf", desc := "(I)I" } : Jvm.MethodName)) ∈ ipW := ip_ws 1 rfl rfl
theorem kws_2 : (Jvm.Cond.selects "IntraPicture$Parameters" ({ cls := "IntraPicture$Parameters", name := "code", desc := "()I" } : Jvm.MethodName) ({ cls := "IntraPicture$Parameters", name := "code", desc := "()I" } : Jvm.MethodName)) ∈ ipW := ip_ws 2 rfl rfl
theorem kws_3 : (Jvm.Cond.selects "IntraPicture$Parameters" ({ cls := "IntraPicture$Parameters", name := "number", desc := "(I)I" } : Jvm.MethodName) ({ cls := "IntraPicture$Parameters", name := "number", desc := "(I)I" } : Jvm.MethodName)) ∈ ipW := ip_ws 3 rfl rfl
theorem kws_4 : (Jvm.Cond.selects "IntraPicture$Parameters" ({ cls := "IntraPicture$Parameters", name := "blame", desc := "(I)V" } : Jvm.MethodName) ({ cls := "IntraPicture$Parameters", name := "blame", desc := "(I)V" } : Jvm.MethodName)) ∈ ipW := ip_ws 4 rfl rfl
theorem kws_5 : (Jvm.Cond.selects "IntraPicture$Parameters" ({ cls := "IntraPicture$Parameters", name := "checked", desc := "(III)I" } : Jvm.MethodName) ({ cls := "IntraPicture$Parameters", name := "checked", desc := "(III)I" } : Jvm.MethodName)) ∈ ipW := ip_ws 5 rfl rfl
theorem kws_6 : (Jvm.Cond.selects "IntraPicture$Parameters" ({ cls := "IntraPicture$Parameters", name := "signedCode", desc := "()I" } : Jvm.MethodName) ({ cls := "IntraPicture$Parameters", name := "signedCode", desc := "()I" } : Jvm.MethodName)) ∈ ipW := ip_ws 6 rfl rfl
theorem kws_7 : (Jvm.Cond.selects "IntraPicture$Picture" ({ cls := "IntraPicture$Picture", name := "splitAt", desc := "(II)I" } : Jvm.MethodName) ({ cls := "IntraPicture$Picture", name := "splitAt", desc := "(II)I" } : Jvm.MethodName)) ∈ ipW := ip_ws 7 rfl rfl
theorem kws_8 : (Jvm.Cond.selects "IntraPicture$Picture" ({ cls := "IntraPicture$Picture", name := "modeToTheLeft", desc := "()I" } : Jvm.MethodName) ({ cls := "IntraPicture$Picture", name := "modeToTheLeft", desc := "()I" } : Jvm.MethodName)) ∈ ipW := ip_ws 8 rfl rfl
theorem kws_9 : (Jvm.Cond.selects "IntraPicture$LevelReader" ({ cls := "IntraPicture$LevelReader", name := "readSizes", desc := "()V" } : Jvm.MethodName) ({ cls := "IntraPicture$LevelReader", name := "readSizes", desc := "()V" } : Jvm.MethodName)) ∈ ipW := ip_ws 9 rfl rfl
theorem kws_10 : (Jvm.Cond.selects "IntraPicture$LevelReader" ({ cls := "IntraPicture$LevelReader", name := "notZeroBefore", desc := "(I)I" } : Jvm.MethodName) ({ cls := "IntraPicture$LevelReader", name := "notZeroBefore", desc := "(I)I" } : Jvm.MethodName)) ∈ ipW := ip_ws 10 rfl rfl
theorem kws_11 : (Jvm.Cond.selects "IntraPicture$LevelReader" ({ cls := "IntraPicture$LevelReader", name := "readSize", desc := "()I" } : Jvm.MethodName) ({ cls := "IntraPicture$LevelReader", name := "readSize", desc := "()I" } : Jvm.MethodName)) ∈ ipW := ip_ws 11 rfl rfl
theorem kws_12 : (Jvm.Cond.selects "IntraPicture$LevelReader" ({ cls := "IntraPicture$LevelReader", name := "readSigns", desc := "(Z)V" } : Jvm.MethodName) ({ cls := "IntraPicture$LevelReader", name := "readSigns", desc := "(Z)V" } : Jvm.MethodName)) ∈ ipW := ip_ws 12 rfl rfl
theorem kws_13 : (Jvm.Cond.selects "IntraPicture$LevelReader" ({ cls := "IntraPicture$LevelReader", name := "keepGroup", desc := "(I)V" } : Jvm.MethodName) ({ cls := "IntraPicture$LevelReader", name := "keepGroup", desc := "(I)V" } : Jvm.MethodName)) ∈ ipW := ip_ws 13 rfl rfl
theorem kws_14 : (Jvm.Cond.selects "IntraPicture$Picture" ({ cls := "IntraPicture$Picture", name := "buildLeaf", desc := "()V" } : Jvm.MethodName) ({ cls := "IntraPicture$Picture", name := "buildLeaf", desc := "()V" } : Jvm.MethodName)) ∈ ipW := ip_ws 14 rfl rfl
theorem kws_15 : (Jvm.Cond.selects "IntraPicture$Residuals" ({ cls := "IntraPicture$Residuals", name := "scaleLevels", desc := "(LIntraPicture$Leaf;I)V" } : Jvm.MethodName) ({ cls := "IntraPicture$Residuals", name := "scaleLevels", desc := "(LIntraPicture$Leaf;I)V" } : Jvm.MethodName)) ∈ ipW := ip_ws 15 rfl rfl
theorem kws_16 : (Jvm.Cond.selects "IntraPicture$Residuals" ({ cls := "IntraPicture$Residuals", name := "scaleWithoutMatrix", desc := "(I)V" } : Jvm.MethodName) ({ cls := "IntraPicture$Residuals", name := "scaleWithoutMatrix", desc := "(I)V" } : Jvm.MethodName)) ∈ ipW := ip_ws 16 rfl rfl
theorem kws_17 : (Jvm.Cond.selects "IntraPicture$Residuals" ({ cls := "IntraPicture$Residuals", name := "goThroughColumns", desc := "(I)V" } : Jvm.MethodName) ({ cls := "IntraPicture$Residuals", name := "goThroughColumns", desc := "(I)V" } : Jvm.MethodName)) ∈ ipW := ip_ws 17 rfl rfl
theorem kws_18 : (Jvm.Cond.selects "IntraPicture$Residuals" ({ cls := "IntraPicture$Residuals", name := "goThroughRows", desc := "(I)V" } : Jvm.MethodName) ({ cls := "IntraPicture$Residuals", name := "goThroughRows", desc := "(I)V" } : Jvm.MethodName)) ∈ ipW := ip_ws 18 rfl rfl
theorem kws_19 : (Jvm.Cond.selects "IntraPicture$Predictor" ({ cls := "IntraPicture$Predictor", name := "collect", desc := "(LIntraPicture$Leaf;)V" } : Jvm.MethodName) ({ cls := "IntraPicture$Predictor", name := "collect", desc := "(LIntraPicture$Leaf;)V" } : Jvm.MethodName)) ∈ ipW := ip_ws 19 rfl rfl
theorem kws_20 : (Jvm.Cond.selects "IntraPicture$Predictor" ({ cls := "IntraPicture$Predictor", name := "fillGaps", desc := "()V" } : Jvm.MethodName) ({ cls := "IntraPicture$Predictor", name := "fillGaps", desc := "()V" } : Jvm.MethodName)) ∈ ipW := ip_ws 20 rfl rfl
theorem kws_21 : (Jvm.Cond.selects "IntraPicture$Predictor" ({ cls := "IntraPicture$Predictor", name := "smooth", desc := "()V" } : Jvm.MethodName) ({ cls := "IntraPicture$Predictor", name := "smooth", desc := "()V" } : Jvm.MethodName)) ∈ ipW := ip_ws 21 rfl rfl
theorem kws_22 : (Jvm.Cond.selects "IntraPicture$Predictor" ({ cls := "IntraPicture$Predictor", name := "mean", desc := "()I" } : Jvm.MethodName) ({ cls := "IntraPicture$Predictor", name := "mean", desc := "()I" } : Jvm.MethodName)) ∈ ipW := ip_ws 22 rfl rfl
theorem kws_23 : (Jvm.Cond.selects "IntraPicture$Predictor" ({ cls := "IntraPicture$Predictor", name := "left", desc := "(I)I" } : Jvm.MethodName) ({ cls := "IntraPicture$Predictor", name := "left", desc := "(I)I" } : Jvm.MethodName)) ∈ ipW := ip_ws 23 rfl rfl
theorem kws_24 : (Jvm.Cond.selects "IntraPicture$Predictor" ({ cls := "IntraPicture$Predictor", name := "above", desc := "(I)I" } : Jvm.MethodName) ({ cls := "IntraPicture$Predictor", name := "above", desc := "(I)I" } : Jvm.MethodName)) ∈ ipW := ip_ws 24 rfl rfl
theorem kws_25 : (Jvm.Cond.selects "IntraPicture$Predictor" ({ cls := "IntraPicture$Predictor", name := "predictAt", desc := "(III)I" } : Jvm.MethodName) ({ cls := "IntraPicture$Predictor", name := "predictAt", desc := "(III)I" } : Jvm.MethodName)) ∈ ipW := ip_ws 25 rfl rfl
theorem kws_26 : (Jvm.Cond.selects "IntraPicture$Predictor" ({ cls := "IntraPicture$Predictor", name := "plane", desc := "(II)I" } : Jvm.MethodName) ({ cls := "IntraPicture$Predictor", name := "plane", desc := "(II)I" } : Jvm.MethodName)) ∈ ipW := ip_ws 26 rfl rfl
theorem kws_27 : (Jvm.Cond.selects "IntraPicture$Predictor" ({ cls := "IntraPicture$Predictor", name := "steep", desc := "(II)I" } : Jvm.MethodName) ({ cls := "IntraPicture$Predictor", name := "steep", desc := "(II)I" } : Jvm.MethodName)) ∈ ipW := ip_ws 27 rfl rfl
theorem kws_28 : (Jvm.Cond.selects "IntraPicture$Predictor" ({ cls := "IntraPicture$Predictor", name := "flat", desc := "(II)I" } : Jvm.MethodName) ({ cls := "IntraPicture$Predictor", name := "flat", desc := "(II)I" } : Jvm.MethodName)) ∈ ipW := ip_ws 28 rfl rfl
theorem kws_29 : (Jvm.Cond.selects "IntraPicture$Predictor" ({ cls := "IntraPicture$Predictor", name := "diagonal", desc := "(II)I" } : Jvm.MethodName) ({ cls := "IntraPicture$Predictor", name := "diagonal", desc := "(II)I" } : Jvm.MethodName)) ∈ ipW := ip_ws 29 rfl rfl
theorem kws_30 : (Jvm.Cond.selects "IntraPicture$Predictor" ({ cls := "IntraPicture$Predictor", name := "corner", desc := "()I" } : Jvm.MethodName) ({ cls := "IntraPicture$Predictor", name := "corner", desc := "()I" } : Jvm.MethodName)) ∈ ipW := ip_ws 30 rfl rfl
theorem kws_31 : (Jvm.Cond.selects "IntraPicture$Finish" ({ cls := "IntraPicture$Finish", name := "smoothEdge", desc := "(III)V" } : Jvm.MethodName) ({ cls := "IntraPicture$Finish", name := "smoothEdge", desc := "(III)V" } : Jvm.MethodName)) ∈ ipW := ip_ws 31 rfl rfl
theorem kws_32 : (Jvm.Cond.selects "IntraPicture$Finish" ({ cls := "IntraPicture$Finish", name := "addOffsets", desc := "([I)V" } : Jvm.MethodName) ({ cls := "IntraPicture$Finish", name := "addOffsets", desc := "([I)V" } : Jvm.MethodName)) ∈ ipW := ip_ws 32 rfl rfl
theorem kws_33 : (Jvm.Cond.selects "IntraPicture$Finish" ({ cls := "IntraPicture$Finish", name := "offsetNumber", desc := "([III)I" } : Jvm.MethodName) ({ cls := "IntraPicture$Finish", name := "offsetNumber", desc := "([III)I" } : Jvm.MethodName)) ∈ ipW := ip_ws 33 rfl rfl
theorem kws_34 : (Jvm.Cond.selects "IntraPicture$Finish" ({ cls := "IntraPicture$Finish", name := "numberByNeighbours", desc := "(II)I" } : Jvm.MethodName) ({ cls := "IntraPicture$Finish", name := "numberByNeighbours", desc := "(II)I" } : Jvm.MethodName)) ∈ ipW := ip_ws 34 rfl rfl
theorem kws_35 : (Jvm.Cond.selects "IntraPicture" ({ cls := "IntraPicture", name := "answerAt", desc := "([IIII)I" } : Jvm.MethodName) ({ cls := "IntraPicture", name := "answerAt", desc := "([IIII)I" } : Jvm.MethodName)) ∈ ipW := ip_ws 35 rfl rfl
theorem kws_36 : (Jvm.Cond.selects "IntraPictureModel" ({ cls := "IntraPictureModel", name := "start", desc := "(I)I" } : Jvm.MethodName) ({ cls := "IntraPictureModel", name := "start", desc := "(I)I" } : Jvm.MethodName)) ∈ ipW := ip_ws 36 rfl rfl
theorem kws_37 : (Jvm.Cond.selects "IntraPictureModel" ({ cls := "IntraPictureModel", name := "open", desc := "(I)Z" } : Jvm.MethodName) ({ cls := "IntraPictureModel", name := "open", desc := "(I)Z" } : Jvm.MethodName)) ∈ ipW := ip_ws 37 rfl rfl
theorem kws_38 : (Jvm.Cond.selects "IntraPictureModel" ({ cls := "IntraPictureModel", name := "readParameters", desc := "()V" } : Jvm.MethodName) ({ cls := "IntraPictureModel", name := "readParameters", desc := "()V" } : Jvm.MethodName)) ∈ ipW := ip_ws 38 rfl rfl
theorem kws_39 : (Jvm.Cond.selects "IntraPictureModel" ({ cls := "IntraPictureModel", name := "code", desc := "()I" } : Jvm.MethodName) ({ cls := "IntraPictureModel", name := "code", desc := "()I" } : Jvm.MethodName)) ∈ ipW := ip_ws 39 rfl rfl
theorem kws_40 : (Jvm.Cond.selects "IntraPictureModel" ({ cls := "IntraPictureModel", name := "needed", desc := "(I)I" } : Jvm.MethodName) ({ cls := "IntraPictureModel", name := "needed", desc := "(I)I" } : Jvm.MethodName)) ∈ ipW := ip_ws 40 rfl rfl
theorem kws_41 : (Jvm.Cond.selects "IntraPictureModel" ({ cls := "IntraPictureModel", name := "bit", desc := "()I" } : Jvm.MethodName) ({ cls := "IntraPictureModel", name := "bit", desc := "()I" } : Jvm.MethodName)) ∈ ipW := ip_ws 41 rfl rfl
theorem kws_42 : (Jvm.Cond.selects "IntraPictureModel" ({ cls := "IntraPictureModel", name := "within", desc := "(III)I" } : Jvm.MethodName) ({ cls := "IntraPictureModel", name := "within", desc := "(III)I" } : Jvm.MethodName)) ∈ ipW := ip_ws 42 rfl rfl
theorem kws_43 : (Jvm.Cond.selects "IntraPictureModel" ({ cls := "IntraPictureModel", name := "signedCode", desc := "()I" } : Jvm.MethodName) ({ cls := "IntraPictureModel", name := "signedCode", desc := "()I" } : Jvm.MethodName)) ∈ ipW := ip_ws 43 rfl rfl
theorem kws_44 : (Jvm.Cond.selects "IntraPictureModel" ({ cls := "IntraPictureModel", name := "readPicture", desc := "()V" } : Jvm.MethodName) ({ cls := "IntraPictureModel", name := "readPicture", desc := "()V" } : Jvm.MethodName)) ∈ ipW := ip_ws 44 rfl rfl
theorem kws_45 : (Jvm.Cond.selects "IntraPictureModel" ({ cls := "IntraPictureModel", name := "shift", desc := "()V" } : Jvm.MethodName) ({ cls := "IntraPictureModel", name := "shift", desc := "()V" } : Jvm.MethodName)) ∈ ipW := ip_ws 45 rfl rfl
theorem kws_46 : (Jvm.Cond.selects "IntraPictureModel" ({ cls := "IntraPictureModel", name := "bin", desc := "(I)I" } : Jvm.MethodName) ({ cls := "IntraPictureModel", name := "bin", desc := "(I)I" } : Jvm.MethodName)) ∈ ipW := ip_ws 46 rfl rfl
theorem kws_47 : (Jvm.Cond.selects "IntraPictureModel" ({ cls := "IntraPictureModel", name := "readLeaf", desc := "(III)V" } : Jvm.MethodName) ({ cls := "IntraPictureModel", name := "readLeaf", desc := "(III)V" } : Jvm.MethodName)) ∈ ipW := ip_ws 47 rfl rfl
theorem kws_48 : (Jvm.Cond.selects "IntraPictureModel" ({ cls := "IntraPictureModel", name := "frees", desc := "(I)I" } : Jvm.MethodName) ({ cls := "IntraPictureModel", name := "frees", desc := "(I)I" } : Jvm.MethodName)) ∈ ipW := ip_ws 48 rfl rfl
theorem kws_49 : (Jvm.Cond.selects "IntraPictureModel" ({ cls := "IntraPictureModel", name := "free", desc := "()I" } : Jvm.MethodName) ({ cls := "IntraPictureModel", name := "free", desc := "()I" } : Jvm.MethodName)) ∈ ipW := ip_ws 49 rfl rfl
theorem kws_50 : (Jvm.Cond.selects "IntraPictureModel" ({ cls := "IntraPictureModel", name := "readGroup", desc := "(II)V" } : Jvm.MethodName) ({ cls := "IntraPictureModel", name := "readGroup", desc := "(II)V" } : Jvm.MethodName)) ∈ ipW := ip_ws 50 rfl rfl
theorem kws_51 : (Jvm.Cond.selects "IntraPictureModel" ({ cls := "IntraPictureModel", name := "sizeOfLevel", desc := "()I" } : Jvm.MethodName) ({ cls := "IntraPictureModel", name := "sizeOfLevel", desc := "()I" } : Jvm.MethodName)) ∈ ipW := ip_ws 51 rfl rfl
theorem kws_52 : (Jvm.Cond.selects "IntraPictureModel" ({ cls := "IntraPictureModel", name := "restore", desc := "()V" } : Jvm.MethodName) ({ cls := "IntraPictureModel", name := "restore", desc := "()V" } : Jvm.MethodName)) ∈ ipW := ip_ws 52 rfl rfl
theorem kws_53 : (Jvm.Cond.selects "IntraPictureModel" ({ cls := "IntraPictureModel", name := "references", desc := "(I)V" } : Jvm.MethodName) ({ cls := "IntraPictureModel", name := "references", desc := "(I)V" } : Jvm.MethodName)) ∈ ipW := ip_ws 53 rfl rfl
theorem kws_54 : (Jvm.Cond.selects "IntraPictureModel" ({ cls := "IntraPictureModel", name := "reference", desc := "(II)I" } : Jvm.MethodName) ({ cls := "IntraPictureModel", name := "reference", desc := "(II)I" } : Jvm.MethodName)) ∈ ipW := ip_ws 54 rfl rfl
theorem kws_55 : (Jvm.Cond.selects "IntraPictureModel" ({ cls := "IntraPictureModel", name := "predict", desc := "(III)I" } : Jvm.MethodName) ({ cls := "IntraPictureModel", name := "predict", desc := "(III)I" } : Jvm.MethodName)) ∈ ipW := ip_ws 55 rfl rfl
theorem kws_56 : (Jvm.Cond.selects "IntraPictureModel" ({ cls := "IntraPictureModel", name := "toLeft", desc := "(II)I" } : Jvm.MethodName) ({ cls := "IntraPictureModel", name := "toLeft", desc := "(II)I" } : Jvm.MethodName)) ∈ ipW := ip_ws 56 rfl rfl
theorem kws_57 : (Jvm.Cond.selects "IntraPictureModel" ({ cls := "IntraPictureModel", name := "above", desc := "(II)I" } : Jvm.MethodName) ({ cls := "IntraPictureModel", name := "above", desc := "(II)I" } : Jvm.MethodName)) ∈ ipW := ip_ws 57 rfl rfl
theorem kws_58 : (Jvm.Cond.selects "IntraPictureModel" ({ cls := "IntraPictureModel", name := "mean", desc := "(I)I" } : Jvm.MethodName) ({ cls := "IntraPictureModel", name := "mean", desc := "(I)I" } : Jvm.MethodName)) ∈ ipW := ip_ws 58 rfl rfl
theorem kws_59 : (Jvm.Cond.selects "IntraPictureModel" ({ cls := "IntraPictureModel", name := "residual", desc := "(III)I" } : Jvm.MethodName) ({ cls := "IntraPictureModel", name := "residual", desc := "(III)I" } : Jvm.MethodName)) ∈ ipW := ip_ws 59 rfl rfl
theorem kws_60 : (Jvm.Cond.selects "IntraPictureModel" ({ cls := "IntraPictureModel", name := "coefficient", desc := "(III)I" } : Jvm.MethodName) ({ cls := "IntraPictureModel", name := "coefficient", desc := "(III)I" } : Jvm.MethodName)) ∈ ipW := ip_ws 60 rfl rfl
theorem kws_61 : (Jvm.Cond.selects "IntraPictureModel" ({ cls := "IntraPictureModel", name := "matrix", desc := "(III)I" } : Jvm.MethodName) ({ cls := "IntraPictureModel", name := "matrix", desc := "(III)I" } : Jvm.MethodName)) ∈ ipW := ip_ws 61 rfl rfl
theorem kws_62 : (Jvm.Cond.selects "IntraPictureModel" ({ cls := "IntraPictureModel", name := "half", desc := "(III)I" } : Jvm.MethodName) ({ cls := "IntraPictureModel", name := "half", desc := "(III)I" } : Jvm.MethodName)) ∈ ipW := ip_ws 62 rfl rfl
theorem kws_63 : (Jvm.Cond.selects "IntraPictureModel" ({ cls := "IntraPictureModel", name := "smoothEdge", desc := "(II)V" } : Jvm.MethodName) ({ cls := "IntraPictureModel", name := "smoothEdge", desc := "(II)V" } : Jvm.MethodName)) ∈ ipW := ip_ws 63 rfl rfl
theorem kws_64 : (Jvm.Cond.selects "IntraPictureModel" ({ cls := "IntraPictureModel", name := "offset", desc := "(I)I" } : Jvm.MethodName) ({ cls := "IntraPictureModel", name := "offset", desc := "(I)I" } : Jvm.MethodName)) ∈ ipW := ip_ws 64 rfl rfl
theorem kws_65 : (Jvm.Cond.selects "IntraPictureModel" ({ cls := "IntraPictureModel", name := "seen", desc := "(II)Z" } : Jvm.MethodName) ({ cls := "IntraPictureModel", name := "seen", desc := "(II)Z" } : Jvm.MethodName)) ∈ ipW := ip_ws 65 rfl rfl
theorem kw1_1 : (Jvm.Cond.initialized "IntraPicture") ∈ ipW := ip_w1 1 rfl rfl
theorem kw1_2 : (Jvm.Cond.initialized "IntraPicture$FedBytes") ∈ ipW := ip_w1 2 rfl rfl
theorem kw1_3 : (Jvm.Cond.initialized "IntraPicture$RestBits") ∈ ipW := ip_w1 3 rfl rfl
theorem kw1_4 : (Jvm.Cond.initialized "IntraPicture$Parameters") ∈ ipW := ip_w1 4 rfl rfl
theorem kw1_5 : (Jvm.Cond.initialized "IntraPicture$BinDecoder") ∈ ipW := ip_w1 5 rfl rfl
theorem kw1_7 : (Jvm.Cond.initialized "IntraPicture$Picture") ∈ ipW := ip_w1 7 rfl rfl
theorem kw1_8 : (Jvm.Cond.initialized "IntraPicture$Leaf") ∈ ipW := ip_w1 8 rfl rfl
theorem kw1_9 : (Jvm.Cond.initialized "IntraPicture$LevelReader") ∈ ipW := ip_w1 9 rfl rfl
theorem kw1_10 : (Jvm.Cond.initialized "IntraPicture$Residuals") ∈ ipW := ip_w1 10 rfl rfl
theorem kw1_11 : (Jvm.Cond.initialized "IntraPicture$Predictor") ∈ ipW := ip_w1 11 rfl rfl
theorem kw1_12 : (Jvm.Cond.initialized "IntraPicture$Finish") ∈ ipW := ip_w1 12 rfl rfl
theorem kw1_13 : (Jvm.Cond.initialized "IntraPictureModel") ∈ ipW := ip_w1 13 rfl rfl
theorem kw1_14 : (Jvm.Cond.initialized "java/util/Arrays") ∈ ipW := ip_w1 14 rfl rfl
theorem kw1_15 : (Jvm.Cond.initialized "java/lang/System") ∈ ipW := ip_w1 15 rfl rfl
theorem kw1_16 : (Jvm.Cond.initialized "java/lang/Math") ∈ ipW := ip_w1 16 rfl rfl
theorem kw1_17 : (Jvm.Cond.initialized "java/lang/Integer") ∈ ipW := ip_w1 17 rfl rfl
theorem kw1_32 : (Jvm.Cond.fieldLink "IntraPicture$FedBytes" (11 : Nat) "IntraPicture$FedBytes" "bytes" "[I") ∈ ipW := ip_w1 32 rfl rfl
theorem kw1_33 : (Jvm.Cond.fieldLink "IntraPicture$FedBytes" (15 : Nat) "IntraPicture$FedBytes" "chosen" "[I") ∈ ipW := ip_w1 33 rfl rfl
theorem kw1_34 : (Jvm.Cond.fieldLink "IntraPicture" (18 : Nat) "IntraPicture$FedBytes" "chosen" "[I") ∈ ipW := ip_w1 34 rfl rfl
theorem kw1_35 : (Jvm.Cond.fieldLink "IntraPicture$FedBytes" (18 : Nat) "IntraPicture$FedBytes" "count" "I") ∈ ipW := ip_w1 35 rfl rfl
theorem kw1_36 : (Jvm.Cond.fieldLink "IntraPicture" (72 : Nat) "IntraPicture$FedBytes" "count" "I") ∈ ipW := ip_w1 36 rfl rfl
theorem kw1_37 : (Jvm.Cond.fieldLink "IntraPicture" (87 : Nat) "IntraPicture$FedBytes" "chosenLength" "I") ∈ ipW := ip_w1 37 rfl rfl
theorem kw1_38 : (Jvm.Cond.fieldLink "IntraPicture$FedBytes" (30 : Nat) "IntraPicture$FedBytes" "chosenLength" "I") ∈ ipW := ip_w1 38 rfl rfl
theorem kw1_39 : (Jvm.Cond.laysFinal "IntraPicture$FedBytes" "IntraPicture$FedBytes" "bytes" "[I") ∈ ipW := ip_w1 39 rfl rfl
theorem kw1_41 : (Jvm.Cond.laysFinal "IntraPicture$FedBytes" "IntraPicture$FedBytes" "chosen" "[I") ∈ ipW := ip_w1 41 rfl rfl
theorem kw1_43 : (Jvm.Cond.lays "IntraPicture$FedBytes" "IntraPicture$FedBytes" "count" "I") ∈ ipW := ip_w1 43 rfl rfl
theorem kw1_45 : (Jvm.Cond.lays "IntraPicture$FedBytes" "IntraPicture$FedBytes" "chosenLength" "I") ∈ ipW := ip_w1 45 rfl rfl
theorem kw1_55 : (Jvm.Cond.fieldLink "IntraPicture$RestBits" (7 : Nat) "IntraPicture$RestBits" "bytes" "[I") ∈ ipW := ip_w1 55 rfl rfl
theorem kw1_56 : (Jvm.Cond.fieldLink "IntraPicture$RestBits" (13 : Nat) "IntraPicture$RestBits" "place" "I") ∈ ipW := ip_w1 56 rfl rfl
theorem kw1_57 : (Jvm.Cond.fieldLink "IntraPicture$RestBits" (17 : Nat) "IntraPicture$RestBits" "end" "I") ∈ ipW := ip_w1 57 rfl rfl
theorem kw1_58 : (Jvm.Cond.laysFinal "IntraPicture$RestBits" "IntraPicture$RestBits" "bytes" "[I") ∈ ipW := ip_w1 58 rfl rfl
theorem kw1_60 : (Jvm.Cond.lays "IntraPicture$RestBits" "IntraPicture$RestBits" "place" "I") ∈ ipW := ip_w1 60 rfl rfl
theorem kw1_62 : (Jvm.Cond.lays "IntraPicture$RestBits" "IntraPicture$RestBits" "end" "I") ∈ ipW := ip_w1 62 rfl rfl
theorem kw1_71 : (Jvm.Cond.fieldLink "IntraPicture$Parameters" (18 : Nat) "IntraPicture$Parameters" "rest" "LIntraPicture$RestBits;") ∈ ipW := ip_w1 71 rfl rfl
theorem kw1_72 : (Jvm.Cond.fieldLink "IntraPicture$Parameters" (9 : Nat) "IntraPicture$Parameters" "values" "[I") ∈ ipW := ip_w1 72 rfl rfl
theorem kw1_73 : (Jvm.Cond.fieldLink "IntraPicture" (54 : Nat) "IntraPicture$Parameters" "values" "[I") ∈ ipW := ip_w1 73 rfl rfl
theorem kw1_74 : (Jvm.Cond.fieldLink "IntraPicture$Parameters" (15 : Nat) "IntraPicture$Parameters" "coming" "[I") ∈ ipW := ip_w1 74 rfl rfl
theorem kw1_75 : (Jvm.Cond.fieldLink "IntraPicture$Parameters" (53 : Nat) "IntraPicture$Parameters" "there" "Z") ∈ ipW := ip_w1 75 rfl rfl
theorem kw1_76 : (Jvm.Cond.fieldLink "IntraPicture" (76 : Nat) "IntraPicture$Parameters" "there" "Z") ∈ ipW := ip_w1 76 rfl rfl
theorem kw1_77 : (Jvm.Cond.fieldLink "IntraPicture$Parameters" (22 : Nat) "IntraPicture$Parameters" "fault" "I") ∈ ipW := ip_w1 77 rfl rfl
theorem kw1_78 : (Jvm.Cond.laysFinal "IntraPicture$Parameters" "IntraPicture$Parameters" "rest" "LIntraPicture$RestBits;") ∈ ipW := ip_w1 78 rfl rfl
theorem kw1_80 : (Jvm.Cond.laysFinal "IntraPicture$Parameters" "IntraPicture$Parameters" "values" "[I") ∈ ipW := ip_w1 80 rfl rfl
theorem kw1_82 : (Jvm.Cond.laysFinal "IntraPicture$Parameters" "IntraPicture$Parameters" "coming" "[I") ∈ ipW := ip_w1 82 rfl rfl
theorem kw1_84 : (Jvm.Cond.lays "IntraPicture$Parameters" "IntraPicture$Parameters" "there" "Z") ∈ ipW := ip_w1 84 rfl rfl
theorem kw1_86 : (Jvm.Cond.lays "IntraPicture$Parameters" "IntraPicture$Parameters" "fault" "I") ∈ ipW := ip_w1 86 rfl rfl
theorem kw1_95 : (Jvm.Cond.fieldLink "IntraPicture$BinDecoder" (16 : Nat) "IntraPicture$BinDecoder" "rest" "LIntraPicture$RestBits;") ∈ ipW := ip_w1 95 rfl rfl
theorem kw1_96 : (Jvm.Cond.fieldLink "IntraPicture$BinDecoder" (9 : Nat) "IntraPicture$BinDecoder" "chances" "[I") ∈ ipW := ip_w1 96 rfl rfl
theorem kw1_97 : (Jvm.Cond.fieldLink "IntraPicture" (127 : Nat) "IntraPicture$BinDecoder" "chances" "[I") ∈ ipW := ip_w1 97 rfl rfl
theorem kw1_98 : (Jvm.Cond.fieldLink "IntraPicture$BinDecoder" (13 : Nat) "IntraPicture$BinDecoder" "counts" "[I") ∈ ipW := ip_w1 98 rfl rfl
theorem kw1_99 : (Jvm.Cond.fieldLink "IntraPicture" (130 : Nat) "IntraPicture$BinDecoder" "counts" "[I") ∈ ipW := ip_w1 99 rfl rfl
theorem kw1_100 : (Jvm.Cond.fieldLink "IntraPicture$BinDecoder" (26 : Nat) "IntraPicture$BinDecoder" "range" "I") ∈ ipW := ip_w1 100 rfl rfl
theorem kw1_101 : (Jvm.Cond.fieldLink "IntraPicture$BinDecoder" (30 : Nat) "IntraPicture$BinDecoder" "value" "I") ∈ ipW := ip_w1 101 rfl rfl
theorem kw1_102 : (Jvm.Cond.laysFinal "IntraPicture$BinDecoder" "IntraPicture$BinDecoder" "rest" "LIntraPicture$RestBits;") ∈ ipW := ip_w1 102 rfl rfl
theorem kw1_104 : (Jvm.Cond.laysFinal "IntraPicture$BinDecoder" "IntraPicture$BinDecoder" "chances" "[I") ∈ ipW := ip_w1 104 rfl rfl
theorem kw1_106 : (Jvm.Cond.laysFinal "IntraPicture$BinDecoder" "IntraPicture$BinDecoder" "counts" "[I") ∈ ipW := ip_w1 106 rfl rfl
theorem kw1_108 : (Jvm.Cond.lays "IntraPicture$BinDecoder" "IntraPicture$BinDecoder" "range" "I") ∈ ipW := ip_w1 108 rfl rfl
theorem kw1_110 : (Jvm.Cond.lays "IntraPicture$BinDecoder" "IntraPicture$BinDecoder" "value" "I") ∈ ipW := ip_w1 110 rfl rfl
theorem kw1_120 : (Jvm.Cond.fieldLink "IntraPicture$Picture" (64 : Nat) "IntraPicture$Rows" "samples" "[I") ∈ ipW := ip_w1 120 rfl rfl
theorem kw1_121 : (Jvm.Cond.fieldLink "IntraPicture" (105 : Nat) "IntraPicture$Rows" "samples" "[I") ∈ ipW := ip_w1 121 rfl rfl
theorem kw1_123 : (Jvm.Cond.fieldLink "IntraPicture$Picture" (122 : Nat) "IntraPicture$Rows" "plain" "[I") ∈ ipW := ip_w1 123 rfl rfl
theorem kw1_124 : (Jvm.Cond.fieldLink "IntraPicture$Predictor" (80 : Nat) "IntraPicture$Rows" "plain" "[I") ∈ ipW := ip_w1 124 rfl rfl
theorem kw1_125 : (Jvm.Cond.fieldLink "IntraPicture" (112 : Nat) "IntraPicture$Rows" "plain" "[I") ∈ ipW := ip_w1 125 rfl rfl
theorem kw1_127 : (Jvm.Cond.fieldLink "IntraPicture$Predictor" (50 : Nat) "IntraPicture$Rows" "predicted" "[I") ∈ ipW := ip_w1 127 rfl rfl
theorem kw1_128 : (Jvm.Cond.fieldLink "IntraPicture$Picture" (158 : Nat) "IntraPicture$Rows" "predicted" "[I") ∈ ipW := ip_w1 128 rfl rfl
theorem kw1_129 : (Jvm.Cond.fieldLink "IntraPicture" (115 : Nat) "IntraPicture$Rows" "predicted" "[I") ∈ ipW := ip_w1 129 rfl rfl
theorem kw1_132 : (Jvm.Cond.fieldLink "IntraPicture" (118 : Nat) "IntraPicture$Rows" "levels" "[I") ∈ ipW := ip_w1 132 rfl rfl
theorem kw1_134 : (Jvm.Cond.fieldLink "IntraPicture$Picture" (165 : Nat) "IntraPicture$Rows" "modes" "[I") ∈ ipW := ip_w1 134 rfl rfl
theorem kw1_135 : (Jvm.Cond.fieldLink "IntraPicture" (121 : Nat) "IntraPicture$Rows" "modes" "[I") ∈ ipW := ip_w1 135 rfl rfl
theorem kw1_137 : (Jvm.Cond.fieldLink "IntraPicture$Picture" (76 : Nat) "IntraPicture$Rows" "sides" "[I") ∈ ipW := ip_w1 137 rfl rfl
theorem kw1_138 : (Jvm.Cond.fieldLink "IntraPicture$Predictor" (74 : Nat) "IntraPicture$Rows" "sides" "[I") ∈ ipW := ip_w1 138 rfl rfl
theorem kw1_139 : (Jvm.Cond.fieldLink "IntraPicture" (124 : Nat) "IntraPicture$Rows" "sides" "[I") ∈ ipW := ip_w1 139 rfl rfl
theorem kw1_140 : (Jvm.Cond.laysFinal "IntraPicture$Rows" "IntraPicture$Rows" "samples" "[I") ∈ ipW := ip_w1 140 rfl rfl
theorem kw1_142 : (Jvm.Cond.laysFinal "IntraPicture$Rows" "IntraPicture$Rows" "plain" "[I") ∈ ipW := ip_w1 142 rfl rfl
theorem kw1_144 : (Jvm.Cond.laysFinal "IntraPicture$Rows" "IntraPicture$Rows" "predicted" "[I") ∈ ipW := ip_w1 144 rfl rfl
theorem kw1_146 : (Jvm.Cond.laysFinal "IntraPicture$Rows" "IntraPicture$Rows" "levels" "[I") ∈ ipW := ip_w1 146 rfl rfl
theorem kw1_148 : (Jvm.Cond.laysFinal "IntraPicture$Rows" "IntraPicture$Rows" "modes" "[I") ∈ ipW := ip_w1 148 rfl rfl
theorem kw1_150 : (Jvm.Cond.laysFinal "IntraPicture$Rows" "IntraPicture$Rows" "sides" "[I") ∈ ipW := ip_w1 150 rfl rfl
theorem kw1_165 : (Jvm.Cond.fieldLink "IntraPicture$Leaf" (7 : Nat) "IntraPicture$Leaf" "x" "I") ∈ ipW := ip_w1 165 rfl rfl
theorem kw1_166 : (Jvm.Cond.fieldLink "IntraPicture$Picture" (168 : Nat) "IntraPicture$Leaf" "x" "I") ∈ ipW := ip_w1 166 rfl rfl
theorem kw1_167 : (Jvm.Cond.fieldLink "IntraPicture$Predictor" (59 : Nat) "IntraPicture$Leaf" "x" "I") ∈ ipW := ip_w1 167 rfl rfl
theorem kw1_168 : (Jvm.Cond.fieldLink "IntraPicture$Leaf" (13 : Nat) "IntraPicture$Leaf" "y" "I") ∈ ipW := ip_w1 168 rfl rfl
theorem kw1_169 : (Jvm.Cond.fieldLink "IntraPicture$Predictor" (67 : Nat) "IntraPicture$Leaf" "y" "I") ∈ ipW := ip_w1 169 rfl rfl
theorem kw1_170 : (Jvm.Cond.fieldLink "IntraPicture$LevelReader" (22 : Nat) "IntraPicture$Leaf" "side" "I") ∈ ipW := ip_w1 170 rfl rfl
theorem kw1_171 : (Jvm.Cond.fieldLink "IntraPicture$Predictor" (22 : Nat) "IntraPicture$Leaf" "side" "I") ∈ ipW := ip_w1 171 rfl rfl
theorem kw1_172 : (Jvm.Cond.fieldLink "IntraPicture$Leaf" (16 : Nat) "IntraPicture$Leaf" "side" "I") ∈ ipW := ip_w1 172 rfl rfl
theorem kw1_173 : (Jvm.Cond.fieldLink "IntraPicture$Residuals" (32 : Nat) "IntraPicture$Leaf" "side" "I") ∈ ipW := ip_w1 173 rfl rfl
theorem kw1_174 : (Jvm.Cond.fieldLink "IntraPicture$Picture" (149 : Nat) "IntraPicture$Leaf" "side" "I") ∈ ipW := ip_w1 174 rfl rfl
theorem kw1_175 : (Jvm.Cond.fieldLink "IntraPicture$Predictor" (36 : Nat) "IntraPicture$Leaf" "mode" "I") ∈ ipW := ip_w1 175 rfl rfl
theorem kw1_176 : (Jvm.Cond.fieldLink "IntraPicture$Picture" (109 : Nat) "IntraPicture$Leaf" "mode" "I") ∈ ipW := ip_w1 176 rfl rfl
theorem kw1_177 : (Jvm.Cond.fieldLink "IntraPicture$Residuals" (26 : Nat) "IntraPicture$Leaf" "skip" "Z") ∈ ipW := ip_w1 177 rfl rfl
theorem kw1_178 : (Jvm.Cond.fieldLink "IntraPicture$Leaf" (19 : Nat) "IntraPicture$Leaf" "skip" "Z") ∈ ipW := ip_w1 178 rfl rfl
theorem kw1_179 : (Jvm.Cond.fieldLink "IntraPicture$LevelReader" (34 : Nat) "IntraPicture$Leaf" "skip" "Z") ∈ ipW := ip_w1 179 rfl rfl
theorem kw1_180 : (Jvm.Cond.lays "IntraPicture$Leaf" "IntraPicture$Leaf" "x" "I") ∈ ipW := ip_w1 180 rfl rfl
theorem kw1_182 : (Jvm.Cond.lays "IntraPicture$Leaf" "IntraPicture$Leaf" "y" "I") ∈ ipW := ip_w1 182 rfl rfl
theorem kw1_184 : (Jvm.Cond.lays "IntraPicture$Leaf" "IntraPicture$Leaf" "side" "I") ∈ ipW := ip_w1 184 rfl rfl
theorem kw1_186 : (Jvm.Cond.lays "IntraPicture$Leaf" "IntraPicture$Leaf" "mode" "I") ∈ ipW := ip_w1 186 rfl rfl
theorem kw1_188 : (Jvm.Cond.lays "IntraPicture$Leaf" "IntraPicture$Leaf" "skip" "Z") ∈ ipW := ip_w1 188 rfl rfl
theorem kw1_197 : (Jvm.Cond.fieldLink "IntraPicture$LevelReader" (15 : Nat) "IntraPicture$LevelReader" "bins" "LIntraPicture$BinDecoder;") ∈ ipW := ip_w1 197 rfl rfl
theorem kw1_198 : (Jvm.Cond.fieldLink "IntraPicture$LevelReader" (19 : Nat) "IntraPicture$LevelReader" "levels" "[I") ∈ ipW := ip_w1 198 rfl rfl
theorem kw1_199 : (Jvm.Cond.fieldLink "IntraPicture$LevelReader" (11 : Nat) "IntraPicture$LevelReader" "group" "[I") ∈ ipW := ip_w1 199 rfl rfl
theorem kw1_200 : (Jvm.Cond.fieldLink "IntraPicture$LevelReader" (44 : Nat) "IntraPicture$LevelReader" "first" "I") ∈ ipW := ip_w1 200 rfl rfl
theorem kw1_201 : (Jvm.Cond.fieldLink "IntraPicture$LevelReader" (41 : Nat) "IntraPicture$LevelReader" "last" "I") ∈ ipW := ip_w1 201 rfl rfl
theorem kw1_202 : (Jvm.Cond.fieldLink "IntraPicture$LevelReader" (65 : Nat) "IntraPicture$LevelReader" "sum" "I") ∈ ipW := ip_w1 202 rfl rfl
theorem kw1_203 : (Jvm.Cond.laysFinal "IntraPicture$LevelReader" "IntraPicture$LevelReader" "bins" "LIntraPicture$BinDecoder;") ∈ ipW := ip_w1 203 rfl rfl
theorem kw1_205 : (Jvm.Cond.laysFinal "IntraPicture$LevelReader" "IntraPicture$LevelReader" "levels" "[I") ∈ ipW := ip_w1 205 rfl rfl
theorem kw1_207 : (Jvm.Cond.laysFinal "IntraPicture$LevelReader" "IntraPicture$LevelReader" "group" "[I") ∈ ipW := ip_w1 207 rfl rfl
theorem kw1_209 : (Jvm.Cond.lays "IntraPicture$LevelReader" "IntraPicture$LevelReader" "first" "I") ∈ ipW := ip_w1 209 rfl rfl
theorem kw1_211 : (Jvm.Cond.lays "IntraPicture$LevelReader" "IntraPicture$LevelReader" "last" "I") ∈ ipW := ip_w1 211 rfl rfl
theorem kw1_213 : (Jvm.Cond.lays "IntraPicture$LevelReader" "IntraPicture$LevelReader" "sum" "I") ∈ ipW := ip_w1 213 rfl rfl
theorem kw1_222 : (Jvm.Cond.fieldLink "IntraPicture$Residuals" (19 : Nat) "IntraPicture$Residuals" "levels" "[I") ∈ ipW := ip_w1 222 rfl rfl
theorem kw1_223 : (Jvm.Cond.fieldLink "IntraPicture$Residuals" (7 : Nat) "IntraPicture$Residuals" "coefficients" "[I") ∈ ipW := ip_w1 223 rfl rfl
theorem kw1_224 : (Jvm.Cond.fieldLink "IntraPicture$Residuals" (13 : Nat) "IntraPicture$Residuals" "between" "[I") ∈ ipW := ip_w1 224 rfl rfl
theorem kw1_225 : (Jvm.Cond.fieldLink "IntraPicture$Residuals" (16 : Nat) "IntraPicture$Residuals" "result" "[I") ∈ ipW := ip_w1 225 rfl rfl
theorem kw1_226 : (Jvm.Cond.fieldLink "IntraPicture$Picture" (155 : Nat) "IntraPicture$Residuals" "result" "[I") ∈ ipW := ip_w1 226 rfl rfl
theorem kw1_227 : (Jvm.Cond.laysFinal "IntraPicture$Residuals" "IntraPicture$Residuals" "levels" "[I") ∈ ipW := ip_w1 227 rfl rfl
theorem kw1_229 : (Jvm.Cond.laysFinal "IntraPicture$Residuals" "IntraPicture$Residuals" "coefficients" "[I") ∈ ipW := ip_w1 229 rfl rfl
theorem kw1_231 : (Jvm.Cond.laysFinal "IntraPicture$Residuals" "IntraPicture$Residuals" "between" "[I") ∈ ipW := ip_w1 231 rfl rfl
theorem kw1_233 : (Jvm.Cond.laysFinal "IntraPicture$Residuals" "IntraPicture$Residuals" "result" "[I") ∈ ipW := ip_w1 233 rfl rfl
theorem kw2_2 : (Jvm.Cond.fieldLink "IntraPicture$Predictor" (18 : Nat) "IntraPicture$Predictor" "rows" "LIntraPicture$Rows;") ∈ ipW := ip_w2 2 rfl rfl
theorem kw2_3 : (Jvm.Cond.fieldLink "IntraPicture$Predictor" (11 : Nat) "IntraPicture$Predictor" "references" "[I") ∈ ipW := ip_w2 3 rfl rfl
theorem kw2_4 : (Jvm.Cond.fieldLink "IntraPicture$Predictor" (15 : Nat) "IntraPicture$Predictor" "unsmoothed" "[I") ∈ ipW := ip_w2 4 rfl rfl
theorem kw2_5 : (Jvm.Cond.fieldLink "IntraPicture$Predictor" (28 : Nat) "IntraPicture$Predictor" "side" "I") ∈ ipW := ip_w2 5 rfl rfl
theorem kw2_6 : (Jvm.Cond.laysFinal "IntraPicture$Predictor" "IntraPicture$Predictor" "rows" "LIntraPicture$Rows;") ∈ ipW := ip_w2 6 rfl rfl
theorem kw2_8 : (Jvm.Cond.laysFinal "IntraPicture$Predictor" "IntraPicture$Predictor" "references" "[I") ∈ ipW := ip_w2 8 rfl rfl
theorem kw2_10 : (Jvm.Cond.laysFinal "IntraPicture$Predictor" "IntraPicture$Predictor" "unsmoothed" "[I") ∈ ipW := ip_w2 10 rfl rfl
theorem kw2_12 : (Jvm.Cond.lays "IntraPicture$Predictor" "IntraPicture$Predictor" "side" "I") ∈ ipW := ip_w2 12 rfl rfl
theorem kw2_21 : (Jvm.Cond.fieldLink "IntraPicture$Finish" (15 : Nat) "IntraPicture$Finish" "samples" "[I") ∈ ipW := ip_w2 21 rfl rfl
theorem kw2_22 : (Jvm.Cond.fieldLink "IntraPicture$Finish" (9 : Nat) "IntraPicture$Finish" "before" "[I") ∈ ipW := ip_w2 22 rfl rfl
theorem kw2_23 : (Jvm.Cond.laysFinal "IntraPicture$Finish" "IntraPicture$Finish" "samples" "[I") ∈ ipW := ip_w2 23 rfl rfl
theorem kw2_25 : (Jvm.Cond.laysFinal "IntraPicture$Finish" "IntraPicture$Finish" "before" "[I") ∈ ipW := ip_w2 25 rfl rfl
theorem kw2_28 : (Jvm.Cond.fieldLink "IntraPicture$Picture" (18 : Nat) "IntraPicture$Picture" "bins" "LIntraPicture$BinDecoder;") ∈ ipW := ip_w2 28 rfl rfl
theorem kw2_29 : (Jvm.Cond.fieldLink "IntraPicture$Picture" (22 : Nat) "IntraPicture$Picture" "parameters" "[I") ∈ ipW := ip_w2 29 rfl rfl
theorem kw2_30 : (Jvm.Cond.fieldLink "IntraPicture$Picture" (26 : Nat) "IntraPicture$Picture" "rows" "LIntraPicture$Rows;") ∈ ipW := ip_w2 30 rfl rfl
theorem kw2_31 : (Jvm.Cond.fieldLink "IntraPicture$Picture" (12 : Nat) "IntraPicture$Picture" "leaf" "LIntraPicture$Leaf;") ∈ ipW := ip_w2 31 rfl rfl
theorem kw2_32 : (Jvm.Cond.fieldLink "IntraPicture$Picture" (40 : Nat) "IntraPicture$Picture" "levelReader" "LIntraPicture$LevelReader;") ∈ ipW := ip_w2 32 rfl rfl
theorem kw2_33 : (Jvm.Cond.fieldLink "IntraPicture$Picture" (49 : Nat) "IntraPicture$Picture" "residuals" "LIntraPicture$Residuals;") ∈ ipW := ip_w2 33 rfl rfl
theorem kw2_34 : (Jvm.Cond.fieldLink "IntraPicture$Picture" (58 : Nat) "IntraPicture$Picture" "predictor" "LIntraPicture$Predictor;") ∈ ipW := ip_w2 34 rfl rfl
theorem kw2_35 : (Jvm.Cond.fieldLink "IntraPicture$Picture" (68 : Nat) "IntraPicture$Picture" "finish" "LIntraPicture$Finish;") ∈ ipW := ip_w2 35 rfl rfl
theorem kw2_36 : (Jvm.Cond.fieldLink "IntraPicture$Picture" (72 : Nat) "IntraPicture$Picture" "leaves" "I") ∈ ipW := ip_w2 36 rfl rfl
theorem kw2_37 : (Jvm.Cond.fieldLink "IntraPicture" (102 : Nat) "IntraPicture$Picture" "leaves" "I") ∈ ipW := ip_w2 37 rfl rfl
theorem kw2_38 : (Jvm.Cond.laysFinal "IntraPicture$Picture" "IntraPicture$Picture" "bins" "LIntraPicture$BinDecoder;") ∈ ipW := ip_w2 38 rfl rfl
theorem kw2_40 : (Jvm.Cond.laysFinal "IntraPicture$Picture" "IntraPicture$Picture" "parameters" "[I") ∈ ipW := ip_w2 40 rfl rfl
theorem kw2_42 : (Jvm.Cond.laysFinal "IntraPicture$Picture" "IntraPicture$Picture" "rows" "LIntraPicture$Rows;") ∈ ipW := ip_w2 42 rfl rfl
theorem kw2_44 : (Jvm.Cond.laysFinal "IntraPicture$Picture" "IntraPicture$Picture" "leaf" "LIntraPicture$Leaf;") ∈ ipW := ip_w2 44 rfl rfl
theorem kw2_46 : (Jvm.Cond.laysFinal "IntraPicture$Picture" "IntraPicture$Picture" "levelReader" "LIntraPicture$LevelReader;") ∈ ipW := ip_w2 46 rfl rfl
theorem kw2_48 : (Jvm.Cond.laysFinal "IntraPicture$Picture" "IntraPicture$Picture" "residuals" "LIntraPicture$Residuals;") ∈ ipW := ip_w2 48 rfl rfl
theorem kw2_50 : (Jvm.Cond.laysFinal "IntraPicture$Picture" "IntraPicture$Picture" "predictor" "LIntraPicture$Predictor;") ∈ ipW := ip_w2 50 rfl rfl
theorem kw2_52 : (Jvm.Cond.laysFinal "IntraPicture$Picture" "IntraPicture$Picture" "finish" "LIntraPicture$Finish;") ∈ ipW := ip_w2 52 rfl rfl
theorem kw2_54 : (Jvm.Cond.lays "IntraPicture$Picture" "IntraPicture$Picture" "leaves" "I") ∈ ipW := ip_w2 54 rfl rfl
theorem kw2_57 : (Jvm.Cond.fieldLink "IntraPicture" (12 : Nat) "IntraPicture" "fed" "LIntraPicture$FedBytes;") ∈ ipW := ip_w2 57 rfl rfl
theorem kw2_58 : (Jvm.Cond.fieldLink "IntraPicture" (25 : Nat) "IntraPicture" "rest" "LIntraPicture$RestBits;") ∈ ipW := ip_w2 58 rfl rfl
theorem kw2_59 : (Jvm.Cond.fieldLink "IntraPicture" (34 : Nat) "IntraPicture" "parameters" "LIntraPicture$Parameters;") ∈ ipW := ip_w2 59 rfl rfl
theorem kw2_60 : (Jvm.Cond.fieldLink "IntraPicture" (41 : Nat) "IntraPicture" "bins" "LIntraPicture$BinDecoder;") ∈ ipW := ip_w2 60 rfl rfl
theorem kw2_61 : (Jvm.Cond.fieldLink "IntraPicture" (48 : Nat) "IntraPicture" "rows" "LIntraPicture$Rows;") ∈ ipW := ip_w2 61 rfl rfl
theorem kw2_62 : (Jvm.Cond.fieldLink "IntraPicture" (60 : Nat) "IntraPicture" "picture" "LIntraPicture$Picture;") ∈ ipW := ip_w2 62 rfl rfl
theorem kw2_63 : (Jvm.Cond.fieldLink "IntraPicture" (64 : Nat) "IntraPicture" "pictureStands" "Z") ∈ ipW := ip_w2 63 rfl rfl
theorem kw2_64 : (Jvm.Cond.laysFinal "IntraPicture" "IntraPicture" "fed" "LIntraPicture$FedBytes;") ∈ ipW := ip_w2 64 rfl rfl
theorem kw2_66 : (Jvm.Cond.laysFinal "IntraPicture" "IntraPicture" "rest" "LIntraPicture$RestBits;") ∈ ipW := ip_w2 66 rfl rfl
theorem kw2_68 : (Jvm.Cond.laysFinal "IntraPicture" "IntraPicture" "parameters" "LIntraPicture$Parameters;") ∈ ipW := ip_w2 68 rfl rfl
theorem kw2_70 : (Jvm.Cond.laysFinal "IntraPicture" "IntraPicture" "bins" "LIntraPicture$BinDecoder;") ∈ ipW := ip_w2 70 rfl rfl
theorem kw2_72 : (Jvm.Cond.laysFinal "IntraPicture" "IntraPicture" "rows" "LIntraPicture$Rows;") ∈ ipW := ip_w2 72 rfl rfl
theorem kw2_74 : (Jvm.Cond.laysFinal "IntraPicture" "IntraPicture" "picture" "LIntraPicture$Picture;") ∈ ipW := ip_w2 74 rfl rfl
theorem kw2_76 : (Jvm.Cond.lays "IntraPicture" "IntraPicture" "pictureStands" "Z") ∈ ipW := ip_w2 76 rfl rfl
theorem kw2_83 : (Jvm.Cond.methodLink "IntraPicture" (68 : Nat) ({ cls := "IntraPicture$FedBytes", name := "append", desc := "(JI)Z" } : Jvm.MethodName)) ∈ ipW := ip_w2 83 rfl rfl
theorem kw2_84 : (Jvm.Cond.instanceMethod ({ cls := "IntraPicture$FedBytes", name := "append", desc := "(JI)Z" } : Jvm.MethodName)) ∈ ipW := ip_w2 84 rfl rfl
theorem kw2_85 : (Jvm.Cond.selects "IntraPicture$FedBytes" ({ cls := "IntraPicture$FedBytes", name := "append", desc := "(JI)Z" } : Jvm.MethodName) ({ cls := "IntraPicture$FedBytes", name := "append", desc := "(JI)Z" } : Jvm.MethodName)) ∈ ipW := ip_w2 85 rfl rfl
theorem kw2_86 : (Jvm.Cond.code ({ cls := "IntraPicture$FedBytes", name := "append", desc := "(JI)Z" } : Jvm.MethodName) prog_3_method_2_code (5 : Nat) (Option.some Jvm.ClassFile.FieldType.boolean)) ∈ ipW := ip_w2 86 rfl rfl
theorem kw2_95 : (Jvm.Cond.methodLink "IntraPicture" (79 : Nat) ({ cls := "IntraPicture$FedBytes", name := "countStarts", desc := "()I" } : Jvm.MethodName)) ∈ ipW := ip_w2 95 rfl rfl
theorem kw2_96 : (Jvm.Cond.instanceMethod ({ cls := "IntraPicture$FedBytes", name := "countStarts", desc := "()I" } : Jvm.MethodName)) ∈ ipW := ip_w2 96 rfl rfl
theorem kw2_97 : (Jvm.Cond.selects "IntraPicture$FedBytes" ({ cls := "IntraPicture$FedBytes", name := "countStarts", desc := "()I" } : Jvm.MethodName) ({ cls := "IntraPicture$FedBytes", name := "countStarts", desc := "()I" } : Jvm.MethodName)) ∈ ipW := ip_w2 97 rfl rfl
theorem kw2_98 : (Jvm.Cond.code ({ cls := "IntraPicture$FedBytes", name := "countStarts", desc := "()I" } : Jvm.MethodName) prog_3_method_4_code (3 : Nat) (Option.some Jvm.ClassFile.FieldType.int)) ∈ ipW := ip_w2 98 rfl rfl
theorem kw2_99 : (Jvm.Cond.methodLink "IntraPicture$FedBytes" (22 : Nat) ({ cls := "IntraPicture$FedBytes", name := "startsAt", desc := "(I)Z" } : Jvm.MethodName)) ∈ ipW := ip_w2 99 rfl rfl
theorem kw2_101 : (Jvm.Cond.instanceMethod ({ cls := "IntraPicture$FedBytes", name := "startsAt", desc := "(I)Z" } : Jvm.MethodName)) ∈ ipW := ip_w2 101 rfl rfl
theorem kw2_102 : (Jvm.Cond.code ({ cls := "IntraPicture$FedBytes", name := "startsAt", desc := "(I)Z" } : Jvm.MethodName) prog_3_method_3_code (2 : Nat) (Option.some Jvm.ClassFile.FieldType.boolean)) ∈ ipW := ip_w2 102 rfl rfl
theorem kw2_107 : (Jvm.Cond.methodLink "IntraPicture" (83 : Nat) ({ cls := "IntraPicture$FedBytes", name := "choose", desc := "(I)Z" } : Jvm.MethodName)) ∈ ipW := ip_w2 107 rfl rfl
theorem kw2_108 : (Jvm.Cond.instanceMethod ({ cls := "IntraPicture$FedBytes", name := "choose", desc := "(I)Z" } : Jvm.MethodName)) ∈ ipW := ip_w2 108 rfl rfl
theorem kw2_109 : (Jvm.Cond.selects "IntraPicture$FedBytes" ({ cls := "IntraPicture$FedBytes", name := "choose", desc := "(I)Z" } : Jvm.MethodName) ({ cls := "IntraPicture$FedBytes", name := "choose", desc := "(I)Z" } : Jvm.MethodName)) ∈ ipW := ip_w2 109 rfl rfl
theorem kw2_110 : (Jvm.Cond.code ({ cls := "IntraPicture$FedBytes", name := "choose", desc := "(I)Z" } : Jvm.MethodName) prog_3_method_6_code (5 : Nat) (Option.some Jvm.ClassFile.FieldType.boolean)) ∈ ipW := ip_w2 110 rfl rfl
theorem kw2_111 : (Jvm.Cond.methodLink "IntraPicture$FedBytes" (26 : Nat) ({ cls := "IntraPicture$FedBytes", name := "firstByteOf", desc := "(I)I" } : Jvm.MethodName)) ∈ ipW := ip_w2 111 rfl rfl
theorem kw2_113 : (Jvm.Cond.instanceMethod ({ cls := "IntraPicture$FedBytes", name := "firstByteOf", desc := "(I)I" } : Jvm.MethodName)) ∈ ipW := ip_w2 113 rfl rfl
theorem kw2_114 : (Jvm.Cond.code ({ cls := "IntraPicture$FedBytes", name := "firstByteOf", desc := "(I)I" } : Jvm.MethodName) prog_3_method_5_code (4 : Nat) (Option.some Jvm.ClassFile.FieldType.int)) ∈ ipW := ip_w2 114 rfl rfl
theorem kw2_119 : (Jvm.Cond.methodLink "IntraPicture" (90 : Nat) ({ cls := "IntraPicture$RestBits", name := "rewind", desc := "(I)V" } : Jvm.MethodName)) ∈ ipW := ip_w2 119 rfl rfl
theorem kw2_120 : (Jvm.Cond.instanceMethod ({ cls := "IntraPicture$RestBits", name := "rewind", desc := "(I)V" } : Jvm.MethodName)) ∈ ipW := ip_w2 120 rfl rfl
theorem kw2_121 : (Jvm.Cond.selects "IntraPicture$RestBits" ({ cls := "IntraPicture$RestBits", name := "rewind", desc := "(I)V" } : Jvm.MethodName) ({ cls := "IntraPicture$RestBits", name := "rewind", desc := "(I)V" } : Jvm.MethodName)) ∈ ipW := ip_w2 121 rfl rfl
theorem kw2_122 : (Jvm.Cond.code ({ cls := "IntraPicture$RestBits", name := "rewind", desc := "(I)V" } : Jvm.MethodName) prog_11_method_2_code (2 : Nat) (Option.none : Option Jvm.ClassFile.FieldType)) ∈ ipW := ip_w2 122 rfl rfl
theorem kw2_123 : (Jvm.Cond.methodLink "IntraPicture" (94 : Nat) ({ cls := "IntraPicture$FedBytes", name := "chosenKind", desc := "()I" } : Jvm.MethodName)) ∈ ipW := ip_w2 123 rfl rfl
theorem kw2_124 : (Jvm.Cond.instanceMethod ({ cls := "IntraPicture$FedBytes", name := "chosenKind", desc := "()I" } : Jvm.MethodName)) ∈ ipW := ip_w2 124 rfl rfl
theorem kw2_125 : (Jvm.Cond.selects "IntraPicture$FedBytes" ({ cls := "IntraPicture$FedBytes", name := "chosenKind", desc := "()I" } : Jvm.MethodName) ({ cls := "IntraPicture$FedBytes", name := "chosenKind", desc := "()I" } : Jvm.MethodName)) ∈ ipW := ip_w2 125 rfl rfl
theorem kw2_126 : (Jvm.Cond.code ({ cls := "IntraPicture$FedBytes", name := "chosenKind", desc := "()I" } : Jvm.MethodName) prog_3_method_7_code (1 : Nat) (Option.some Jvm.ClassFile.FieldType.int)) ∈ ipW := ip_w2 126 rfl rfl
theorem kw2_127 : (Jvm.Cond.methodLink "IntraPicture" (97 : Nat) ({ cls := "IntraPicture$Parameters", name := "readUnit", desc := "()I" } : Jvm.MethodName)) ∈ ipW := ip_w2 127 rfl rfl
theorem kw2_128 : (Jvm.Cond.instanceMethod ({ cls := "IntraPicture$Parameters", name := "readUnit", desc := "()I" } : Jvm.MethodName)) ∈ ipW := ip_w2 128 rfl rfl
theorem kw2_129 : (Jvm.Cond.selects "IntraPicture$Parameters" ({ cls := "IntraPicture$Parameters", name := "readUnit", desc := "()I" } : Jvm.MethodName) ({ cls := "IntraPicture$Parameters", name := "readUnit", desc := "()I" } : Jvm.MethodName)) ∈ ipW := ip_w2 129 rfl rfl
theorem kw2_130 : (Jvm.Cond.code ({ cls := "IntraPicture$Parameters", name := "readUnit", desc := "()I" } : Jvm.MethodName) prog_7_method_2_code (2 : Nat) (Option.some Jvm.ClassFile.FieldType.int)) ∈ ipW := ip_w2 130 rfl rfl
theorem kw2_131 : (Jvm.Cond.methodLink "IntraPicture$Parameters" (26 : Nat) ({ cls := "java/util/Arrays", name := "fill", desc := "([II)V" } : Jvm.MethodName)) ∈ ipW := ip_w2 131 rfl rfl
theorem kw2_132 : (Jvm.Cond.static ({ cls := "java/util/Arrays", name := "fill", desc := "([II)V" } : Jvm.MethodName)) ∈ ipW := ip_w2 132 rfl rfl
theorem kw2_133 : (Jvm.Cond.code ({ cls := "java/util/Arrays", name := "fill", desc := "([II)V" } : Jvm.MethodName) prog_18_method_103_code (4 : Nat) (Option.none : Option Jvm.ClassFile.FieldType)) ∈ ipW := ip_w2 133 rfl rfl
theorem kw2_134 : (Jvm.Cond.methodLink "IntraPicture$Parameters" (32 : Nat) ({ cls := "IntraPicture$Parameters", name := "code", desc := "()I" } : Jvm.MethodName)) ∈ ipW := ip_w2 134 rfl rfl
theorem kw2_136 : (Jvm.Cond.instanceMethod ({ cls := "IntraPicture$Parameters", name := "code", desc := "()I" } : Jvm.MethodName)) ∈ ipW := ip_w2 136 rfl rfl
theorem kw2_137 : (Jvm.Cond.code ({ cls := "IntraPicture$Parameters", name := "code", desc := "()I" } : Jvm.MethodName) prog_7_method_6_code (2 : Nat) (Option.some Jvm.ClassFile.FieldType.int)) ∈ ipW := ip_w2 137 rfl rfl
theorem kw2_138 : (Jvm.Cond.methodLink "IntraPicture$Parameters" (40 : Nat) ({ cls := "IntraPicture$Parameters", name := "number", desc := "(I)I" } : Jvm.MethodName)) ∈ ipW := ip_w2 138 rfl rfl
theorem kw2_140 : (Jvm.Cond.instanceMethod ({ cls := "IntraPicture$Parameters", name := "number", desc := "(I)I" } : Jvm.MethodName)) ∈ ipW := ip_w2 140 rfl rfl
theorem kw2_141 : (Jvm.Cond.code ({ cls := "IntraPicture$Parameters", name := "number", desc := "(I)I" } : Jvm.MethodName) prog_7_method_5_code (4 : Nat) (Option.some Jvm.ClassFile.FieldType.int)) ∈ ipW := ip_w2 141 rfl rfl
theorem kw2_142 : (Jvm.Cond.methodLink "IntraPicture$Parameters" (61 : Nat) ({ cls := "IntraPicture$RestBits", name := "atEnd", desc := "()Z" } : Jvm.MethodName)) ∈ ipW := ip_w2 142 rfl rfl
theorem kw2_143 : (Jvm.Cond.instanceMethod ({ cls := "IntraPicture$RestBits", name := "atEnd", desc := "()Z" } : Jvm.MethodName)) ∈ ipW := ip_w2 143 rfl rfl
theorem kw2_144 : (Jvm.Cond.selects "IntraPicture$RestBits" ({ cls := "IntraPicture$RestBits", name := "atEnd", desc := "()Z" } : Jvm.MethodName) ({ cls := "IntraPicture$RestBits", name := "atEnd", desc := "()Z" } : Jvm.MethodName)) ∈ ipW := ip_w2 144 rfl rfl
theorem kw2_145 : (Jvm.Cond.code ({ cls := "IntraPicture$RestBits", name := "atEnd", desc := "()Z" } : Jvm.MethodName) prog_11_method_4_code (1 : Nat) (Option.some Jvm.ClassFile.FieldType.boolean)) ∈ ipW := ip_w2 145 rfl rfl
theorem kw2_146 : (Jvm.Cond.methodLink "IntraPicture$Parameters" (57 : Nat) ({ cls := "IntraPicture$Parameters", name := "blame", desc := "(I)V" } : Jvm.MethodName)) ∈ ipW := ip_w2 146 rfl rfl
theorem kw2_148 : (Jvm.Cond.instanceMethod ({ cls := "IntraPicture$Parameters", name := "blame", desc := "(I)V" } : Jvm.MethodName)) ∈ ipW := ip_w2 148 rfl rfl
theorem kw2_149 : (Jvm.Cond.code ({ cls := "IntraPicture$Parameters", name := "blame", desc := "(I)V" } : Jvm.MethodName) prog_7_method_3_code (2 : Nat) (Option.none : Option Jvm.ClassFile.FieldType)) ∈ ipW := ip_w2 149 rfl rfl
theorem kw2_150 : (Jvm.Cond.methodLink "IntraPicture$Parameters" (67 : Nat) ({ cls := "IntraPicture$RestBits", name := "next", desc := "()I" } : Jvm.MethodName)) ∈ ipW := ip_w2 150 rfl rfl
theorem kw2_151 : (Jvm.Cond.instanceMethod ({ cls := "IntraPicture$RestBits", name := "next", desc := "()I" } : Jvm.MethodName)) ∈ ipW := ip_w2 151 rfl rfl
theorem kw2_152 : (Jvm.Cond.selects "IntraPicture$RestBits" ({ cls := "IntraPicture$RestBits", name := "next", desc := "()I" } : Jvm.MethodName) ({ cls := "IntraPicture$RestBits", name := "next", desc := "()I" } : Jvm.MethodName)) ∈ ipW := ip_w2 152 rfl rfl
theorem kw2_153 : (Jvm.Cond.code ({ cls := "IntraPicture$RestBits", name := "next", desc := "()I" } : Jvm.MethodName) prog_11_method_5_code (2 : Nat) (Option.some Jvm.ClassFile.FieldType.int)) ∈ ipW := ip_w2 153 rfl rfl
theorem kw2_154 : (Jvm.Cond.methodLink "IntraPicture$Parameters" (36 : Nat) ({ cls := "IntraPicture$Parameters", name := "checked", desc := "(III)I" } : Jvm.MethodName)) ∈ ipW := ip_w2 154 rfl rfl
theorem kw2_156 : (Jvm.Cond.instanceMethod ({ cls := "IntraPicture$Parameters", name := "checked", desc := "(III)I" } : Jvm.MethodName)) ∈ ipW := ip_w2 156 rfl rfl
theorem kw2_157 : (Jvm.Cond.code ({ cls := "IntraPicture$Parameters", name := "checked", desc := "(III)I" } : Jvm.MethodName) prog_7_method_4_code (4 : Nat) (Option.some Jvm.ClassFile.FieldType.int)) ∈ ipW := ip_w2 157 rfl rfl
theorem kw2_158 : (Jvm.Cond.methodLink "IntraPicture$Parameters" (44 : Nat) ({ cls := "IntraPicture$Parameters", name := "signedCode", desc := "()I" } : Jvm.MethodName)) ∈ ipW := ip_w2 158 rfl rfl
theorem kw2_160 : (Jvm.Cond.instanceMethod ({ cls := "IntraPicture$Parameters", name := "signedCode", desc := "()I" } : Jvm.MethodName)) ∈ ipW := ip_w2 160 rfl rfl
theorem kw2_161 : (Jvm.Cond.code ({ cls := "IntraPicture$Parameters", name := "signedCode", desc := "()I" } : Jvm.MethodName) prog_7_method_7_code (2 : Nat) (Option.some Jvm.ClassFile.FieldType.int)) ∈ ipW := ip_w2 161 rfl rfl
theorem kw2_162 : (Jvm.Cond.methodLink "IntraPicture$Parameters" (47 : Nat) ({ cls := "java/lang/System", name := "arraycopy", desc := "(Ljava/lang/Object;ILjava/lang/Object;II)V" } : Jvm.MethodName)) ∈ ipW := ip_w2 162 rfl rfl
theorem kw2_163 : (Jvm.Cond.static ({ cls := "java/lang/System", name := "arraycopy", desc := "(Ljava/lang/Object;ILjava/lang/Object;II)V" } : Jvm.MethodName)) ∈ ipW := ip_w2 163 rfl rfl
theorem kw2_164 : (Jvm.Cond.native ({ cls := "java/lang/System", name := "arraycopy", desc := "(Ljava/lang/Object;ILjava/lang/Object;II)V" } : Jvm.MethodName)) ∈ ipW := ip_w2 164 rfl rfl
theorem kw2_165 : (Jvm.Cond.methodLink "IntraPicture" (100 : Nat) ({ cls := "IntraPicture$Picture", name := "readUnit", desc := "()V" } : Jvm.MethodName)) ∈ ipW := ip_w2 165 rfl rfl
theorem kw2_166 : (Jvm.Cond.instanceMethod ({ cls := "IntraPicture$Picture", name := "readUnit", desc := "()V" } : Jvm.MethodName)) ∈ ipW := ip_w2 166 rfl rfl
theorem kw2_167 : (Jvm.Cond.selects "IntraPicture$Picture" ({ cls := "IntraPicture$Picture", name := "readUnit", desc := "()V" } : Jvm.MethodName) ({ cls := "IntraPicture$Picture", name := "readUnit", desc := "()V" } : Jvm.MethodName)) ∈ ipW := ip_w2 167 rfl rfl
theorem kw2_168 : (Jvm.Cond.code ({ cls := "IntraPicture$Picture", name := "readUnit", desc := "()V" } : Jvm.MethodName) prog_8_method_2_code (7 : Nat) (Option.none : Option Jvm.ClassFile.FieldType)) ∈ ipW := ip_w2 168 rfl rfl
theorem kw2_169 : (Jvm.Cond.methodLink "IntraPicture$Picture" (79 : Nat) ({ cls := "java/util/Arrays", name := "fill", desc := "([II)V" } : Jvm.MethodName)) ∈ ipW := ip_w2 169 rfl rfl
theorem kw2_170 : (Jvm.Cond.methodLink "IntraPicture$Picture" (85 : Nat) ({ cls := "IntraPicture$BinDecoder", name := "begin", desc := "()V" } : Jvm.MethodName)) ∈ ipW := ip_w2 170 rfl rfl
theorem kw2_171 : (Jvm.Cond.instanceMethod ({ cls := "IntraPicture$BinDecoder", name := "begin", desc := "()V" } : Jvm.MethodName)) ∈ ipW := ip_w2 171 rfl rfl
theorem kw2_172 : (Jvm.Cond.selects "IntraPicture$BinDecoder" ({ cls := "IntraPicture$BinDecoder", name := "begin", desc := "()V" } : Jvm.MethodName) ({ cls := "IntraPicture$BinDecoder", name := "begin", desc := "()V" } : Jvm.MethodName)) ∈ ipW := ip_w2 172 rfl rfl
theorem kw2_173 : (Jvm.Cond.code ({ cls := "IntraPicture$BinDecoder", name := "begin", desc := "()V" } : Jvm.MethodName) prog_2_method_2_code (2 : Nat) (Option.none : Option Jvm.ClassFile.FieldType)) ∈ ipW := ip_w2 173 rfl rfl
theorem kw2_174 : (Jvm.Cond.methodLink "IntraPicture$BinDecoder" (20 : Nat) ({ cls := "java/util/Arrays", name := "fill", desc := "([II)V" } : Jvm.MethodName)) ∈ ipW := ip_w2 174 rfl rfl
theorem kw2_175 : (Jvm.Cond.methodLink "IntraPicture$BinDecoder" (33 : Nat) ({ cls := "IntraPicture$RestBits", name := "next", desc := "()I" } : Jvm.MethodName)) ∈ ipW := ip_w2 175 rfl rfl
theorem kw2_176 : (Jvm.Cond.methodLink "IntraPicture$Picture" (90 : Nat) ({ cls := "IntraPicture$Picture", name := "splitAt", desc := "(II)I" } : Jvm.MethodName)) ∈ ipW := ip_w2 176 rfl rfl
theorem kw2_178 : (Jvm.Cond.instanceMethod ({ cls := "IntraPicture$Picture", name := "splitAt", desc := "(II)I" } : Jvm.MethodName)) ∈ ipW := ip_w2 178 rfl rfl
theorem kw2_179 : (Jvm.Cond.code ({ cls := "IntraPicture$Picture", name := "splitAt", desc := "(II)I" } : Jvm.MethodName) prog_8_method_3_code (3 : Nat) (Option.some Jvm.ClassFile.FieldType.int)) ∈ ipW := ip_w2 179 rfl rfl
theorem kw2_181 : (Jvm.Cond.static ({ cls := "IntraPicture", name := "inPicture", desc := "(II)Z" } : Jvm.MethodName)) ∈ ipW := ip_w2 181 rfl rfl
theorem kw2_182 : (Jvm.Cond.code ({ cls := "IntraPicture", name := "inPicture", desc := "(II)Z" } : Jvm.MethodName) prog_1_method_17_code (2 : Nat) (Option.some Jvm.ClassFile.FieldType.boolean)) ∈ ipW := ip_w2 182 rfl rfl
theorem kw2_184 : (Jvm.Cond.static ({ cls := "IntraPicture", name := "placeOf", desc := "(II)I" } : Jvm.MethodName)) ∈ ipW := ip_w2 184 rfl rfl
theorem kw2_185 : (Jvm.Cond.code ({ cls := "IntraPicture", name := "placeOf", desc := "(II)I" } : Jvm.MethodName) prog_1_method_18_code (2 : Nat) (Option.some Jvm.ClassFile.FieldType.int)) ∈ ipW := ip_w2 185 rfl rfl
theorem kw2_186 : (Jvm.Cond.methodLink "IntraPicture$Picture" (94 : Nat) ({ cls := "IntraPicture$BinDecoder", name := "bin", desc := "(I)I" } : Jvm.MethodName)) ∈ ipW := ip_w2 186 rfl rfl
theorem kw2_187 : (Jvm.Cond.instanceMethod ({ cls := "IntraPicture$BinDecoder", name := "bin", desc := "(I)I" } : Jvm.MethodName)) ∈ ipW := ip_w2 187 rfl rfl
theorem kw2_188 : (Jvm.Cond.selects "IntraPicture$BinDecoder" ({ cls := "IntraPicture$BinDecoder", name := "bin", desc := "(I)I" } : Jvm.MethodName) ({ cls := "IntraPicture$BinDecoder", name := "bin", desc := "(I)I" } : Jvm.MethodName)) ∈ ipW := ip_w2 188 rfl rfl
theorem kw2_189 : (Jvm.Cond.code ({ cls := "IntraPicture$BinDecoder", name := "bin", desc := "(I)I" } : Jvm.MethodName) prog_2_method_4_code (8 : Nat) (Option.some Jvm.ClassFile.FieldType.int)) ∈ ipW := ip_w2 189 rfl rfl
theorem kw2_190 : (Jvm.Cond.methodLink "IntraPicture$Picture" (98 : Nat) ({ cls := "IntraPicture$Leaf", name := "moveTo", desc := "(III)V" } : Jvm.MethodName)) ∈ ipW := ip_w2 190 rfl rfl
theorem kw2_191 : (Jvm.Cond.instanceMethod ({ cls := "IntraPicture$Leaf", name := "moveTo", desc := "(III)V" } : Jvm.MethodName)) ∈ ipW := ip_w2 191 rfl rfl
theorem kw2_192 : (Jvm.Cond.selects "IntraPicture$Leaf" ({ cls := "IntraPicture$Leaf", name := "moveTo", desc := "(III)V" } : Jvm.MethodName) ({ cls := "IntraPicture$Leaf", name := "moveTo", desc := "(III)V" } : Jvm.MethodName)) ∈ ipW := ip_w2 192 rfl rfl
theorem kw2_193 : (Jvm.Cond.code ({ cls := "IntraPicture$Leaf", name := "moveTo", desc := "(III)V" } : Jvm.MethodName) prog_5_method_2_code (4 : Nat) (Option.none : Option Jvm.ClassFile.FieldType)) ∈ ipW := ip_w2 193 rfl rfl
theorem kw2_194 : (Jvm.Cond.methodLink "IntraPicture$Picture" (102 : Nat) ({ cls := "IntraPicture$Picture", name := "modeToTheLeft", desc := "()I" } : Jvm.MethodName)) ∈ ipW := ip_w2 194 rfl rfl
theorem kw2_196 : (Jvm.Cond.instanceMethod ({ cls := "IntraPicture$Picture", name := "modeToTheLeft", desc := "()I" } : Jvm.MethodName)) ∈ ipW := ip_w2 196 rfl rfl
theorem kw2_197 : (Jvm.Cond.code ({ cls := "IntraPicture$Picture", name := "modeToTheLeft", desc := "()I" } : Jvm.MethodName) prog_8_method_5_code (1 : Nat) (Option.some Jvm.ClassFile.FieldType.int)) ∈ ipW := ip_w2 197 rfl rfl
theorem kw2_198 : (Jvm.Cond.methodLink "IntraPicture$Picture" (152 : Nat) ({ cls := "IntraPicture$Leaf", name := "placeInPicture", desc := "(II)I" } : Jvm.MethodName)) ∈ ipW := ip_w2 198 rfl rfl
theorem kw2_199 : (Jvm.Cond.instanceMethod ({ cls := "IntraPicture$Leaf", name := "placeInPicture", desc := "(II)I" } : Jvm.MethodName)) ∈ ipW := ip_w2 199 rfl rfl
theorem kw2_200 : (Jvm.Cond.selects "IntraPicture$Leaf" ({ cls := "IntraPicture$Leaf", name := "placeInPicture", desc := "(II)I" } : Jvm.MethodName) ({ cls := "IntraPicture$Leaf", name := "placeInPicture", desc := "(II)I" } : Jvm.MethodName)) ∈ ipW := ip_w2 200 rfl rfl
theorem kw2_201 : (Jvm.Cond.code ({ cls := "IntraPicture$Leaf", name := "placeInPicture", desc := "(II)I" } : Jvm.MethodName) prog_5_method_3_code (3 : Nat) (Option.some Jvm.ClassFile.FieldType.int)) ∈ ipW := ip_w2 201 rfl rfl
theorem kw2_203 : (Jvm.Cond.methodLink "IntraPicture$Picture" (106 : Nat) ({ cls := "IntraPicture$BinDecoder", name := "freeBits", desc := "(I)I" } : Jvm.MethodName)) ∈ ipW := ip_w2 203 rfl rfl
theorem kw2_204 : (Jvm.Cond.instanceMethod ({ cls := "IntraPicture$BinDecoder", name := "freeBits", desc := "(I)I" } : Jvm.MethodName)) ∈ ipW := ip_w2 204 rfl rfl
theorem kw2_205 : (Jvm.Cond.selects "IntraPicture$BinDecoder" ({ cls := "IntraPicture$BinDecoder", name := "freeBits", desc := "(I)I" } : Jvm.MethodName) ({ cls := "IntraPicture$BinDecoder", name := "freeBits", desc := "(I)I" } : Jvm.MethodName)) ∈ ipW := ip_w2 205 rfl rfl
theorem kw2_206 : (Jvm.Cond.code ({ cls := "IntraPicture$BinDecoder", name := "freeBits", desc := "(I)I" } : Jvm.MethodName) prog_2_method_5_code (5 : Nat) (Option.some Jvm.ClassFile.FieldType.int)) ∈ ipW := ip_w2 206 rfl rfl
theorem kw2_207 : (Jvm.Cond.methodLink "IntraPicture$Picture" (112 : Nat) ({ cls := "IntraPicture$LevelReader", name := "readLeaf", desc := "(LIntraPicture$Leaf;[I)V" } : Jvm.MethodName)) ∈ ipW := ip_w2 207 rfl rfl
theorem kw2_208 : (Jvm.Cond.instanceMethod ({ cls := "IntraPicture$LevelReader", name := "readLeaf", desc := "(LIntraPicture$Leaf;[I)V" } : Jvm.MethodName)) ∈ ipW := ip_w2 208 rfl rfl
theorem kw2_209 : (Jvm.Cond.selects "IntraPicture$LevelReader" ({ cls := "IntraPicture$LevelReader", name := "readLeaf", desc := "(LIntraPicture$Leaf;[I)V" } : Jvm.MethodName) ({ cls := "IntraPicture$LevelReader", name := "readLeaf", desc := "(LIntraPicture$Leaf;[I)V" } : Jvm.MethodName)) ∈ ipW := ip_w2 209 rfl rfl
theorem kw2_210 : (Jvm.Cond.code ({ cls := "IntraPicture$LevelReader", name := "readLeaf", desc := "(LIntraPicture$Leaf;[I)V" } : Jvm.MethodName) prog_6_method_2_code (8 : Nat) (Option.none : Option Jvm.ClassFile.FieldType)) ∈ ipW := ip_w2 210 rfl rfl
theorem kw2_211 : (Jvm.Cond.methodLink "IntraPicture$LevelReader" (28 : Nat) ({ cls := "IntraPicture$BinDecoder", name := "bin", desc := "(I)I" } : Jvm.MethodName)) ∈ ipW := ip_w2 211 rfl rfl
theorem kw2_212 : (Jvm.Cond.methodLink "IntraPicture$LevelReader" (38 : Nat) ({ cls := "IntraPicture$LevelReader", name := "readSizes", desc := "()V" } : Jvm.MethodName)) ∈ ipW := ip_w2 212 rfl rfl
theorem kw2_214 : (Jvm.Cond.instanceMethod ({ cls := "IntraPicture$LevelReader", name := "readSizes", desc := "()V" } : Jvm.MethodName)) ∈ ipW := ip_w2 214 rfl rfl
theorem kw2_215 : (Jvm.Cond.code ({ cls := "IntraPicture$LevelReader", name := "readSizes", desc := "()V" } : Jvm.MethodName) prog_6_method_3_code (3 : Nat) (Option.none : Option Jvm.ClassFile.FieldType)) ∈ ipW := ip_w2 215 rfl rfl
theorem kw2_216 : (Jvm.Cond.fieldLink "IntraPicture$LevelReader" (68 : Nat) "IntraPicture$LevelReader" "ORDER" "[I") ∈ ipW := ip_w2 216 rfl rfl
theorem kw2_218 : (Jvm.Cond.methodLink "IntraPicture$LevelReader" (71 : Nat) ({ cls := "IntraPicture$LevelReader", name := "notZeroBefore", desc := "(I)I" } : Jvm.MethodName)) ∈ ipW := ip_w2 218 rfl rfl
theorem kw2_220 : (Jvm.Cond.instanceMethod ({ cls := "IntraPicture$LevelReader", name := "notZeroBefore", desc := "(I)I" } : Jvm.MethodName)) ∈ ipW := ip_w2 220 rfl rfl
theorem kw2_221 : (Jvm.Cond.code ({ cls := "IntraPicture$LevelReader", name := "notZeroBefore", desc := "(I)I" } : Jvm.MethodName) prog_6_method_4_code (4 : Nat) (Option.some Jvm.ClassFile.FieldType.int)) ∈ ipW := ip_w2 221 rfl rfl
theorem kw2_222 : (Jvm.Cond.methodLink "IntraPicture$LevelReader" (74 : Nat) ({ cls := "IntraPicture$LevelReader", name := "readSize", desc := "()I" } : Jvm.MethodName)) ∈ ipW := ip_w2 222 rfl rfl
theorem kw2_224 : (Jvm.Cond.instanceMethod ({ cls := "IntraPicture$LevelReader", name := "readSize", desc := "()I" } : Jvm.MethodName)) ∈ ipW := ip_w2 224 rfl rfl
theorem kw2_225 : (Jvm.Cond.code ({ cls := "IntraPicture$LevelReader", name := "readSize", desc := "()I" } : Jvm.MethodName) prog_6_method_5_code (2 : Nat) (Option.some Jvm.ClassFile.FieldType.int)) ∈ ipW := ip_w2 225 rfl rfl
theorem kw2_226 : (Jvm.Cond.methodLink "IntraPicture$LevelReader" (78 : Nat) ({ cls := "IntraPicture$BinDecoder", name := "freeBits", desc := "(I)I" } : Jvm.MethodName)) ∈ ipW := ip_w2 226 rfl rfl
theorem kw2_227 : (Jvm.Cond.methodLink "IntraPicture$LevelReader" (47 : Nat) ({ cls := "IntraPicture$LevelReader", name := "readSigns", desc := "(Z)V" } : Jvm.MethodName)) ∈ ipW := ip_w2 227 rfl rfl
theorem kw2_229 : (Jvm.Cond.instanceMethod ({ cls := "IntraPicture$LevelReader", name := "readSigns", desc := "(Z)V" } : Jvm.MethodName)) ∈ ipW := ip_w2 229 rfl rfl
theorem kw2_230 : (Jvm.Cond.code ({ cls := "IntraPicture$LevelReader", name := "readSigns", desc := "(Z)V" } : Jvm.MethodName) prog_6_method_6_code (5 : Nat) (Option.none : Option Jvm.ClassFile.FieldType)) ∈ ipW := ip_w2 230 rfl rfl
theorem kw2_231 : (Jvm.Cond.methodLink "IntraPicture$LevelReader" (51 : Nat) ({ cls := "java/util/Arrays", name := "fill", desc := "([II)V" } : Jvm.MethodName)) ∈ ipW := ip_w2 231 rfl rfl
theorem kw2_232 : (Jvm.Cond.methodLink "IntraPicture$LevelReader" (57 : Nat) ({ cls := "IntraPicture$Leaf", name := "placeInPicture", desc := "(II)I" } : Jvm.MethodName)) ∈ ipW := ip_w2 232 rfl rfl
theorem kw2_233 : (Jvm.Cond.methodLink "IntraPicture$LevelReader" (61 : Nat) ({ cls := "IntraPicture$LevelReader", name := "keepGroup", desc := "(I)V" } : Jvm.MethodName)) ∈ ipW := ip_w2 233 rfl rfl
theorem kw2_235 : (Jvm.Cond.instanceMethod ({ cls := "IntraPicture$LevelReader", name := "keepGroup", desc := "(I)V" } : Jvm.MethodName)) ∈ ipW := ip_w2 235 rfl rfl
theorem kw2_236 : (Jvm.Cond.code ({ cls := "IntraPicture$LevelReader", name := "keepGroup", desc := "(I)V" } : Jvm.MethodName) prog_6_method_7_code (3 : Nat) (Option.none : Option Jvm.ClassFile.FieldType)) ∈ ipW := ip_w2 236 rfl rfl
theorem kw2_237 : (Jvm.Cond.methodLink "IntraPicture$Picture" (116 : Nat) ({ cls := "IntraPicture$Picture", name := "buildLeaf", desc := "()V" } : Jvm.MethodName)) ∈ ipW := ip_w2 237 rfl rfl
theorem kw2_239 : (Jvm.Cond.instanceMethod ({ cls := "IntraPicture$Picture", name := "buildLeaf", desc := "()V" } : Jvm.MethodName)) ∈ ipW := ip_w2 239 rfl rfl
theorem kw3_0 : (Jvm.Cond.code ({ cls := "IntraPicture$Picture", name := "buildLeaf", desc := "()V" } : Jvm.MethodName) prog_8_method_4_code (5 : Nat) (Option.none : Option Jvm.ClassFile.FieldType)) ∈ ipW := ip_w3 0 rfl rfl
theorem kw3_1 : (Jvm.Cond.methodLink "IntraPicture$Picture" (141 : Nat) ({ cls := "IntraPicture$Residuals", name := "compute", desc := "(LIntraPicture$Leaf;I)V" } : Jvm.MethodName)) ∈ ipW := ip_w3 1 rfl rfl
theorem kw3_2 : (Jvm.Cond.instanceMethod ({ cls := "IntraPicture$Residuals", name := "compute", desc := "(LIntraPicture$Leaf;I)V" } : Jvm.MethodName)) ∈ ipW := ip_w3 2 rfl rfl
theorem kw3_3 : (Jvm.Cond.selects "IntraPicture$Residuals" ({ cls := "IntraPicture$Residuals", name := "compute", desc := "(LIntraPicture$Leaf;I)V" } : Jvm.MethodName) ({ cls := "IntraPicture$Residuals", name := "compute", desc := "(LIntraPicture$Leaf;I)V" } : Jvm.MethodName)) ∈ ipW := ip_w3 3 rfl rfl
theorem kw3_4 : (Jvm.Cond.code ({ cls := "IntraPicture$Residuals", name := "compute", desc := "(LIntraPicture$Leaf;I)V" } : Jvm.MethodName) prog_10_method_2_code (3 : Nat) (Option.none : Option Jvm.ClassFile.FieldType)) ∈ ipW := ip_w3 4 rfl rfl
theorem kw3_5 : (Jvm.Cond.methodLink "IntraPicture$Residuals" (22 : Nat) ({ cls := "IntraPicture$Residuals", name := "scaleLevels", desc := "(LIntraPicture$Leaf;I)V" } : Jvm.MethodName)) ∈ ipW := ip_w3 5 rfl rfl
theorem kw3_7 : (Jvm.Cond.instanceMethod ({ cls := "IntraPicture$Residuals", name := "scaleLevels", desc := "(LIntraPicture$Leaf;I)V" } : Jvm.MethodName)) ∈ ipW := ip_w3 7 rfl rfl
theorem kw3_8 : (Jvm.Cond.code ({ cls := "IntraPicture$Residuals", name := "scaleLevels", desc := "(LIntraPicture$Leaf;I)V" } : Jvm.MethodName) prog_10_method_3_code (8 : Nat) (Option.none : Option Jvm.ClassFile.FieldType)) ∈ ipW := ip_w3 8 rfl rfl
theorem kw3_9 : (Jvm.Cond.methodLink "IntraPicture$Residuals" (46 : Nat) ({ cls := "IntraPicture$Leaf", name := "placeInPicture", desc := "(II)I" } : Jvm.MethodName)) ∈ ipW := ip_w3 9 rfl rfl
theorem kw3_10 : (Jvm.Cond.fieldLink "IntraPicture$Residuals" (50 : Nat) "IntraPicture$Residuals" "SCALES" "[I") ∈ ipW := ip_w3 10 rfl rfl
theorem kw3_13 : (Jvm.Cond.static ({ cls := "IntraPicture", name := "bring", desc := "(III)I" } : Jvm.MethodName)) ∈ ipW := ip_w3 13 rfl rfl
theorem kw3_14 : (Jvm.Cond.code ({ cls := "IntraPicture", name := "bring", desc := "(III)I" } : Jvm.MethodName) prog_1_method_19_code (3 : Nat) (Option.some Jvm.ClassFile.FieldType.int)) ∈ ipW := ip_w3 14 rfl rfl
theorem kw3_15 : (Jvm.Cond.methodLink "IntraPicture" (141 : Nat) ({ cls := "java/lang/Math", name := "min", desc := "(II)I" } : Jvm.MethodName)) ∈ ipW := ip_w3 15 rfl rfl
theorem kw3_16 : (Jvm.Cond.static ({ cls := "java/lang/Math", name := "min", desc := "(II)I" } : Jvm.MethodName)) ∈ ipW := ip_w3 16 rfl rfl
theorem kw3_17 : (Jvm.Cond.code ({ cls := "java/lang/Math", name := "min", desc := "(II)I" } : Jvm.MethodName) prog_16_method_69_code (2 : Nat) (Option.some Jvm.ClassFile.FieldType.int)) ∈ ipW := ip_w3 17 rfl rfl
theorem kw3_18 : (Jvm.Cond.methodLink "IntraPicture" (146 : Nat) ({ cls := "java/lang/Math", name := "max", desc := "(II)I" } : Jvm.MethodName)) ∈ ipW := ip_w3 18 rfl rfl
theorem kw3_19 : (Jvm.Cond.static ({ cls := "java/lang/Math", name := "max", desc := "(II)I" } : Jvm.MethodName)) ∈ ipW := ip_w3 19 rfl rfl
theorem kw3_20 : (Jvm.Cond.code ({ cls := "java/lang/Math", name := "max", desc := "(II)I" } : Jvm.MethodName) prog_16_method_65_code (2 : Nat) (Option.some Jvm.ClassFile.FieldType.int)) ∈ ipW := ip_w3 20 rfl rfl
theorem kw3_21 : (Jvm.Cond.methodLink "IntraPicture$Residuals" (36 : Nat) ({ cls := "IntraPicture$Residuals", name := "scaleWithoutMatrix", desc := "(I)V" } : Jvm.MethodName)) ∈ ipW := ip_w3 21 rfl rfl
theorem kw3_23 : (Jvm.Cond.instanceMethod ({ cls := "IntraPicture$Residuals", name := "scaleWithoutMatrix", desc := "(I)V" } : Jvm.MethodName)) ∈ ipW := ip_w3 23 rfl rfl
theorem kw3_24 : (Jvm.Cond.code ({ cls := "IntraPicture$Residuals", name := "scaleWithoutMatrix", desc := "(I)V" } : Jvm.MethodName) prog_10_method_4_code (3 : Nat) (Option.none : Option Jvm.ClassFile.FieldType)) ∈ ipW := ip_w3 24 rfl rfl
theorem kw3_25 : (Jvm.Cond.methodLink "IntraPicture$Residuals" (40 : Nat) ({ cls := "IntraPicture$Residuals", name := "goThroughColumns", desc := "(I)V" } : Jvm.MethodName)) ∈ ipW := ip_w3 25 rfl rfl
theorem kw3_27 : (Jvm.Cond.instanceMethod ({ cls := "IntraPicture$Residuals", name := "goThroughColumns", desc := "(I)V" } : Jvm.MethodName)) ∈ ipW := ip_w3 27 rfl rfl
theorem kw3_28 : (Jvm.Cond.code ({ cls := "IntraPicture$Residuals", name := "goThroughColumns", desc := "(I)V" } : Jvm.MethodName) prog_10_method_6_code (6 : Nat) (Option.none : Option Jvm.ClassFile.FieldType)) ∈ ipW := ip_w3 28 rfl rfl
theorem kw3_29 : (Jvm.Cond.methodLink "IntraPicture$Residuals" (65 : Nat) ({ cls := "IntraPicture$Residuals", name := "matrix", desc := "(III)I" } : Jvm.MethodName)) ∈ ipW := ip_w3 29 rfl rfl
theorem kw3_30 : (Jvm.Cond.static ({ cls := "IntraPicture$Residuals", name := "matrix", desc := "(III)I" } : Jvm.MethodName)) ∈ ipW := ip_w3 30 rfl rfl
theorem kw3_31 : (Jvm.Cond.code ({ cls := "IntraPicture$Residuals", name := "matrix", desc := "(III)I" } : Jvm.MethodName) prog_10_method_5_code (3 : Nat) (Option.some Jvm.ClassFile.FieldType.int)) ∈ ipW := ip_w3 31 rfl rfl
theorem kw3_32 : (Jvm.Cond.fieldLink "IntraPicture$Residuals" (59 : Nat) "IntraPicture$Residuals" "MATRIX_4" "[I") ∈ ipW := ip_w3 32 rfl rfl
theorem kw3_34 : (Jvm.Cond.fieldLink "IntraPicture$Residuals" (62 : Nat) "IntraPicture$Residuals" "WAVE" "[I") ∈ ipW := ip_w3 34 rfl rfl
theorem kw3_36 : (Jvm.Cond.methodLink "IntraPicture$Residuals" (43 : Nat) ({ cls := "IntraPicture$Residuals", name := "goThroughRows", desc := "(I)V" } : Jvm.MethodName)) ∈ ipW := ip_w3 36 rfl rfl
theorem kw3_38 : (Jvm.Cond.instanceMethod ({ cls := "IntraPicture$Residuals", name := "goThroughRows", desc := "(I)V" } : Jvm.MethodName)) ∈ ipW := ip_w3 38 rfl rfl
theorem kw3_39 : (Jvm.Cond.code ({ cls := "IntraPicture$Residuals", name := "goThroughRows", desc := "(I)V" } : Jvm.MethodName) prog_10_method_7_code (6 : Nat) (Option.none : Option Jvm.ClassFile.FieldType)) ∈ ipW := ip_w3 39 rfl rfl
theorem kw3_40 : (Jvm.Cond.methodLink "IntraPicture$Picture" (145 : Nat) ({ cls := "IntraPicture$Predictor", name := "predict", desc := "(LIntraPicture$Leaf;)V" } : Jvm.MethodName)) ∈ ipW := ip_w3 40 rfl rfl
theorem kw3_41 : (Jvm.Cond.instanceMethod ({ cls := "IntraPicture$Predictor", name := "predict", desc := "(LIntraPicture$Leaf;)V" } : Jvm.MethodName)) ∈ ipW := ip_w3 41 rfl rfl
theorem kw3_42 : (Jvm.Cond.selects "IntraPicture$Predictor" ({ cls := "IntraPicture$Predictor", name := "predict", desc := "(LIntraPicture$Leaf;)V" } : Jvm.MethodName) ({ cls := "IntraPicture$Predictor", name := "predict", desc := "(LIntraPicture$Leaf;)V" } : Jvm.MethodName)) ∈ ipW := ip_w3 42 rfl rfl
theorem kw3_43 : (Jvm.Cond.code ({ cls := "IntraPicture$Predictor", name := "predict", desc := "(LIntraPicture$Leaf;)V" } : Jvm.MethodName) prog_9_method_2_code (6 : Nat) (Option.none : Option Jvm.ClassFile.FieldType)) ∈ ipW := ip_w3 43 rfl rfl
theorem kw3_44 : (Jvm.Cond.methodLink "IntraPicture$Predictor" (29 : Nat) ({ cls := "IntraPicture$Predictor", name := "collect", desc := "(LIntraPicture$Leaf;)V" } : Jvm.MethodName)) ∈ ipW := ip_w3 44 rfl rfl
theorem kw3_46 : (Jvm.Cond.instanceMethod ({ cls := "IntraPicture$Predictor", name := "collect", desc := "(LIntraPicture$Leaf;)V" } : Jvm.MethodName)) ∈ ipW := ip_w3 46 rfl rfl
theorem kw3_47 : (Jvm.Cond.code ({ cls := "IntraPicture$Predictor", name := "collect", desc := "(LIntraPicture$Leaf;)V" } : Jvm.MethodName) prog_9_method_6_code (6 : Nat) (Option.none : Option Jvm.ClassFile.FieldType)) ∈ ipW := ip_w3 47 rfl rfl
theorem kw3_48 : (Jvm.Cond.methodLink "IntraPicture$Predictor" (62 : Nat) ({ cls := "java/lang/Math", name := "max", desc := "(II)I" } : Jvm.MethodName)) ∈ ipW := ip_w3 48 rfl rfl
theorem kw3_51 : (Jvm.Cond.methodLink "IntraPicture$Predictor" (33 : Nat) ({ cls := "IntraPicture$Predictor", name := "fillGaps", desc := "()V" } : Jvm.MethodName)) ∈ ipW := ip_w3 51 rfl rfl
theorem kw3_53 : (Jvm.Cond.instanceMethod ({ cls := "IntraPicture$Predictor", name := "fillGaps", desc := "()V" } : Jvm.MethodName)) ∈ ipW := ip_w3 53 rfl rfl
theorem kw3_54 : (Jvm.Cond.code ({ cls := "IntraPicture$Predictor", name := "fillGaps", desc := "()V" } : Jvm.MethodName) prog_9_method_7_code (3 : Nat) (Option.none : Option Jvm.ClassFile.FieldType)) ∈ ipW := ip_w3 54 rfl rfl
theorem kw3_55 : (Jvm.Cond.methodLink "IntraPicture$Predictor" (39 : Nat) ({ cls := "IntraPicture$Predictor", name := "smooth", desc := "()V" } : Jvm.MethodName)) ∈ ipW := ip_w3 55 rfl rfl
theorem kw3_57 : (Jvm.Cond.instanceMethod ({ cls := "IntraPicture$Predictor", name := "smooth", desc := "()V" } : Jvm.MethodName)) ∈ ipW := ip_w3 57 rfl rfl
theorem kw3_58 : (Jvm.Cond.code ({ cls := "IntraPicture$Predictor", name := "smooth", desc := "()V" } : Jvm.MethodName) prog_9_method_8_code (2 : Nat) (Option.none : Option Jvm.ClassFile.FieldType)) ∈ ipW := ip_w3 58 rfl rfl
theorem kw3_59 : (Jvm.Cond.methodLink "IntraPicture$Predictor" (83 : Nat) ({ cls := "java/lang/System", name := "arraycopy", desc := "(Ljava/lang/Object;ILjava/lang/Object;II)V" } : Jvm.MethodName)) ∈ ipW := ip_w3 59 rfl rfl
theorem kw3_60 : (Jvm.Cond.methodLink "IntraPicture$Predictor" (42 : Nat) ({ cls := "IntraPicture$Predictor", name := "mean", desc := "()I" } : Jvm.MethodName)) ∈ ipW := ip_w3 60 rfl rfl
theorem kw3_62 : (Jvm.Cond.instanceMethod ({ cls := "IntraPicture$Predictor", name := "mean", desc := "()I" } : Jvm.MethodName)) ∈ ipW := ip_w3 62 rfl rfl
theorem kw3_63 : (Jvm.Cond.code ({ cls := "IntraPicture$Predictor", name := "mean", desc := "()I" } : Jvm.MethodName) prog_9_method_9_code (3 : Nat) (Option.some Jvm.ClassFile.FieldType.int)) ∈ ipW := ip_w3 63 rfl rfl
theorem kw3_64 : (Jvm.Cond.methodLink "IntraPicture$Predictor" (89 : Nat) ({ cls := "IntraPicture$Predictor", name := "left", desc := "(I)I" } : Jvm.MethodName)) ∈ ipW := ip_w3 64 rfl rfl
theorem kw3_66 : (Jvm.Cond.instanceMethod ({ cls := "IntraPicture$Predictor", name := "left", desc := "(I)I" } : Jvm.MethodName)) ∈ ipW := ip_w3 66 rfl rfl
theorem kw3_67 : (Jvm.Cond.code ({ cls := "IntraPicture$Predictor", name := "left", desc := "(I)I" } : Jvm.MethodName) prog_9_method_3_code (2 : Nat) (Option.some Jvm.ClassFile.FieldType.int)) ∈ ipW := ip_w3 67 rfl rfl
theorem kw3_68 : (Jvm.Cond.methodLink "IntraPicture$Predictor" (93 : Nat) ({ cls := "IntraPicture$Predictor", name := "above", desc := "(I)I" } : Jvm.MethodName)) ∈ ipW := ip_w3 68 rfl rfl
theorem kw3_70 : (Jvm.Cond.instanceMethod ({ cls := "IntraPicture$Predictor", name := "above", desc := "(I)I" } : Jvm.MethodName)) ∈ ipW := ip_w3 70 rfl rfl
theorem kw3_71 : (Jvm.Cond.code ({ cls := "IntraPicture$Predictor", name := "above", desc := "(I)I" } : Jvm.MethodName) prog_9_method_4_code (2 : Nat) (Option.some Jvm.ClassFile.FieldType.int)) ∈ ipW := ip_w3 71 rfl rfl
theorem kw3_72 : (Jvm.Cond.methodLink "IntraPicture$Predictor" (46 : Nat) ({ cls := "IntraPicture$Predictor", name := "predictAt", desc := "(III)I" } : Jvm.MethodName)) ∈ ipW := ip_w3 72 rfl rfl
theorem kw3_74 : (Jvm.Cond.instanceMethod ({ cls := "IntraPicture$Predictor", name := "predictAt", desc := "(III)I" } : Jvm.MethodName)) ∈ ipW := ip_w3 74 rfl rfl
theorem kw3_75 : (Jvm.Cond.code ({ cls := "IntraPicture$Predictor", name := "predictAt", desc := "(III)I" } : Jvm.MethodName) prog_9_method_10_code (4 : Nat) (Option.some Jvm.ClassFile.FieldType.int)) ∈ ipW := ip_w3 75 rfl rfl
theorem kw3_76 : (Jvm.Cond.methodLink "IntraPicture$Predictor" (96 : Nat) ({ cls := "IntraPicture$Predictor", name := "plane", desc := "(II)I" } : Jvm.MethodName)) ∈ ipW := ip_w3 76 rfl rfl
theorem kw3_78 : (Jvm.Cond.instanceMethod ({ cls := "IntraPicture$Predictor", name := "plane", desc := "(II)I" } : Jvm.MethodName)) ∈ ipW := ip_w3 78 rfl rfl
theorem kw3_79 : (Jvm.Cond.code ({ cls := "IntraPicture$Predictor", name := "plane", desc := "(II)I" } : Jvm.MethodName) prog_9_method_11_code (5 : Nat) (Option.some Jvm.ClassFile.FieldType.int)) ∈ ipW := ip_w3 79 rfl rfl
theorem kw3_80 : (Jvm.Cond.methodLink "IntraPicture$Predictor" (99 : Nat) ({ cls := "IntraPicture$Predictor", name := "steep", desc := "(II)I" } : Jvm.MethodName)) ∈ ipW := ip_w3 80 rfl rfl
theorem kw3_82 : (Jvm.Cond.instanceMethod ({ cls := "IntraPicture$Predictor", name := "steep", desc := "(II)I" } : Jvm.MethodName)) ∈ ipW := ip_w3 82 rfl rfl
theorem kw3_83 : (Jvm.Cond.code ({ cls := "IntraPicture$Predictor", name := "steep", desc := "(II)I" } : Jvm.MethodName) prog_9_method_12_code (4 : Nat) (Option.some Jvm.ClassFile.FieldType.int)) ∈ ipW := ip_w3 83 rfl rfl
theorem kw3_84 : (Jvm.Cond.methodLink "IntraPicture$Predictor" (108 : Nat) ({ cls := "IntraPicture$Predictor", name := "blend", desc := "(III)I" } : Jvm.MethodName)) ∈ ipW := ip_w3 84 rfl rfl
theorem kw3_85 : (Jvm.Cond.static ({ cls := "IntraPicture$Predictor", name := "blend", desc := "(III)I" } : Jvm.MethodName)) ∈ ipW := ip_w3 85 rfl rfl
theorem kw3_86 : (Jvm.Cond.code ({ cls := "IntraPicture$Predictor", name := "blend", desc := "(III)I" } : Jvm.MethodName) prog_9_method_14_code (3 : Nat) (Option.some Jvm.ClassFile.FieldType.int)) ∈ ipW := ip_w3 86 rfl rfl
theorem kw3_87 : (Jvm.Cond.methodLink "IntraPicture$Predictor" (102 : Nat) ({ cls := "IntraPicture$Predictor", name := "flat", desc := "(II)I" } : Jvm.MethodName)) ∈ ipW := ip_w3 87 rfl rfl
theorem kw3_89 : (Jvm.Cond.instanceMethod ({ cls := "IntraPicture$Predictor", name := "flat", desc := "(II)I" } : Jvm.MethodName)) ∈ ipW := ip_w3 89 rfl rfl
theorem kw3_90 : (Jvm.Cond.code ({ cls := "IntraPicture$Predictor", name := "flat", desc := "(II)I" } : Jvm.MethodName) prog_9_method_13_code (4 : Nat) (Option.some Jvm.ClassFile.FieldType.int)) ∈ ipW := ip_w3 90 rfl rfl
theorem kw3_91 : (Jvm.Cond.methodLink "IntraPicture$Predictor" (105 : Nat) ({ cls := "IntraPicture$Predictor", name := "diagonal", desc := "(II)I" } : Jvm.MethodName)) ∈ ipW := ip_w3 91 rfl rfl
theorem kw3_93 : (Jvm.Cond.instanceMethod ({ cls := "IntraPicture$Predictor", name := "diagonal", desc := "(II)I" } : Jvm.MethodName)) ∈ ipW := ip_w3 93 rfl rfl
theorem kw3_94 : (Jvm.Cond.code ({ cls := "IntraPicture$Predictor", name := "diagonal", desc := "(II)I" } : Jvm.MethodName) prog_9_method_15_code (3 : Nat) (Option.some Jvm.ClassFile.FieldType.int)) ∈ ipW := ip_w3 94 rfl rfl
theorem kw3_95 : (Jvm.Cond.methodLink "IntraPicture$Predictor" (111 : Nat) ({ cls := "IntraPicture$Predictor", name := "corner", desc := "()I" } : Jvm.MethodName)) ∈ ipW := ip_w3 95 rfl rfl
theorem kw3_97 : (Jvm.Cond.instanceMethod ({ cls := "IntraPicture$Predictor", name := "corner", desc := "()I" } : Jvm.MethodName)) ∈ ipW := ip_w3 97 rfl rfl
theorem kw3_98 : (Jvm.Cond.code ({ cls := "IntraPicture$Predictor", name := "corner", desc := "()I" } : Jvm.MethodName) prog_9_method_5_code (1 : Nat) (Option.some Jvm.ClassFile.FieldType.int)) ∈ ipW := ip_w3 98 rfl rfl
theorem kw3_99 : (Jvm.Cond.methodLink "IntraPicture$Predictor" (55 : Nat) ({ cls := "IntraPicture$Leaf", name := "placeInPicture", desc := "(II)I" } : Jvm.MethodName)) ∈ ipW := ip_w3 99 rfl rfl
theorem kw3_101 : (Jvm.Cond.methodLink "IntraPicture$Picture" (119 : Nat) ({ cls := "IntraPicture$BinDecoder", name := "end", desc := "()V" } : Jvm.MethodName)) ∈ ipW := ip_w3 101 rfl rfl
theorem kw3_102 : (Jvm.Cond.instanceMethod ({ cls := "IntraPicture$BinDecoder", name := "end", desc := "()V" } : Jvm.MethodName)) ∈ ipW := ip_w3 102 rfl rfl
theorem kw3_103 : (Jvm.Cond.selects "IntraPicture$BinDecoder" ({ cls := "IntraPicture$BinDecoder", name := "end", desc := "()V" } : Jvm.MethodName) ({ cls := "IntraPicture$BinDecoder", name := "end", desc := "()V" } : Jvm.MethodName)) ∈ ipW := ip_w3 103 rfl rfl
theorem kw3_104 : (Jvm.Cond.code ({ cls := "IntraPicture$BinDecoder", name := "end", desc := "()V" } : Jvm.MethodName) prog_2_method_3_code (1 : Nat) (Option.none : Option Jvm.ClassFile.FieldType)) ∈ ipW := ip_w3 104 rfl rfl
theorem kw3_105 : (Jvm.Cond.methodLink "IntraPicture$BinDecoder" (39 : Nat) ({ cls := "IntraPicture$RestBits", name := "taken", desc := "()I" } : Jvm.MethodName)) ∈ ipW := ip_w3 105 rfl rfl
theorem kw3_106 : (Jvm.Cond.instanceMethod ({ cls := "IntraPicture$RestBits", name := "taken", desc := "()I" } : Jvm.MethodName)) ∈ ipW := ip_w3 106 rfl rfl
theorem kw3_107 : (Jvm.Cond.selects "IntraPicture$RestBits" ({ cls := "IntraPicture$RestBits", name := "taken", desc := "()I" } : Jvm.MethodName) ({ cls := "IntraPicture$RestBits", name := "taken", desc := "()I" } : Jvm.MethodName)) ∈ ipW := ip_w3 107 rfl rfl
theorem kw3_108 : (Jvm.Cond.code ({ cls := "IntraPicture$RestBits", name := "taken", desc := "()I" } : Jvm.MethodName) prog_11_method_3_code (1 : Nat) (Option.some Jvm.ClassFile.FieldType.int)) ∈ ipW := ip_w3 108 rfl rfl
theorem kw3_109 : (Jvm.Cond.methodLink "IntraPicture$Picture" (125 : Nat) ({ cls := "java/lang/System", name := "arraycopy", desc := "(Ljava/lang/Object;ILjava/lang/Object;II)V" } : Jvm.MethodName)) ∈ ipW := ip_w3 109 rfl rfl
theorem kw3_110 : (Jvm.Cond.methodLink "IntraPicture$Picture" (131 : Nat) ({ cls := "IntraPicture$Finish", name := "apply", desc := "([I)V" } : Jvm.MethodName)) ∈ ipW := ip_w3 110 rfl rfl
theorem kw3_111 : (Jvm.Cond.instanceMethod ({ cls := "IntraPicture$Finish", name := "apply", desc := "([I)V" } : Jvm.MethodName)) ∈ ipW := ip_w3 111 rfl rfl
theorem kw3_112 : (Jvm.Cond.selects "IntraPicture$Finish" ({ cls := "IntraPicture$Finish", name := "apply", desc := "([I)V" } : Jvm.MethodName) ({ cls := "IntraPicture$Finish", name := "apply", desc := "([I)V" } : Jvm.MethodName)) ∈ ipW := ip_w3 112 rfl rfl
theorem kw3_113 : (Jvm.Cond.code ({ cls := "IntraPicture$Finish", name := "apply", desc := "([I)V" } : Jvm.MethodName) prog_4_method_2_code (3 : Nat) (Option.none : Option Jvm.ClassFile.FieldType)) ∈ ipW := ip_w3 113 rfl rfl
theorem kw3_115 : (Jvm.Cond.methodLink "IntraPicture$Finish" (22 : Nat) ({ cls := "IntraPicture$Finish", name := "smoothEdge", desc := "(III)V" } : Jvm.MethodName)) ∈ ipW := ip_w3 115 rfl rfl
theorem kw3_117 : (Jvm.Cond.instanceMethod ({ cls := "IntraPicture$Finish", name := "smoothEdge", desc := "(III)V" } : Jvm.MethodName)) ∈ ipW := ip_w3 117 rfl rfl
theorem kw3_118 : (Jvm.Cond.code ({ cls := "IntraPicture$Finish", name := "smoothEdge", desc := "(III)V" } : Jvm.MethodName) prog_4_method_3_code (10 : Nat) (Option.none : Option Jvm.ClassFile.FieldType)) ∈ ipW := ip_w3 118 rfl rfl
theorem kw3_119 : (Jvm.Cond.methodLink "IntraPicture$Finish" (30 : Nat) ({ cls := "java/lang/Math", name := "abs", desc := "(I)I" } : Jvm.MethodName)) ∈ ipW := ip_w3 119 rfl rfl
theorem kw3_120 : (Jvm.Cond.static ({ cls := "java/lang/Math", name := "abs", desc := "(I)I" } : Jvm.MethodName)) ∈ ipW := ip_w3 120 rfl rfl
theorem kw3_121 : (Jvm.Cond.code ({ cls := "java/lang/Math", name := "abs", desc := "(I)I" } : Jvm.MethodName) prog_16_method_59_code (1 : Nat) (Option.some Jvm.ClassFile.FieldType.int)) ∈ ipW := ip_w3 121 rfl rfl
theorem kw3_123 : (Jvm.Cond.methodLink "IntraPicture$Finish" (26 : Nat) ({ cls := "IntraPicture$Finish", name := "addOffsets", desc := "([I)V" } : Jvm.MethodName)) ∈ ipW := ip_w3 123 rfl rfl
theorem kw3_125 : (Jvm.Cond.instanceMethod ({ cls := "IntraPicture$Finish", name := "addOffsets", desc := "([I)V" } : Jvm.MethodName)) ∈ ipW := ip_w3 125 rfl rfl
theorem kw3_126 : (Jvm.Cond.code ({ cls := "IntraPicture$Finish", name := "addOffsets", desc := "([I)V" } : Jvm.MethodName) prog_4_method_4_code (6 : Nat) (Option.none : Option Jvm.ClassFile.FieldType)) ∈ ipW := ip_w3 126 rfl rfl
theorem kw3_127 : (Jvm.Cond.methodLink "IntraPicture$Finish" (40 : Nat) ({ cls := "java/lang/System", name := "arraycopy", desc := "(Ljava/lang/Object;ILjava/lang/Object;II)V" } : Jvm.MethodName)) ∈ ipW := ip_w3 127 rfl rfl
theorem kw3_128 : (Jvm.Cond.methodLink "IntraPicture$Finish" (46 : Nat) ({ cls := "IntraPicture$Finish", name := "offsetNumber", desc := "([III)I" } : Jvm.MethodName)) ∈ ipW := ip_w3 128 rfl rfl
theorem kw3_130 : (Jvm.Cond.instanceMethod ({ cls := "IntraPicture$Finish", name := "offsetNumber", desc := "([III)I" } : Jvm.MethodName)) ∈ ipW := ip_w3 130 rfl rfl
theorem kw3_131 : (Jvm.Cond.code ({ cls := "IntraPicture$Finish", name := "offsetNumber", desc := "([III)I" } : Jvm.MethodName) prog_4_method_5_code (6 : Nat) (Option.some Jvm.ClassFile.FieldType.int)) ∈ ipW := ip_w3 131 rfl rfl
theorem kw3_132 : (Jvm.Cond.methodLink "IntraPicture$Finish" (50 : Nat) ({ cls := "IntraPicture$Finish", name := "numberByNeighbours", desc := "(II)I" } : Jvm.MethodName)) ∈ ipW := ip_w3 132 rfl rfl
theorem kw3_134 : (Jvm.Cond.instanceMethod ({ cls := "IntraPicture$Finish", name := "numberByNeighbours", desc := "(II)I" } : Jvm.MethodName)) ∈ ipW := ip_w3 134 rfl rfl
theorem kw3_135 : (Jvm.Cond.code ({ cls := "IntraPicture$Finish", name := "numberByNeighbours", desc := "(II)I" } : Jvm.MethodName) prog_4_method_6_code (5 : Nat) (Option.some Jvm.ClassFile.FieldType.int)) ∈ ipW := ip_w3 135 rfl rfl
theorem kw3_136 : (Jvm.Cond.methodLink "IntraPicture$Finish" (53 : Nat) ({ cls := "java/lang/Integer", name := "compare", desc := "(II)I" } : Jvm.MethodName)) ∈ ipW := ip_w3 136 rfl rfl
theorem kw3_137 : (Jvm.Cond.static ({ cls := "java/lang/Integer", name := "compare", desc := "(II)I" } : Jvm.MethodName)) ∈ ipW := ip_w3 137 rfl rfl
theorem kw3_138 : (Jvm.Cond.code ({ cls := "java/lang/Integer", name := "compare", desc := "(II)I" } : Jvm.MethodName) prog_15_method_40_code (2 : Nat) (Option.some Jvm.ClassFile.FieldType.int)) ∈ ipW := ip_w3 138 rfl rfl
theorem kw3_147 : (Jvm.Cond.methodLink "IntraPicture" (108 : Nat) ({ cls := "IntraPicture", name := "answerAt", desc := "([IIII)I" } : Jvm.MethodName)) ∈ ipW := ip_w3 147 rfl rfl
theorem kw3_149 : (Jvm.Cond.instanceMethod ({ cls := "IntraPicture", name := "answerAt", desc := "([IIII)I" } : Jvm.MethodName)) ∈ ipW := ip_w3 149 rfl rfl
theorem kw3_150 : (Jvm.Cond.code ({ cls := "IntraPicture", name := "answerAt", desc := "([IIII)I" } : Jvm.MethodName) prog_1_method_16_code (5 : Nat) (Option.some Jvm.ClassFile.FieldType.int)) ∈ ipW := ip_w3 150 rfl rfl
theorem kw3_151 : (Jvm.Cond.methodLink "IntraPicture" (133 : Nat) ({ cls := "IntraPicture", name := "inPicture", desc := "(II)Z" } : Jvm.MethodName)) ∈ ipW := ip_w3 151 rfl rfl
theorem kw3_152 : (Jvm.Cond.methodLink "IntraPicture" (137 : Nat) ({ cls := "IntraPicture", name := "placeOf", desc := "(II)I" } : Jvm.MethodName)) ∈ ipW := ip_w3 152 rfl rfl
theorem kw3_187 : (Jvm.Cond.fieldLink "IntraPictureModel" (7 : Nat) "IntraPictureModel" "fed" "[I") ∈ ipW := ip_w3 187 rfl rfl
theorem kw3_188 : (Jvm.Cond.fieldLink "IntraPictureModel" (80 : Nat) "IntraPictureModel" "size" "I") ∈ ipW := ip_w3 188 rfl rfl
theorem kw3_189 : (Jvm.Cond.fieldLink "IntraPictureModel" (13 : Nat) "IntraPictureModel" "load" "[I") ∈ ipW := ip_w3 189 rfl rfl
theorem kw3_190 : (Jvm.Cond.fieldLink "IntraPictureModel" (101 : Nat) "IntraPictureModel" "loaded" "I") ∈ ipW := ip_w3 190 rfl rfl
theorem kw3_191 : (Jvm.Cond.fieldLink "IntraPictureModel" (108 : Nat) "IntraPictureModel" "at" "I") ∈ ipW := ip_w3 191 rfl rfl
theorem kw3_192 : (Jvm.Cond.fieldLink "IntraPictureModel" (111 : Nat) "IntraPictureModel" "fault" "I") ∈ ipW := ip_w3 192 rfl rfl
theorem kw3_193 : (Jvm.Cond.fieldLink "IntraPictureModel" (16 : Nat) "IntraPictureModel" "given" "[I") ∈ ipW := ip_w3 193 rfl rfl
theorem kw3_194 : (Jvm.Cond.fieldLink "IntraPictureModel" (19 : Nat) "IntraPictureModel" "wanted" "[I") ∈ ipW := ip_w3 194 rfl rfl
theorem kw3_195 : (Jvm.Cond.fieldLink "IntraPictureModel" (86 : Nat) "IntraPictureModel" "hasGiven" "Z") ∈ ipW := ip_w3 195 rfl rfl
theorem kw3_196 : (Jvm.Cond.fieldLink "IntraPictureModel" (90 : Nat) "IntraPictureModel" "hasPicture" "Z") ∈ ipW := ip_w3 196 rfl rfl
theorem kw3_197 : (Jvm.Cond.fieldLink "IntraPictureModel" (145 : Nat) "IntraPictureModel" "range" "I") ∈ ipW := ip_w3 197 rfl rfl
theorem kw3_198 : (Jvm.Cond.fieldLink "IntraPictureModel" (142 : Nat) "IntraPictureModel" "value" "I") ∈ ipW := ip_w3 198 rfl rfl
theorem kw3_199 : (Jvm.Cond.fieldLink "IntraPictureModel" (22 : Nat) "IntraPictureModel" "chances" "[I") ∈ ipW := ip_w3 199 rfl rfl
theorem kw3_200 : (Jvm.Cond.fieldLink "IntraPictureModel" (25 : Nat) "IntraPictureModel" "counts" "[I") ∈ ipW := ip_w3 200 rfl rfl
theorem kw3_201 : (Jvm.Cond.fieldLink "IntraPictureModel" (139 : Nat) "IntraPictureModel" "leaves" "I") ∈ ipW := ip_w3 201 rfl rfl
theorem kw3_202 : (Jvm.Cond.fieldLink "IntraPictureModel" (28 : Nat) "IntraPictureModel" "left" "[I") ∈ ipW := ip_w3 202 rfl rfl
theorem kw3_203 : (Jvm.Cond.fieldLink "IntraPictureModel" (31 : Nat) "IntraPictureModel" "top" "[I") ∈ ipW := ip_w3 203 rfl rfl
theorem kw3_204 : (Jvm.Cond.fieldLink "IntraPictureModel" (34 : Nat) "IntraPictureModel" "sides" "[I") ∈ ipW := ip_w3 204 rfl rfl
theorem kw3_205 : (Jvm.Cond.fieldLink "IntraPictureModel" (37 : Nat) "IntraPictureModel" "modes" "[I") ∈ ipW := ip_w3 205 rfl rfl
theorem kw3_206 : (Jvm.Cond.fieldLink "IntraPictureModel" (40 : Nat) "IntraPictureModel" "skips" "[Z") ∈ ipW := ip_w3 206 rfl rfl
theorem kw3_207 : (Jvm.Cond.fieldLink "IntraPictureModel" (44 : Nat) "IntraPictureModel" "owner" "[I") ∈ ipW := ip_w3 207 rfl rfl
theorem kw3_208 : (Jvm.Cond.fieldLink "IntraPictureModel" (47 : Nat) "IntraPictureModel" "levels" "[I") ∈ ipW := ip_w3 208 rfl rfl
theorem kw3_209 : (Jvm.Cond.fieldLink "IntraPictureModel" (50 : Nat) "IntraPictureModel" "group" "[I") ∈ ipW := ip_w3 209 rfl rfl
theorem kw3_210 : (Jvm.Cond.fieldLink "IntraPictureModel" (53 : Nat) "IntraPictureModel" "guess" "[I") ∈ ipW := ip_w3 210 rfl rfl
theorem kw3_211 : (Jvm.Cond.fieldLink "IntraPictureModel" (56 : Nat) "IntraPictureModel" "first" "[I") ∈ ipW := ip_w3 211 rfl rfl
theorem kw3_212 : (Jvm.Cond.fieldLink "IntraPictureModel" (59 : Nat) "IntraPictureModel" "last" "[I") ∈ ipW := ip_w3 212 rfl rfl
theorem kw3_213 : (Jvm.Cond.fieldLink "IntraPictureModel" (62 : Nat) "IntraPictureModel" "old" "[I") ∈ ipW := ip_w3 213 rfl rfl
theorem kw3_214 : (Jvm.Cond.fieldLink "IntraPictureModel" (65 : Nat) "IntraPictureModel" "row" "[I") ∈ ipW := ip_w3 214 rfl rfl
theorem kw3_215 : (Jvm.Cond.fieldLink "IntraPictureModel" (68 : Nat) "IntraPictureModel" "raw" "[I") ∈ ipW := ip_w3 215 rfl rfl
theorem kw3_216 : (Jvm.Cond.fieldLink "IntraPictureModel" (71 : Nat) "IntraPictureModel" "four" "[I") ∈ ipW := ip_w3 216 rfl rfl
theorem kw3_217 : (Jvm.Cond.fieldLink "IntraPictureModel" (74 : Nat) "IntraPictureModel" "wave" "[I") ∈ ipW := ip_w3 217 rfl rfl
theorem kw3_218 : (Jvm.Cond.fieldLink "IntraPictureModel" (77 : Nat) "IntraPictureModel" "scale" "[I") ∈ ipW := ip_w3 218 rfl rfl
theorem kw3_219 : (Jvm.Cond.laysFinal "IntraPictureModel" "IntraPictureModel" "fed" "[I") ∈ ipW := ip_w3 219 rfl rfl
theorem kw3_221 : (Jvm.Cond.lays "IntraPictureModel" "IntraPictureModel" "size" "I") ∈ ipW := ip_w3 221 rfl rfl
theorem kw3_223 : (Jvm.Cond.laysFinal "IntraPictureModel" "IntraPictureModel" "load" "[I") ∈ ipW := ip_w3 223 rfl rfl
theorem kw3_225 : (Jvm.Cond.lays "IntraPictureModel" "IntraPictureModel" "loaded" "I") ∈ ipW := ip_w3 225 rfl rfl
theorem kw3_227 : (Jvm.Cond.lays "IntraPictureModel" "IntraPictureModel" "at" "I") ∈ ipW := ip_w3 227 rfl rfl
theorem kw3_229 : (Jvm.Cond.lays "IntraPictureModel" "IntraPictureModel" "fault" "I") ∈ ipW := ip_w3 229 rfl rfl
theorem kw3_231 : (Jvm.Cond.laysFinal "IntraPictureModel" "IntraPictureModel" "given" "[I") ∈ ipW := ip_w3 231 rfl rfl
theorem kw3_233 : (Jvm.Cond.laysFinal "IntraPictureModel" "IntraPictureModel" "wanted" "[I") ∈ ipW := ip_w3 233 rfl rfl
theorem kw3_235 : (Jvm.Cond.lays "IntraPictureModel" "IntraPictureModel" "hasGiven" "Z") ∈ ipW := ip_w3 235 rfl rfl
theorem kw3_237 : (Jvm.Cond.lays "IntraPictureModel" "IntraPictureModel" "hasPicture" "Z") ∈ ipW := ip_w3 237 rfl rfl
theorem kw3_239 : (Jvm.Cond.lays "IntraPictureModel" "IntraPictureModel" "range" "I") ∈ ipW := ip_w3 239 rfl rfl
theorem kw4_1 : (Jvm.Cond.lays "IntraPictureModel" "IntraPictureModel" "value" "I") ∈ ipW := ip_w4 1 rfl rfl
theorem kw4_3 : (Jvm.Cond.laysFinal "IntraPictureModel" "IntraPictureModel" "chances" "[I") ∈ ipW := ip_w4 3 rfl rfl
theorem kw4_5 : (Jvm.Cond.laysFinal "IntraPictureModel" "IntraPictureModel" "counts" "[I") ∈ ipW := ip_w4 5 rfl rfl
theorem kw4_7 : (Jvm.Cond.lays "IntraPictureModel" "IntraPictureModel" "leaves" "I") ∈ ipW := ip_w4 7 rfl rfl
theorem kw4_9 : (Jvm.Cond.laysFinal "IntraPictureModel" "IntraPictureModel" "left" "[I") ∈ ipW := ip_w4 9 rfl rfl
theorem kw4_11 : (Jvm.Cond.laysFinal "IntraPictureModel" "IntraPictureModel" "top" "[I") ∈ ipW := ip_w4 11 rfl rfl
theorem kw4_13 : (Jvm.Cond.laysFinal "IntraPictureModel" "IntraPictureModel" "sides" "[I") ∈ ipW := ip_w4 13 rfl rfl
theorem kw4_15 : (Jvm.Cond.laysFinal "IntraPictureModel" "IntraPictureModel" "modes" "[I") ∈ ipW := ip_w4 15 rfl rfl
theorem kw4_17 : (Jvm.Cond.laysFinal "IntraPictureModel" "IntraPictureModel" "skips" "[Z") ∈ ipW := ip_w4 17 rfl rfl
theorem kw4_19 : (Jvm.Cond.laysFinal "IntraPictureModel" "IntraPictureModel" "owner" "[I") ∈ ipW := ip_w4 19 rfl rfl
theorem kw4_21 : (Jvm.Cond.laysFinal "IntraPictureModel" "IntraPictureModel" "levels" "[I") ∈ ipW := ip_w4 21 rfl rfl
theorem kw4_23 : (Jvm.Cond.laysFinal "IntraPictureModel" "IntraPictureModel" "group" "[I") ∈ ipW := ip_w4 23 rfl rfl
theorem kw4_25 : (Jvm.Cond.laysFinal "IntraPictureModel" "IntraPictureModel" "guess" "[I") ∈ ipW := ip_w4 25 rfl rfl
theorem kw4_27 : (Jvm.Cond.laysFinal "IntraPictureModel" "IntraPictureModel" "first" "[I") ∈ ipW := ip_w4 27 rfl rfl
theorem kw4_29 : (Jvm.Cond.laysFinal "IntraPictureModel" "IntraPictureModel" "last" "[I") ∈ ipW := ip_w4 29 rfl rfl
theorem kw4_31 : (Jvm.Cond.laysFinal "IntraPictureModel" "IntraPictureModel" "old" "[I") ∈ ipW := ip_w4 31 rfl rfl
theorem kw4_33 : (Jvm.Cond.laysFinal "IntraPictureModel" "IntraPictureModel" "row" "[I") ∈ ipW := ip_w4 33 rfl rfl
theorem kw4_35 : (Jvm.Cond.laysFinal "IntraPictureModel" "IntraPictureModel" "raw" "[I") ∈ ipW := ip_w4 35 rfl rfl
theorem kw4_37 : (Jvm.Cond.laysFinal "IntraPictureModel" "IntraPictureModel" "four" "[I") ∈ ipW := ip_w4 37 rfl rfl
theorem kw4_39 : (Jvm.Cond.laysFinal "IntraPictureModel" "IntraPictureModel" "wave" "[I") ∈ ipW := ip_w4 39 rfl rfl
theorem kw4_41 : (Jvm.Cond.laysFinal "IntraPictureModel" "IntraPictureModel" "scale" "[I") ∈ ipW := ip_w4 41 rfl rfl
theorem kw4_49 : (Jvm.Cond.constantLong "IntraPictureModel" (84 : Nat) (255 : Int64)) ∈ ipW := ip_w4 49 rfl rfl
theorem kw4_55 : (Jvm.Cond.instanceMethod ({ cls := "IntraPictureModel", name := "units", desc := "()I" } : Jvm.MethodName)) ∈ ipW := ip_w4 55 rfl rfl
theorem kw4_56 : (Jvm.Cond.selects "IntraPictureModel" ({ cls := "IntraPictureModel", name := "units", desc := "()I" } : Jvm.MethodName) ({ cls := "IntraPictureModel", name := "units", desc := "()I" } : Jvm.MethodName)) ∈ ipW := ip_w4 56 rfl rfl
theorem kw4_57 : (Jvm.Cond.code ({ cls := "IntraPictureModel", name := "units", desc := "()I" } : Jvm.MethodName) prog_14_method_6_code (3 : Nat) (Option.some Jvm.ClassFile.FieldType.int)) ∈ ipW := ip_w4 57 rfl rfl
theorem kw4_58 : (Jvm.Cond.methodLink "IntraPictureModel" (93 : Nat) ({ cls := "IntraPictureModel", name := "start", desc := "(I)I" } : Jvm.MethodName)) ∈ ipW := ip_w4 58 rfl rfl
theorem kw4_60 : (Jvm.Cond.instanceMethod ({ cls := "IntraPictureModel", name := "start", desc := "(I)I" } : Jvm.MethodName)) ∈ ipW := ip_w4 60 rfl rfl
theorem kw4_61 : (Jvm.Cond.code ({ cls := "IntraPictureModel", name := "start", desc := "(I)I" } : Jvm.MethodName) prog_14_method_5_code (3 : Nat) (Option.some Jvm.ClassFile.FieldType.int)) ∈ ipW := ip_w4 61 rfl rfl
theorem kw4_66 : (Jvm.Cond.methodLink "IntraPictureModel" (104 : Nat) ({ cls := "IntraPictureModel", name := "open", desc := "(I)Z" } : Jvm.MethodName)) ∈ ipW := ip_w4 66 rfl rfl
theorem kw4_68 : (Jvm.Cond.instanceMethod ({ cls := "IntraPictureModel", name := "open", desc := "(I)Z" } : Jvm.MethodName)) ∈ ipW := ip_w4 68 rfl rfl
theorem kw4_69 : (Jvm.Cond.code ({ cls := "IntraPictureModel", name := "open", desc := "(I)Z" } : Jvm.MethodName) prog_14_method_7_code (7 : Nat) (Option.some Jvm.ClassFile.FieldType.boolean)) ∈ ipW := ip_w4 69 rfl rfl
theorem kw4_70 : (Jvm.Cond.methodLink "IntraPictureModel" (97 : Nat) ({ cls := "IntraPictureModel", name := "units", desc := "()I" } : Jvm.MethodName)) ∈ ipW := ip_w4 70 rfl rfl
theorem kw4_75 : (Jvm.Cond.methodLink "IntraPictureModel" (130 : Nat) ({ cls := "IntraPictureModel", name := "readParameters", desc := "()V" } : Jvm.MethodName)) ∈ ipW := ip_w4 75 rfl rfl
theorem kw4_77 : (Jvm.Cond.instanceMethod ({ cls := "IntraPictureModel", name := "readParameters", desc := "()V" } : Jvm.MethodName)) ∈ ipW := ip_w4 77 rfl rfl
theorem kw4_78 : (Jvm.Cond.code ({ cls := "IntraPictureModel", name := "readParameters", desc := "()V" } : Jvm.MethodName) prog_14_method_14_code (2 : Nat) (Option.none : Option Jvm.ClassFile.FieldType)) ∈ ipW := ip_w4 78 rfl rfl
theorem kw4_79 : (Jvm.Cond.methodLink "IntraPictureModel" (120 : Nat) ({ cls := "IntraPictureModel", name := "code", desc := "()I" } : Jvm.MethodName)) ∈ ipW := ip_w4 79 rfl rfl
theorem kw4_81 : (Jvm.Cond.instanceMethod ({ cls := "IntraPictureModel", name := "code", desc := "()I" } : Jvm.MethodName)) ∈ ipW := ip_w4 81 rfl rfl
theorem kw4_82 : (Jvm.Cond.code ({ cls := "IntraPictureModel", name := "code", desc := "()I" } : Jvm.MethodName) prog_14_method_11_code (3 : Nat) (Option.some Jvm.ClassFile.FieldType.int)) ∈ ipW := ip_w4 82 rfl rfl
theorem kw4_83 : (Jvm.Cond.methodLink "IntraPictureModel" (117 : Nat) ({ cls := "IntraPictureModel", name := "needed", desc := "(I)I" } : Jvm.MethodName)) ∈ ipW := ip_w4 83 rfl rfl
theorem kw4_85 : (Jvm.Cond.instanceMethod ({ cls := "IntraPictureModel", name := "needed", desc := "(I)I" } : Jvm.MethodName)) ∈ ipW := ip_w4 85 rfl rfl
theorem kw4_86 : (Jvm.Cond.code ({ cls := "IntraPictureModel", name := "needed", desc := "(I)I" } : Jvm.MethodName) prog_14_method_10_code (4 : Nat) (Option.some Jvm.ClassFile.FieldType.int)) ∈ ipW := ip_w4 86 rfl rfl
theorem kw4_87 : (Jvm.Cond.methodLink "IntraPictureModel" (114 : Nat) ({ cls := "IntraPictureModel", name := "bit", desc := "()I" } : Jvm.MethodName)) ∈ ipW := ip_w4 87 rfl rfl
theorem kw4_89 : (Jvm.Cond.instanceMethod ({ cls := "IntraPictureModel", name := "bit", desc := "()I" } : Jvm.MethodName)) ∈ ipW := ip_w4 89 rfl rfl
theorem kw4_90 : (Jvm.Cond.code ({ cls := "IntraPictureModel", name := "bit", desc := "()I" } : Jvm.MethodName) prog_14_method_9_code (3 : Nat) (Option.some Jvm.ClassFile.FieldType.int)) ∈ ipW := ip_w4 90 rfl rfl
theorem kw4_91 : (Jvm.Cond.methodLink "IntraPictureModel" (123 : Nat) ({ cls := "IntraPictureModel", name := "within", desc := "(III)I" } : Jvm.MethodName)) ∈ ipW := ip_w4 91 rfl rfl
theorem kw4_93 : (Jvm.Cond.instanceMethod ({ cls := "IntraPictureModel", name := "within", desc := "(III)I" } : Jvm.MethodName)) ∈ ipW := ip_w4 93 rfl rfl
theorem kw4_94 : (Jvm.Cond.code ({ cls := "IntraPictureModel", name := "within", desc := "(III)I" } : Jvm.MethodName) prog_14_method_12_code (4 : Nat) (Option.some Jvm.ClassFile.FieldType.int)) ∈ ipW := ip_w4 94 rfl rfl
theorem kw4_95 : (Jvm.Cond.methodLink "IntraPictureModel" (127 : Nat) ({ cls := "IntraPictureModel", name := "signedCode", desc := "()I" } : Jvm.MethodName)) ∈ ipW := ip_w4 95 rfl rfl
theorem kw4_97 : (Jvm.Cond.instanceMethod ({ cls := "IntraPictureModel", name := "signedCode", desc := "()I" } : Jvm.MethodName)) ∈ ipW := ip_w4 97 rfl rfl
theorem kw4_98 : (Jvm.Cond.code ({ cls := "IntraPictureModel", name := "signedCode", desc := "()I" } : Jvm.MethodName) prog_14_method_13_code (2 : Nat) (Option.some Jvm.ClassFile.FieldType.int)) ∈ ipW := ip_w4 98 rfl rfl
theorem kw4_99 : (Jvm.Cond.methodLink "IntraPictureModel" (133 : Nat) ({ cls := "IntraPictureModel", name := "readPicture", desc := "()V" } : Jvm.MethodName)) ∈ ipW := ip_w4 99 rfl rfl
theorem kw4_101 : (Jvm.Cond.instanceMethod ({ cls := "IntraPictureModel", name := "readPicture", desc := "()V" } : Jvm.MethodName)) ∈ ipW := ip_w4 101 rfl rfl
theorem kw4_102 : (Jvm.Cond.code ({ cls := "IntraPictureModel", name := "readPicture", desc := "()V" } : Jvm.MethodName) prog_14_method_20_code (6 : Nat) (Option.none : Option Jvm.ClassFile.FieldType)) ∈ ipW := ip_w4 102 rfl rfl
theorem kw4_103 : (Jvm.Cond.methodLink "IntraPictureModel" (148 : Nat) ({ cls := "IntraPictureModel", name := "shift", desc := "()V" } : Jvm.MethodName)) ∈ ipW := ip_w4 103 rfl rfl
theorem kw4_105 : (Jvm.Cond.instanceMethod ({ cls := "IntraPictureModel", name := "shift", desc := "()V" } : Jvm.MethodName)) ∈ ipW := ip_w4 105 rfl rfl
theorem kw4_106 : (Jvm.Cond.code ({ cls := "IntraPictureModel", name := "shift", desc := "()V" } : Jvm.MethodName) prog_14_method_16_code (1 : Nat) (Option.none : Option Jvm.ClassFile.FieldType)) ∈ ipW := ip_w4 106 rfl rfl
theorem kw4_107 : (Jvm.Cond.methodLink "IntraPictureModel" (154 : Nat) ({ cls := "IntraPictureModel", name := "bin", desc := "(I)I" } : Jvm.MethodName)) ∈ ipW := ip_w4 107 rfl rfl
theorem kw4_109 : (Jvm.Cond.instanceMethod ({ cls := "IntraPictureModel", name := "bin", desc := "(I)I" } : Jvm.MethodName)) ∈ ipW := ip_w4 109 rfl rfl
theorem kw4_110 : (Jvm.Cond.code ({ cls := "IntraPictureModel", name := "bin", desc := "(I)I" } : Jvm.MethodName) prog_14_method_17_code (7 : Nat) (Option.some Jvm.ClassFile.FieldType.int)) ∈ ipW := ip_w4 110 rfl rfl
theorem kw4_111 : (Jvm.Cond.methodLink "IntraPictureModel" (157 : Nat) ({ cls := "IntraPictureModel", name := "readLeaf", desc := "(III)V" } : Jvm.MethodName)) ∈ ipW := ip_w4 111 rfl rfl
theorem kw4_113 : (Jvm.Cond.instanceMethod ({ cls := "IntraPictureModel", name := "readLeaf", desc := "(III)V" } : Jvm.MethodName)) ∈ ipW := ip_w4 113 rfl rfl
theorem kw4_114 : (Jvm.Cond.code ({ cls := "IntraPictureModel", name := "readLeaf", desc := "(III)V" } : Jvm.MethodName) prog_14_method_21_code (7 : Nat) (Option.none : Option Jvm.ClassFile.FieldType)) ∈ ipW := ip_w4 114 rfl rfl
theorem kw4_115 : (Jvm.Cond.methodLink "IntraPictureModel" (161 : Nat) ({ cls := "IntraPictureModel", name := "frees", desc := "(I)I" } : Jvm.MethodName)) ∈ ipW := ip_w4 115 rfl rfl
theorem kw4_117 : (Jvm.Cond.instanceMethod ({ cls := "IntraPictureModel", name := "frees", desc := "(I)I" } : Jvm.MethodName)) ∈ ipW := ip_w4 117 rfl rfl
theorem kw4_118 : (Jvm.Cond.code ({ cls := "IntraPictureModel", name := "frees", desc := "(I)I" } : Jvm.MethodName) prog_14_method_19_code (4 : Nat) (Option.some Jvm.ClassFile.FieldType.int)) ∈ ipW := ip_w4 118 rfl rfl
theorem kw4_119 : (Jvm.Cond.methodLink "IntraPictureModel" (151 : Nat) ({ cls := "IntraPictureModel", name := "free", desc := "()I" } : Jvm.MethodName)) ∈ ipW := ip_w4 119 rfl rfl
theorem kw4_121 : (Jvm.Cond.instanceMethod ({ cls := "IntraPictureModel", name := "free", desc := "()I" } : Jvm.MethodName)) ∈ ipW := ip_w4 121 rfl rfl
theorem kw4_122 : (Jvm.Cond.code ({ cls := "IntraPictureModel", name := "free", desc := "()I" } : Jvm.MethodName) prog_14_method_18_code (1 : Nat) (Option.some Jvm.ClassFile.FieldType.int)) ∈ ipW := ip_w4 122 rfl rfl
theorem kw4_123 : (Jvm.Cond.methodLink "IntraPictureModel" (164 : Nat) ({ cls := "IntraPictureModel", name := "readGroup", desc := "(II)V" } : Jvm.MethodName)) ∈ ipW := ip_w4 123 rfl rfl
theorem kw4_125 : (Jvm.Cond.instanceMethod ({ cls := "IntraPictureModel", name := "readGroup", desc := "(II)V" } : Jvm.MethodName)) ∈ ipW := ip_w4 125 rfl rfl
theorem kw4_126 : (Jvm.Cond.code ({ cls := "IntraPictureModel", name := "readGroup", desc := "(II)V" } : Jvm.MethodName) prog_14_method_24_code (10 : Nat) (Option.none : Option Jvm.ClassFile.FieldType)) ∈ ipW := ip_w4 126 rfl rfl
theorem kw4_127 : (Jvm.Cond.methodLink "IntraPictureModel" (168 : Nat) ({ cls := "IntraPictureModel", name := "place", desc := "(I)I" } : Jvm.MethodName)) ∈ ipW := ip_w4 127 rfl rfl
theorem kw4_128 : (Jvm.Cond.static ({ cls := "IntraPictureModel", name := "place", desc := "(I)I" } : Jvm.MethodName)) ∈ ipW := ip_w4 128 rfl rfl
theorem kw4_129 : (Jvm.Cond.code ({ cls := "IntraPictureModel", name := "place", desc := "(I)I" } : Jvm.MethodName) prog_14_method_22_code (4 : Nat) (Option.some Jvm.ClassFile.FieldType.int)) ∈ ipW := ip_w4 129 rfl rfl
theorem kw4_130 : (Jvm.Cond.methodLink "IntraPictureModel" (171 : Nat) ({ cls := "IntraPictureModel", name := "sizeOfLevel", desc := "()I" } : Jvm.MethodName)) ∈ ipW := ip_w4 130 rfl rfl
theorem kw4_132 : (Jvm.Cond.instanceMethod ({ cls := "IntraPictureModel", name := "sizeOfLevel", desc := "()I" } : Jvm.MethodName)) ∈ ipW := ip_w4 132 rfl rfl
theorem kw4_133 : (Jvm.Cond.code ({ cls := "IntraPictureModel", name := "sizeOfLevel", desc := "()I" } : Jvm.MethodName) prog_14_method_23_code (2 : Nat) (Option.some Jvm.ClassFile.FieldType.int)) ∈ ipW := ip_w4 133 rfl rfl
theorem kw4_134 : (Jvm.Cond.methodLink "IntraPictureModel" (136 : Nat) ({ cls := "IntraPictureModel", name := "restore", desc := "()V" } : Jvm.MethodName)) ∈ ipW := ip_w4 134 rfl rfl
theorem kw4_136 : (Jvm.Cond.instanceMethod ({ cls := "IntraPictureModel", name := "restore", desc := "()V" } : Jvm.MethodName)) ∈ ipW := ip_w4 136 rfl rfl
theorem kw4_137 : (Jvm.Cond.code ({ cls := "IntraPictureModel", name := "restore", desc := "()V" } : Jvm.MethodName) prog_14_method_35_code (7 : Nat) (Option.none : Option Jvm.ClassFile.FieldType)) ∈ ipW := ip_w4 137 rfl rfl
theorem kw4_138 : (Jvm.Cond.methodLink "IntraPictureModel" (199 : Nat) ({ cls := "IntraPictureModel", name := "references", desc := "(I)V" } : Jvm.MethodName)) ∈ ipW := ip_w4 138 rfl rfl
theorem kw4_140 : (Jvm.Cond.instanceMethod ({ cls := "IntraPictureModel", name := "references", desc := "(I)V" } : Jvm.MethodName)) ∈ ipW := ip_w4 140 rfl rfl
theorem kw4_141 : (Jvm.Cond.code ({ cls := "IntraPictureModel", name := "references", desc := "(I)V" } : Jvm.MethodName) prog_14_method_30_code (7 : Nat) (Option.none : Option Jvm.ClassFile.FieldType)) ∈ ipW := ip_w4 141 rfl rfl
theorem kw4_142 : (Jvm.Cond.methodLink "IntraPictureModel" (186 : Nat) ({ cls := "IntraPictureModel", name := "reference", desc := "(II)I" } : Jvm.MethodName)) ∈ ipW := ip_w4 142 rfl rfl
theorem kw4_144 : (Jvm.Cond.instanceMethod ({ cls := "IntraPictureModel", name := "reference", desc := "(II)I" } : Jvm.MethodName)) ∈ ipW := ip_w4 144 rfl rfl
theorem kw4_145 : (Jvm.Cond.code ({ cls := "IntraPictureModel", name := "reference", desc := "(II)I" } : Jvm.MethodName) prog_14_method_29_code (7 : Nat) (Option.some Jvm.ClassFile.FieldType.int)) ∈ ipW := ip_w4 145 rfl rfl
theorem kw4_146 : (Jvm.Cond.methodLink "IntraPictureModel" (203 : Nat) ({ cls := "IntraPictureModel", name := "predict", desc := "(III)I" } : Jvm.MethodName)) ∈ ipW := ip_w4 146 rfl rfl
theorem kw4_148 : (Jvm.Cond.instanceMethod ({ cls := "IntraPictureModel", name := "predict", desc := "(III)I" } : Jvm.MethodName)) ∈ ipW := ip_w4 148 rfl rfl
theorem kw4_149 : (Jvm.Cond.code ({ cls := "IntraPictureModel", name := "predict", desc := "(III)I" } : Jvm.MethodName) prog_14_method_34_code (7 : Nat) (Option.some Jvm.ClassFile.FieldType.int)) ∈ ipW := ip_w4 149 rfl rfl
theorem kw4_150 : (Jvm.Cond.methodLink "IntraPictureModel" (190 : Nat) ({ cls := "IntraPictureModel", name := "toLeft", desc := "(II)I" } : Jvm.MethodName)) ∈ ipW := ip_w4 150 rfl rfl
theorem kw4_152 : (Jvm.Cond.instanceMethod ({ cls := "IntraPictureModel", name := "toLeft", desc := "(II)I" } : Jvm.MethodName)) ∈ ipW := ip_w4 152 rfl rfl
theorem kw4_153 : (Jvm.Cond.code ({ cls := "IntraPictureModel", name := "toLeft", desc := "(II)I" } : Jvm.MethodName) prog_14_method_31_code (3 : Nat) (Option.some Jvm.ClassFile.FieldType.int)) ∈ ipW := ip_w4 153 rfl rfl
theorem kw4_154 : (Jvm.Cond.methodLink "IntraPictureModel" (193 : Nat) ({ cls := "IntraPictureModel", name := "above", desc := "(II)I" } : Jvm.MethodName)) ∈ ipW := ip_w4 154 rfl rfl
theorem kw4_156 : (Jvm.Cond.instanceMethod ({ cls := "IntraPictureModel", name := "above", desc := "(II)I" } : Jvm.MethodName)) ∈ ipW := ip_w4 156 rfl rfl
theorem kw4_157 : (Jvm.Cond.code ({ cls := "IntraPictureModel", name := "above", desc := "(II)I" } : Jvm.MethodName) prog_14_method_32_code (3 : Nat) (Option.some Jvm.ClassFile.FieldType.int)) ∈ ipW := ip_w4 157 rfl rfl
theorem kw4_158 : (Jvm.Cond.methodLink "IntraPictureModel" (196 : Nat) ({ cls := "IntraPictureModel", name := "mean", desc := "(I)I" } : Jvm.MethodName)) ∈ ipW := ip_w4 158 rfl rfl
theorem kw4_160 : (Jvm.Cond.instanceMethod ({ cls := "IntraPictureModel", name := "mean", desc := "(I)I" } : Jvm.MethodName)) ∈ ipW := ip_w4 160 rfl rfl
theorem kw4_161 : (Jvm.Cond.code ({ cls := "IntraPictureModel", name := "mean", desc := "(I)I" } : Jvm.MethodName) prog_14_method_33_code (5 : Nat) (Option.some Jvm.ClassFile.FieldType.int)) ∈ ipW := ip_w4 161 rfl rfl
theorem kw4_162 : (Jvm.Cond.methodLink "IntraPictureModel" (206 : Nat) ({ cls := "IntraPictureModel", name := "residual", desc := "(III)I" } : Jvm.MethodName)) ∈ ipW := ip_w4 162 rfl rfl
theorem kw4_164 : (Jvm.Cond.instanceMethod ({ cls := "IntraPictureModel", name := "residual", desc := "(III)I" } : Jvm.MethodName)) ∈ ipW := ip_w4 164 rfl rfl
theorem kw4_165 : (Jvm.Cond.code ({ cls := "IntraPictureModel", name := "residual", desc := "(III)I" } : Jvm.MethodName) prog_14_method_28_code (6 : Nat) (Option.some Jvm.ClassFile.FieldType.int)) ∈ ipW := ip_w4 165 rfl rfl
theorem kw4_166 : (Jvm.Cond.methodLink "IntraPictureModel" (180 : Nat) ({ cls := "IntraPictureModel", name := "coefficient", desc := "(III)I" } : Jvm.MethodName)) ∈ ipW := ip_w4 166 rfl rfl
theorem kw4_168 : (Jvm.Cond.instanceMethod ({ cls := "IntraPictureModel", name := "coefficient", desc := "(III)I" } : Jvm.MethodName)) ∈ ipW := ip_w4 168 rfl rfl
theorem kw4_169 : (Jvm.Cond.code ({ cls := "IntraPictureModel", name := "coefficient", desc := "(III)I" } : Jvm.MethodName) prog_14_method_25_code (5 : Nat) (Option.some Jvm.ClassFile.FieldType.int)) ∈ ipW := ip_w4 169 rfl rfl
theorem kw4_170 : (Jvm.Cond.methodLink "IntraPictureModel" (174 : Nat) ({ cls := "IntraPictureModel", name := "held", desc := "(III)I" } : Jvm.MethodName)) ∈ ipW := ip_w4 170 rfl rfl
theorem kw4_171 : (Jvm.Cond.static ({ cls := "IntraPictureModel", name := "held", desc := "(III)I" } : Jvm.MethodName)) ∈ ipW := ip_w4 171 rfl rfl
theorem kw4_172 : (Jvm.Cond.code ({ cls := "IntraPictureModel", name := "held", desc := "(III)I" } : Jvm.MethodName) prog_14_method_2_code (3 : Nat) (Option.some Jvm.ClassFile.FieldType.int)) ∈ ipW := ip_w4 172 rfl rfl
theorem kw4_173 : (Jvm.Cond.methodLink "IntraPictureModel" (177 : Nat) ({ cls := "IntraPictureModel", name := "matrix", desc := "(III)I" } : Jvm.MethodName)) ∈ ipW := ip_w4 173 rfl rfl
theorem kw4_175 : (Jvm.Cond.instanceMethod ({ cls := "IntraPictureModel", name := "matrix", desc := "(III)I" } : Jvm.MethodName)) ∈ ipW := ip_w4 175 rfl rfl
theorem kw4_176 : (Jvm.Cond.code ({ cls := "IntraPictureModel", name := "matrix", desc := "(III)I" } : Jvm.MethodName) prog_14_method_26_code (5 : Nat) (Option.some Jvm.ClassFile.FieldType.int)) ∈ ipW := ip_w4 176 rfl rfl
theorem kw4_177 : (Jvm.Cond.methodLink "IntraPictureModel" (183 : Nat) ({ cls := "IntraPictureModel", name := "half", desc := "(III)I" } : Jvm.MethodName)) ∈ ipW := ip_w4 177 rfl rfl
theorem kw4_179 : (Jvm.Cond.instanceMethod ({ cls := "IntraPictureModel", name := "half", desc := "(III)I" } : Jvm.MethodName)) ∈ ipW := ip_w4 179 rfl rfl
theorem kw4_180 : (Jvm.Cond.code ({ cls := "IntraPictureModel", name := "half", desc := "(III)I" } : Jvm.MethodName) prog_14_method_27_code (7 : Nat) (Option.some Jvm.ClassFile.FieldType.int)) ∈ ipW := ip_w4 180 rfl rfl
theorem kw4_181 : (Jvm.Cond.methodLink "IntraPictureModel" (209 : Nat) ({ cls := "IntraPictureModel", name := "smoothEdge", desc := "(II)V" } : Jvm.MethodName)) ∈ ipW := ip_w4 181 rfl rfl
theorem kw4_183 : (Jvm.Cond.instanceMethod ({ cls := "IntraPictureModel", name := "smoothEdge", desc := "(II)V" } : Jvm.MethodName)) ∈ ipW := ip_w4 183 rfl rfl
theorem kw4_184 : (Jvm.Cond.code ({ cls := "IntraPictureModel", name := "smoothEdge", desc := "(II)V" } : Jvm.MethodName) prog_14_method_37_code (9 : Nat) (Option.none : Option Jvm.ClassFile.FieldType)) ∈ ipW := ip_w4 184 rfl rfl
theorem kw4_185 : (Jvm.Cond.methodLink "IntraPictureModel" (215 : Nat) ({ cls := "IntraPictureModel", name := "without", desc := "(I)I" } : Jvm.MethodName)) ∈ ipW := ip_w4 185 rfl rfl
theorem kw4_186 : (Jvm.Cond.static ({ cls := "IntraPictureModel", name := "without", desc := "(I)I" } : Jvm.MethodName)) ∈ ipW := ip_w4 186 rfl rfl
theorem kw4_187 : (Jvm.Cond.code ({ cls := "IntraPictureModel", name := "without", desc := "(I)I" } : Jvm.MethodName) prog_14_method_36_code (1 : Nat) (Option.some Jvm.ClassFile.FieldType.int)) ∈ ipW := ip_w4 187 rfl rfl
theorem kw4_188 : (Jvm.Cond.methodLink "IntraPictureModel" (212 : Nat) ({ cls := "IntraPictureModel", name := "offset", desc := "(I)I" } : Jvm.MethodName)) ∈ ipW := ip_w4 188 rfl rfl
theorem kw4_190 : (Jvm.Cond.instanceMethod ({ cls := "IntraPictureModel", name := "offset", desc := "(I)I" } : Jvm.MethodName)) ∈ ipW := ip_w4 190 rfl rfl
theorem kw4_191 : (Jvm.Cond.code ({ cls := "IntraPictureModel", name := "offset", desc := "(I)I" } : Jvm.MethodName) prog_14_method_39_code (6 : Nat) (Option.some Jvm.ClassFile.FieldType.int)) ∈ ipW := ip_w4 191 rfl rfl
theorem kw4_192 : (Jvm.Cond.methodLink "IntraPictureModel" (218 : Nat) ({ cls := "IntraPictureModel", name := "sign", desc := "(I)I" } : Jvm.MethodName)) ∈ ipW := ip_w4 192 rfl rfl
theorem kw4_193 : (Jvm.Cond.static ({ cls := "IntraPictureModel", name := "sign", desc := "(I)I" } : Jvm.MethodName)) ∈ ipW := ip_w4 193 rfl rfl
theorem kw4_194 : (Jvm.Cond.code ({ cls := "IntraPictureModel", name := "sign", desc := "(I)I" } : Jvm.MethodName) prog_14_method_38_code (1 : Nat) (Option.some Jvm.ClassFile.FieldType.int)) ∈ ipW := ip_w4 194 rfl rfl
theorem kw4_203 : (Jvm.Cond.methodLink "IntraPictureModel" (221 : Nat) ({ cls := "IntraPictureModel", name := "seen", desc := "(II)Z" } : Jvm.MethodName)) ∈ ipW := ip_w4 203 rfl rfl
theorem kw4_205 : (Jvm.Cond.instanceMethod ({ cls := "IntraPictureModel", name := "seen", desc := "(II)Z" } : Jvm.MethodName)) ∈ ipW := ip_w4 205 rfl rfl
theorem kw4_206 : (Jvm.Cond.code ({ cls := "IntraPictureModel", name := "seen", desc := "(II)Z" } : Jvm.MethodName) prog_14_method_41_code (3 : Nat) (Option.some Jvm.ClassFile.FieldType.boolean)) ∈ ipW := ip_w4 206 rfl rfl
theorem kin_IP {c1 : Cond} : ∀ w ∈ u_ws kR_IP kT_IP 7, w ∈ c1 :: ipW := by
  show ∀ w ∈ [(Jvm.Cond.laysFinal "IntraPicture" "IntraPicture" "fed" "LIntraPicture$FedBytes;"), (Jvm.Cond.laysFinal "IntraPicture" "IntraPicture" "rest" "LIntraPicture$RestBits;"), (Jvm.Cond.laysFinal "IntraPicture" "IntraPicture" "parameters" "LIntraPicture$Parameters;"), (Jvm.Cond.laysFinal "IntraPicture" "IntraPicture" "bins" "LIntraPicture$BinDecoder;"), (Jvm.Cond.laysFinal "IntraPicture" "IntraPicture" "rows" "LIntraPicture$Rows;"), (Jvm.Cond.laysFinal "IntraPicture" "IntraPicture" "picture" "LIntraPicture$Picture;"), (Jvm.Cond.lays "IntraPicture" "IntraPicture" "pictureStands" "Z")], w ∈ c1 :: ipW
  simp only [List.forall_mem_cons, List.not_mem_nil, false_imp_iff, implies_true, and_true]
  exact ⟨List.mem_cons_of_mem _ kw2_64, List.mem_cons_of_mem _ kw2_66, List.mem_cons_of_mem _ kw2_68, List.mem_cons_of_mem _ kw2_70, List.mem_cons_of_mem _ kw2_72, List.mem_cons_of_mem _ kw2_74, List.mem_cons_of_mem _ kw2_76⟩
theorem kin_FB {c1 : Cond} : ∀ w ∈ u_ws kR_FB kT_FB 4, w ∈ c1 :: ipW := by
  show ∀ w ∈ [(Jvm.Cond.laysFinal "IntraPicture$FedBytes" "IntraPicture$FedBytes" "bytes" "[I"), (Jvm.Cond.laysFinal "IntraPicture$FedBytes" "IntraPicture$FedBytes" "chosen" "[I"), (Jvm.Cond.lays "IntraPicture$FedBytes" "IntraPicture$FedBytes" "count" "I"), (Jvm.Cond.lays "IntraPicture$FedBytes" "IntraPicture$FedBytes" "chosenLength" "I")], w ∈ c1 :: ipW
  simp only [List.forall_mem_cons, List.not_mem_nil, false_imp_iff, implies_true, and_true]
  exact ⟨List.mem_cons_of_mem _ kw1_39, List.mem_cons_of_mem _ kw1_41, List.mem_cons_of_mem _ kw1_43, List.mem_cons_of_mem _ kw1_45⟩
theorem kin_RB {c1 : Cond} : ∀ w ∈ u_ws kR_RB kT_RB 3, w ∈ c1 :: ipW := by
  show ∀ w ∈ [(Jvm.Cond.laysFinal "IntraPicture$RestBits" "IntraPicture$RestBits" "bytes" "[I"), (Jvm.Cond.lays "IntraPicture$RestBits" "IntraPicture$RestBits" "place" "I"), (Jvm.Cond.lays "IntraPicture$RestBits" "IntraPicture$RestBits" "end" "I")], w ∈ c1 :: ipW
  simp only [List.forall_mem_cons, List.not_mem_nil, false_imp_iff, implies_true, and_true]
  exact ⟨List.mem_cons_of_mem _ kw1_58, List.mem_cons_of_mem _ kw1_60, List.mem_cons_of_mem _ kw1_62⟩
theorem kin_PA {c1 : Cond} : ∀ w ∈ u_ws kR_PA kT_PA 5, w ∈ c1 :: ipW := by
  show ∀ w ∈ [(Jvm.Cond.laysFinal "IntraPicture$Parameters" "IntraPicture$Parameters" "rest" "LIntraPicture$RestBits;"), (Jvm.Cond.laysFinal "IntraPicture$Parameters" "IntraPicture$Parameters" "values" "[I"), (Jvm.Cond.laysFinal "IntraPicture$Parameters" "IntraPicture$Parameters" "coming" "[I"), (Jvm.Cond.lays "IntraPicture$Parameters" "IntraPicture$Parameters" "there" "Z"), (Jvm.Cond.lays "IntraPicture$Parameters" "IntraPicture$Parameters" "fault" "I")], w ∈ c1 :: ipW
  simp only [List.forall_mem_cons, List.not_mem_nil, false_imp_iff, implies_true, and_true]
  exact ⟨List.mem_cons_of_mem _ kw1_78, List.mem_cons_of_mem _ kw1_80, List.mem_cons_of_mem _ kw1_82, List.mem_cons_of_mem _ kw1_84, List.mem_cons_of_mem _ kw1_86⟩
theorem kin_BD {c1 : Cond} : ∀ w ∈ u_ws kR_BD kT_BD 5, w ∈ c1 :: ipW := by
  show ∀ w ∈ [(Jvm.Cond.laysFinal "IntraPicture$BinDecoder" "IntraPicture$BinDecoder" "rest" "LIntraPicture$RestBits;"), (Jvm.Cond.laysFinal "IntraPicture$BinDecoder" "IntraPicture$BinDecoder" "chances" "[I"), (Jvm.Cond.laysFinal "IntraPicture$BinDecoder" "IntraPicture$BinDecoder" "counts" "[I"), (Jvm.Cond.lays "IntraPicture$BinDecoder" "IntraPicture$BinDecoder" "range" "I"), (Jvm.Cond.lays "IntraPicture$BinDecoder" "IntraPicture$BinDecoder" "value" "I")], w ∈ c1 :: ipW
  simp only [List.forall_mem_cons, List.not_mem_nil, false_imp_iff, implies_true, and_true]
  exact ⟨List.mem_cons_of_mem _ kw1_102, List.mem_cons_of_mem _ kw1_104, List.mem_cons_of_mem _ kw1_106, List.mem_cons_of_mem _ kw1_108, List.mem_cons_of_mem _ kw1_110⟩
theorem kin_LF {c1 : Cond} : ∀ w ∈ u_ws kR_LF kT_LF 5, w ∈ c1 :: ipW := by
  show ∀ w ∈ [(Jvm.Cond.lays "IntraPicture$Leaf" "IntraPicture$Leaf" "x" "I"), (Jvm.Cond.lays "IntraPicture$Leaf" "IntraPicture$Leaf" "y" "I"), (Jvm.Cond.lays "IntraPicture$Leaf" "IntraPicture$Leaf" "side" "I"), (Jvm.Cond.lays "IntraPicture$Leaf" "IntraPicture$Leaf" "mode" "I"), (Jvm.Cond.lays "IntraPicture$Leaf" "IntraPicture$Leaf" "skip" "Z")], w ∈ c1 :: ipW
  simp only [List.forall_mem_cons, List.not_mem_nil, false_imp_iff, implies_true, and_true]
  exact ⟨List.mem_cons_of_mem _ kw1_180, List.mem_cons_of_mem _ kw1_182, List.mem_cons_of_mem _ kw1_184, List.mem_cons_of_mem _ kw1_186, List.mem_cons_of_mem _ kw1_188⟩
theorem kin_RW {c1 : Cond} : ∀ w ∈ u_ws kR_RW kT_RW 6, w ∈ c1 :: ipW := by
  show ∀ w ∈ [(Jvm.Cond.laysFinal "IntraPicture$Rows" "IntraPicture$Rows" "samples" "[I"), (Jvm.Cond.laysFinal "IntraPicture$Rows" "IntraPicture$Rows" "plain" "[I"), (Jvm.Cond.laysFinal "IntraPicture$Rows" "IntraPicture$Rows" "predicted" "[I"), (Jvm.Cond.laysFinal "IntraPicture$Rows" "IntraPicture$Rows" "levels" "[I"), (Jvm.Cond.laysFinal "IntraPicture$Rows" "IntraPicture$Rows" "modes" "[I"), (Jvm.Cond.laysFinal "IntraPicture$Rows" "IntraPicture$Rows" "sides" "[I")], w ∈ c1 :: ipW
  simp only [List.forall_mem_cons, List.not_mem_nil, false_imp_iff, implies_true, and_true]
  exact ⟨List.mem_cons_of_mem _ kw1_140, List.mem_cons_of_mem _ kw1_142, List.mem_cons_of_mem _ kw1_144, List.mem_cons_of_mem _ kw1_146, List.mem_cons_of_mem _ kw1_148, List.mem_cons_of_mem _ kw1_150⟩
theorem kin_PI {c1 : Cond} : ∀ w ∈ u_ws kR_PI kT_PI 9, w ∈ c1 :: ipW := by
  show ∀ w ∈ [(Jvm.Cond.laysFinal "IntraPicture$Picture" "IntraPicture$Picture" "bins" "LIntraPicture$BinDecoder;"), (Jvm.Cond.laysFinal "IntraPicture$Picture" "IntraPicture$Picture" "parameters" "[I"), (Jvm.Cond.laysFinal "IntraPicture$Picture" "IntraPicture$Picture" "rows" "LIntraPicture$Rows;"), (Jvm.Cond.laysFinal "IntraPicture$Picture" "IntraPicture$Picture" "leaf" "LIntraPicture$Leaf;"), (Jvm.Cond.laysFinal "IntraPicture$Picture" "IntraPicture$Picture" "levelReader" "LIntraPicture$LevelReader;"), (Jvm.Cond.laysFinal "IntraPicture$Picture" "IntraPicture$Picture" "residuals" "LIntraPicture$Residuals;"), (Jvm.Cond.laysFinal "IntraPicture$Picture" "IntraPicture$Picture" "predictor" "LIntraPicture$Predictor;"), (Jvm.Cond.laysFinal "IntraPicture$Picture" "IntraPicture$Picture" "finish" "LIntraPicture$Finish;"), (Jvm.Cond.lays "IntraPicture$Picture" "IntraPicture$Picture" "leaves" "I")], w ∈ c1 :: ipW
  simp only [List.forall_mem_cons, List.not_mem_nil, false_imp_iff, implies_true, and_true]
  exact ⟨List.mem_cons_of_mem _ kw2_38, List.mem_cons_of_mem _ kw2_40, List.mem_cons_of_mem _ kw2_42, List.mem_cons_of_mem _ kw2_44, List.mem_cons_of_mem _ kw2_46, List.mem_cons_of_mem _ kw2_48, List.mem_cons_of_mem _ kw2_50, List.mem_cons_of_mem _ kw2_52, List.mem_cons_of_mem _ kw2_54⟩
theorem kin_LR {c1 : Cond} : ∀ w ∈ u_ws kR_LR kT_LR 6, w ∈ c1 :: ipW := by
  show ∀ w ∈ [(Jvm.Cond.laysFinal "IntraPicture$LevelReader" "IntraPicture$LevelReader" "bins" "LIntraPicture$BinDecoder;"), (Jvm.Cond.laysFinal "IntraPicture$LevelReader" "IntraPicture$LevelReader" "levels" "[I"), (Jvm.Cond.laysFinal "IntraPicture$LevelReader" "IntraPicture$LevelReader" "group" "[I"), (Jvm.Cond.lays "IntraPicture$LevelReader" "IntraPicture$LevelReader" "first" "I"), (Jvm.Cond.lays "IntraPicture$LevelReader" "IntraPicture$LevelReader" "last" "I"), (Jvm.Cond.lays "IntraPicture$LevelReader" "IntraPicture$LevelReader" "sum" "I")], w ∈ c1 :: ipW
  simp only [List.forall_mem_cons, List.not_mem_nil, false_imp_iff, implies_true, and_true]
  exact ⟨List.mem_cons_of_mem _ kw1_203, List.mem_cons_of_mem _ kw1_205, List.mem_cons_of_mem _ kw1_207, List.mem_cons_of_mem _ kw1_209, List.mem_cons_of_mem _ kw1_211, List.mem_cons_of_mem _ kw1_213⟩
theorem kin_RS {c1 : Cond} : ∀ w ∈ u_ws kR_RS kT_RS 4, w ∈ c1 :: ipW := by
  show ∀ w ∈ [(Jvm.Cond.laysFinal "IntraPicture$Residuals" "IntraPicture$Residuals" "levels" "[I"), (Jvm.Cond.laysFinal "IntraPicture$Residuals" "IntraPicture$Residuals" "coefficients" "[I"), (Jvm.Cond.laysFinal "IntraPicture$Residuals" "IntraPicture$Residuals" "between" "[I"), (Jvm.Cond.laysFinal "IntraPicture$Residuals" "IntraPicture$Residuals" "result" "[I")], w ∈ c1 :: ipW
  simp only [List.forall_mem_cons, List.not_mem_nil, false_imp_iff, implies_true, and_true]
  exact ⟨List.mem_cons_of_mem _ kw1_227, List.mem_cons_of_mem _ kw1_229, List.mem_cons_of_mem _ kw1_231, List.mem_cons_of_mem _ kw1_233⟩
theorem kin_PR {c1 : Cond} : ∀ w ∈ u_ws kR_PR kT_PR 4, w ∈ c1 :: ipW := by
  show ∀ w ∈ [(Jvm.Cond.laysFinal "IntraPicture$Predictor" "IntraPicture$Predictor" "rows" "LIntraPicture$Rows;"), (Jvm.Cond.laysFinal "IntraPicture$Predictor" "IntraPicture$Predictor" "references" "[I"), (Jvm.Cond.laysFinal "IntraPicture$Predictor" "IntraPicture$Predictor" "unsmoothed" "[I"), (Jvm.Cond.lays "IntraPicture$Predictor" "IntraPicture$Predictor" "side" "I")], w ∈ c1 :: ipW
  simp only [List.forall_mem_cons, List.not_mem_nil, false_imp_iff, implies_true, and_true]
  exact ⟨List.mem_cons_of_mem _ kw2_6, List.mem_cons_of_mem _ kw2_8, List.mem_cons_of_mem _ kw2_10, List.mem_cons_of_mem _ kw2_12⟩
theorem kin_FI {c1 : Cond} : ∀ w ∈ u_ws kR_FI kT_FI 2, w ∈ c1 :: ipW := by
  show ∀ w ∈ [(Jvm.Cond.laysFinal "IntraPicture$Finish" "IntraPicture$Finish" "samples" "[I"), (Jvm.Cond.laysFinal "IntraPicture$Finish" "IntraPicture$Finish" "before" "[I")], w ∈ c1 :: ipW
  simp only [List.forall_mem_cons, List.not_mem_nil, false_imp_iff, implies_true, and_true]
  exact ⟨List.mem_cons_of_mem _ kw2_23, List.mem_cons_of_mem _ kw2_25⟩
theorem kin_MO {c1 : Cond} : ∀ w ∈ u_ws kR_MO kT_MO 32, w ∈ c1 :: ipW := by
  show ∀ w ∈ [(Jvm.Cond.laysFinal "IntraPictureModel" "IntraPictureModel" "fed" "[I"), (Jvm.Cond.lays "IntraPictureModel" "IntraPictureModel" "size" "I"), (Jvm.Cond.laysFinal "IntraPictureModel" "IntraPictureModel" "load" "[I"), (Jvm.Cond.lays "IntraPictureModel" "IntraPictureModel" "loaded" "I"), (Jvm.Cond.lays "IntraPictureModel" "IntraPictureModel" "at" "I"), (Jvm.Cond.lays "IntraPictureModel" "IntraPictureModel" "fault" "I"), (Jvm.Cond.laysFinal "IntraPictureModel" "IntraPictureModel" "given" "[I"), (Jvm.Cond.laysFinal "IntraPictureModel" "IntraPictureModel" "wanted" "[I"), (Jvm.Cond.lays "IntraPictureModel" "IntraPictureModel" "hasGiven" "Z"), (Jvm.Cond.lays "IntraPictureModel" "IntraPictureModel" "hasPicture" "Z"), (Jvm.Cond.lays "IntraPictureModel" "IntraPictureModel" "range" "I"), (Jvm.Cond.lays "IntraPictureModel" "IntraPictureModel" "value" "I"), (Jvm.Cond.laysFinal "IntraPictureModel" "IntraPictureModel" "chances" "[I"), (Jvm.Cond.laysFinal "IntraPictureModel" "IntraPictureModel" "counts" "[I"), (Jvm.Cond.lays "IntraPictureModel" "IntraPictureModel" "leaves" "I"), (Jvm.Cond.laysFinal "IntraPictureModel" "IntraPictureModel" "left" "[I"), (Jvm.Cond.laysFinal "IntraPictureModel" "IntraPictureModel" "top" "[I"), (Jvm.Cond.laysFinal "IntraPictureModel" "IntraPictureModel" "sides" "[I"), (Jvm.Cond.laysFinal "IntraPictureModel" "IntraPictureModel" "modes" "[I"), (Jvm.Cond.laysFinal "IntraPictureModel" "IntraPictureModel" "skips" "[Z"), (Jvm.Cond.laysFinal "IntraPictureModel" "IntraPictureModel" "owner" "[I"), (Jvm.Cond.laysFinal "IntraPictureModel" "IntraPictureModel" "levels" "[I"), (Jvm.Cond.laysFinal "IntraPictureModel" "IntraPictureModel" "group" "[I"), (Jvm.Cond.laysFinal "IntraPictureModel" "IntraPictureModel" "guess" "[I"), (Jvm.Cond.laysFinal "IntraPictureModel" "IntraPictureModel" "first" "[I"), (Jvm.Cond.laysFinal "IntraPictureModel" "IntraPictureModel" "last" "[I"), (Jvm.Cond.laysFinal "IntraPictureModel" "IntraPictureModel" "old" "[I"), (Jvm.Cond.laysFinal "IntraPictureModel" "IntraPictureModel" "row" "[I"), (Jvm.Cond.laysFinal "IntraPictureModel" "IntraPictureModel" "raw" "[I"), (Jvm.Cond.laysFinal "IntraPictureModel" "IntraPictureModel" "four" "[I"), (Jvm.Cond.laysFinal "IntraPictureModel" "IntraPictureModel" "wave" "[I"), (Jvm.Cond.laysFinal "IntraPictureModel" "IntraPictureModel" "scale" "[I")], w ∈ c1 :: ipW
  simp only [List.forall_mem_cons, List.not_mem_nil, false_imp_iff, implies_true, and_true]
  exact ⟨List.mem_cons_of_mem _ kw3_219, List.mem_cons_of_mem _ kw3_221, List.mem_cons_of_mem _ kw3_223, List.mem_cons_of_mem _ kw3_225, List.mem_cons_of_mem _ kw3_227, List.mem_cons_of_mem _ kw3_229, List.mem_cons_of_mem _ kw3_231, List.mem_cons_of_mem _ kw3_233, List.mem_cons_of_mem _ kw3_235, List.mem_cons_of_mem _ kw3_237, List.mem_cons_of_mem _ kw3_239, List.mem_cons_of_mem _ kw4_1, List.mem_cons_of_mem _ kw4_3, List.mem_cons_of_mem _ kw4_5, List.mem_cons_of_mem _ kw4_7, List.mem_cons_of_mem _ kw4_9, List.mem_cons_of_mem _ kw4_11, List.mem_cons_of_mem _ kw4_13, List.mem_cons_of_mem _ kw4_15, List.mem_cons_of_mem _ kw4_17, List.mem_cons_of_mem _ kw4_19, List.mem_cons_of_mem _ kw4_21, List.mem_cons_of_mem _ kw4_23, List.mem_cons_of_mem _ kw4_25, List.mem_cons_of_mem _ kw4_27, List.mem_cons_of_mem _ kw4_29, List.mem_cons_of_mem _ kw4_31, List.mem_cons_of_mem _ kw4_33, List.mem_cons_of_mem _ kw4_35, List.mem_cons_of_mem _ kw4_37, List.mem_cons_of_mem _ kw4_39, List.mem_cons_of_mem _ kw4_41⟩
