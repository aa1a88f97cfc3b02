section
-- ===== PART A: goes FIRST, ahead of the names: the tables' words, and 'selects' of the private methods out of them =====
/-- a private method of a class that the tables say can be made, by its rows of tables_1 -/
def lw_okq (q : MethodName × Nat) : Prop := (q.1.cls ≠ "java/lang/invoke/MethodHandle" ∧ q.1.cls ≠ "java/lang/invoke/VarHandle") ∧ Cond.instantiable q.1.cls q.2 ∈ tables_1 ∧ Cond.privateMethod q.1 ∈ tables_1 ∧ Cond.instanceMethod q.1 ∈ tables_1
theorem lw_p0 : lw_okq (⟨"SeriesDesk$Reader", "readRing", "()Z"⟩, 7) := ⟨⟨by decide +kernel, by decide +kernel⟩, List.mem_of_getElem? (i := 76) (by decide +kernel), List.mem_of_getElem? (i := 323) (by decide +kernel), List.mem_of_getElem? (i := 324) (by decide +kernel)⟩
theorem lw_p1 : lw_okq (⟨"SeriesDesk$Reader", "readSign", "(I)Z"⟩, 7) := ⟨⟨by decide +kernel, by decide +kernel⟩, List.mem_of_getElem? (i := 76) (by decide +kernel), List.mem_of_getElem? (i := 327) (by decide +kernel), List.mem_of_getElem? (i := 328) (by decide +kernel)⟩
theorem lw_p2 : lw_okq (⟨"SeriesDesk$Reader", "next", "()I"⟩, 7) := ⟨⟨by decide +kernel, by decide +kernel⟩, List.mem_of_getElem? (i := 76) (by decide +kernel), List.mem_of_getElem? (i := 331) (by decide +kernel), List.mem_of_getElem? (i := 332) (by decide +kernel)⟩
theorem lw_p3 : lw_okq (⟨"SeriesDesk$Reader", "readPrime", "()Z"⟩, 7) := ⟨⟨by decide +kernel, by decide +kernel⟩, List.mem_of_getElem? (i := 76) (by decide +kernel), List.mem_of_getElem? (i := 335) (by decide +kernel), List.mem_of_getElem? (i := 336) (by decide +kernel)⟩
theorem lw_p4 : lw_okq (⟨"SeriesDesk$Reader", "readNumber", "(II)Z"⟩, 7) := ⟨⟨by decide +kernel, by decide +kernel⟩, List.mem_of_getElem? (i := 76) (by decide +kernel), List.mem_of_getElem? (i := 339) (by decide +kernel), List.mem_of_getElem? (i := 340) (by decide +kernel)⟩
theorem lw_p5 : lw_okq (⟨"SeriesDesk$Reader", "digitAt", "(I)Z"⟩, 7) := ⟨⟨by decide +kernel, by decide +kernel⟩, List.mem_of_getElem? (i := 76) (by decide +kernel), List.mem_of_getElem? (i := 343) (by decide +kernel), List.mem_of_getElem? (i := 344) (by decide +kernel)⟩
theorem lw_p6 : lw_okq (⟨"SeriesDesk$Reader", "readSteps", "(I)Z"⟩, 7) := ⟨⟨by decide +kernel, by decide +kernel⟩, List.mem_of_getElem? (i := 76) (by decide +kernel), List.mem_of_getElem? (i := 347) (by decide +kernel), List.mem_of_getElem? (i := 348) (by decide +kernel)⟩
theorem lw_p7 : lw_okq (⟨"SeriesDesk$Reader", "readStep", "()Z"⟩, 7) := ⟨⟨by decide +kernel, by decide +kernel⟩, List.mem_of_getElem? (i := 76) (by decide +kernel), List.mem_of_getElem? (i := 355) (by decide +kernel), List.mem_of_getElem? (i := 356) (by decide +kernel)⟩
theorem lw_p8 : lw_okq (⟨"SeriesDesk$Reader", "readExpression", "(I)Z"⟩, 7) := ⟨⟨by decide +kernel, by decide +kernel⟩, List.mem_of_getElem? (i := 76) (by decide +kernel), List.mem_of_getElem? (i := 363) (by decide +kernel), List.mem_of_getElem? (i := 364) (by decide +kernel)⟩
theorem lw_p9 : lw_okq (⟨"SeriesDesk$Reader", "readTerm", "(I)Z"⟩, 7) := ⟨⟨by decide +kernel, by decide +kernel⟩, List.mem_of_getElem? (i := 76) (by decide +kernel), List.mem_of_getElem? (i := 367) (by decide +kernel), List.mem_of_getElem? (i := 368) (by decide +kernel)⟩
theorem lw_p10 : lw_okq (⟨"SeriesDesk$Reader", "readPower", "(I)Z"⟩, 7) := ⟨⟨by decide +kernel, by decide +kernel⟩, List.mem_of_getElem? (i := 76) (by decide +kernel), List.mem_of_getElem? (i := 371) (by decide +kernel), List.mem_of_getElem? (i := 372) (by decide +kernel)⟩
theorem lw_p11 : lw_okq (⟨"SeriesDesk$Reader", "readAtom", "(I)Z"⟩, 7) := ⟨⟨by decide +kernel, by decide +kernel⟩, List.mem_of_getElem? (i := 76) (by decide +kernel), List.mem_of_getElem? (i := 375) (by decide +kernel), List.mem_of_getElem? (i := 376) (by decide +kernel)⟩
theorem lw_p12 : lw_okq (⟨"SeriesDesk$Reader", "readBracket", "(I)Z"⟩, 7) := ⟨⟨by decide +kernel, by decide +kernel⟩, List.mem_of_getElem? (i := 76) (by decide +kernel), List.mem_of_getElem? (i := 379) (by decide +kernel), List.mem_of_getElem? (i := 380) (by decide +kernel)⟩
theorem lw_p13 : lw_okq (⟨"SeriesDesk$Reader", "readOpening", "(I)Z"⟩, 7) := ⟨⟨by decide +kernel, by decide +kernel⟩, List.mem_of_getElem? (i := 76) (by decide +kernel), List.mem_of_getElem? (i := 383) (by decide +kernel), List.mem_of_getElem? (i := 384) (by decide +kernel)⟩
theorem lw_p14 : lw_okq (⟨"SeriesDesk$Reader", "readFunction", "(II)Z"⟩, 7) := ⟨⟨by decide +kernel, by decide +kernel⟩, List.mem_of_getElem? (i := 76) (by decide +kernel), List.mem_of_getElem? (i := 391) (by decide +kernel), List.mem_of_getElem? (i := 392) (by decide +kernel)⟩
theorem lw_p15 : lw_okq (⟨"SeriesDesk$Reader", "readOfOne", "(II)Z"⟩, 7) := ⟨⟨by decide +kernel, by decide +kernel⟩, List.mem_of_getElem? (i := 76) (by decide +kernel), List.mem_of_getElem? (i := 395) (by decide +kernel), List.mem_of_getElem? (i := 396) (by decide +kernel)⟩
def lw_privs_1 : List (MethodName × Nat) := [(⟨"SeriesDesk$Reader", "readRing", "()Z"⟩, 7), (⟨"SeriesDesk$Reader", "readSign", "(I)Z"⟩, 7), (⟨"SeriesDesk$Reader", "next", "()I"⟩, 7), (⟨"SeriesDesk$Reader", "readPrime", "()Z"⟩, 7), (⟨"SeriesDesk$Reader", "readNumber", "(II)Z"⟩, 7), (⟨"SeriesDesk$Reader", "digitAt", "(I)Z"⟩, 7), (⟨"SeriesDesk$Reader", "readSteps", "(I)Z"⟩, 7), (⟨"SeriesDesk$Reader", "readStep", "()Z"⟩, 7), (⟨"SeriesDesk$Reader", "readExpression", "(I)Z"⟩, 7), (⟨"SeriesDesk$Reader", "readTerm", "(I)Z"⟩, 7), (⟨"SeriesDesk$Reader", "readPower", "(I)Z"⟩, 7), (⟨"SeriesDesk$Reader", "readAtom", "(I)Z"⟩, 7), (⟨"SeriesDesk$Reader", "readBracket", "(I)Z"⟩, 7), (⟨"SeriesDesk$Reader", "readOpening", "(I)Z"⟩, 7), (⟨"SeriesDesk$Reader", "readFunction", "(II)Z"⟩, 7), (⟨"SeriesDesk$Reader", "readOfOne", "(II)Z"⟩, 7)]
theorem lw_r1 : ∀ q ∈ lw_privs_1, lw_okq q := List.forall_mem_cons.mpr ⟨lw_p0, List.forall_mem_cons.mpr ⟨lw_p1, List.forall_mem_cons.mpr ⟨lw_p2, List.forall_mem_cons.mpr ⟨lw_p3, List.forall_mem_cons.mpr ⟨lw_p4, List.forall_mem_cons.mpr ⟨lw_p5, List.forall_mem_cons.mpr ⟨lw_p6, List.forall_mem_cons.mpr ⟨lw_p7, List.forall_mem_cons.mpr ⟨lw_p8, List.forall_mem_cons.mpr ⟨lw_p9, List.forall_mem_cons.mpr ⟨lw_p10, List.forall_mem_cons.mpr ⟨lw_p11, List.forall_mem_cons.mpr ⟨lw_p12, List.forall_mem_cons.mpr ⟨lw_p13, List.forall_mem_cons.mpr ⟨lw_p14, List.forall_mem_cons.mpr ⟨lw_p15, fun _ h => absurd h List.not_mem_nil⟩⟩⟩⟩⟩⟩⟩⟩⟩⟩⟩⟩⟩⟩⟩⟩
theorem lw_p16 : lw_okq (⟨"SeriesDesk$Reader", "readRoot", "(I)Z"⟩, 7) := ⟨⟨by decide +kernel, by decide +kernel⟩, List.mem_of_getElem? (i := 76) (by decide +kernel), List.mem_of_getElem? (i := 399) (by decide +kernel), List.mem_of_getElem? (i := 400) (by decide +kernel)⟩
theorem lw_p17 : lw_okq (⟨"SeriesDesk$Reader", "readShortened", "(I)Z"⟩, 7) := ⟨⟨by decide +kernel, by decide +kernel⟩, List.mem_of_getElem? (i := 76) (by decide +kernel), List.mem_of_getElem? (i := 403) (by decide +kernel), List.mem_of_getElem? (i := 404) (by decide +kernel)⟩
theorem lw_p18 : lw_okq (⟨"SeriesDesk$Reader", "readMatched", "(I)Z"⟩, 7) := ⟨⟨by decide +kernel, by decide +kernel⟩, List.mem_of_getElem? (i := 76) (by decide +kernel), List.mem_of_getElem? (i := 407) (by decide +kernel), List.mem_of_getElem? (i := 408) (by decide +kernel)⟩
theorem lw_p19 : lw_okq (⟨"SeriesDesk", "takeRing", "()I"⟩, 18) := ⟨⟨by decide +kernel, by decide +kernel⟩, List.mem_of_getElem? (i := 25) (by decide +kernel), List.mem_of_getElem? (i := 419) (by decide +kernel), List.mem_of_getElem? (i := 420) (by decide +kernel)⟩
theorem lw_p20 : lw_okq (⟨"SeriesDesk", "takeScript", "()I"⟩, 18) := ⟨⟨by decide +kernel, by decide +kernel⟩, List.mem_of_getElem? (i := 25) (by decide +kernel), List.mem_of_getElem? (i := 438) (by decide +kernel), List.mem_of_getElem? (i := 439) (by decide +kernel)⟩
theorem lw_p21 : lw_okq (⟨"SeriesDesk", "tapeReason", "()I"⟩, 18) := ⟨⟨by decide +kernel, by decide +kernel⟩, List.mem_of_getElem? (i := 25) (by decide +kernel), List.mem_of_getElem? (i := 459) (by decide +kernel), List.mem_of_getElem? (i := 460) (by decide +kernel)⟩
theorem lw_p22 : lw_okq (⟨"SeriesDesk$Machine", "push", "(IILSeriesDesk$State;)I"⟩, 3) := ⟨⟨by decide +kernel, by decide +kernel⟩, List.mem_of_getElem? (i := 168) (by decide +kernel), List.mem_of_getElem? (i := 475) (by decide +kernel), List.mem_of_getElem? (i := 476) (by decide +kernel)⟩
theorem lw_p23 : lw_okq (⟨"SeriesDesk$Machine", "ofOne", "(II)I"⟩, 3) := ⟨⟨by decide +kernel, by decide +kernel⟩, List.mem_of_getElem? (i := 168) (by decide +kernel), List.mem_of_getElem? (i := 494) (by decide +kernel), List.mem_of_getElem? (i := 495) (by decide +kernel)⟩
theorem lw_p24 : lw_okq (⟨"SeriesDesk$Algebra", "isRoot", "(III)Z"⟩, 9) := ⟨⟨by decide +kernel, by decide +kernel⟩, List.mem_of_getElem? (i := 106) (by decide +kernel), List.mem_of_getElem? (i := 557) (by decide +kernel), List.mem_of_getElem? (i := 558) (by decide +kernel)⟩
theorem lw_p25 : lw_okq (⟨"SeriesDesk$Algebra", "scale", "(LSeriesDesk$Series;I)V"⟩, 9) := ⟨⟨by decide +kernel, by decide +kernel⟩, List.mem_of_getElem? (i := 106) (by decide +kernel), List.mem_of_getElem? (i := 573) (by decide +kernel), List.mem_of_getElem? (i := 574) (by decide +kernel)⟩
theorem lw_p26 : lw_okq (⟨"SeriesDesk$Algebra", "lift", "()V"⟩, 9) := ⟨⟨by decide +kernel, by decide +kernel⟩, List.mem_of_getElem? (i := 106) (by decide +kernel), List.mem_of_getElem? (i := 577) (by decide +kernel), List.mem_of_getElem? (i := 578) (by decide +kernel)⟩
theorem lw_p27 : lw_okq (⟨"SeriesDesk$Machine", "ofTwo", "(I)I"⟩, 3) := ⟨⟨by decide +kernel, by decide +kernel⟩, List.mem_of_getElem? (i := 168) (by decide +kernel), List.mem_of_getElem? (i := 583) (by decide +kernel), List.mem_of_getElem? (i := 584) (by decide +kernel)⟩
theorem lw_p28 : lw_okq (⟨"SeriesDesk$Algebra", "lastNotZero", "(LSeriesDesk$Series;)I"⟩, 9) := ⟨⟨by decide +kernel, by decide +kernel⟩, List.mem_of_getElem? (i := 106) (by decide +kernel), List.mem_of_getElem? (i := 601) (by decide +kernel), List.mem_of_getElem? (i := 602) (by decide +kernel)⟩
theorem lw_p29 : lw_okq (⟨"SeriesDesk", "refuse", "(I)I"⟩, 18) := ⟨⟨by decide +kernel, by decide +kernel⟩, List.mem_of_getElem? (i := 25) (by decide +kernel), List.mem_of_getElem? (i := 609) (by decide +kernel), List.mem_of_getElem? (i := 610) (by decide +kernel)⟩
theorem lw_p30 : lw_okq (⟨"SeriesDesk", "settle", "(I)I"⟩, 18) := ⟨⟨by decide +kernel, by decide +kernel⟩, List.mem_of_getElem? (i := 25) (by decide +kernel), List.mem_of_getElem? (i := 613) (by decide +kernel), List.mem_of_getElem? (i := 614) (by decide +kernel)⟩
theorem lw_p31 : lw_okq (⟨"SeriesDesk", "lengthOf", "(I)I"⟩, 18) := ⟨⟨by decide +kernel, by decide +kernel⟩, List.mem_of_getElem? (i := 25) (by decide +kernel), List.mem_of_getElem? (i := 656) (by decide +kernel), List.mem_of_getElem? (i := 657) (by decide +kernel)⟩
def lw_privs_2 : List (MethodName × Nat) := [(⟨"SeriesDesk$Reader", "readRoot", "(I)Z"⟩, 7), (⟨"SeriesDesk$Reader", "readShortened", "(I)Z"⟩, 7), (⟨"SeriesDesk$Reader", "readMatched", "(I)Z"⟩, 7), (⟨"SeriesDesk", "takeRing", "()I"⟩, 18), (⟨"SeriesDesk", "takeScript", "()I"⟩, 18), (⟨"SeriesDesk", "tapeReason", "()I"⟩, 18), (⟨"SeriesDesk$Machine", "push", "(IILSeriesDesk$State;)I"⟩, 3), (⟨"SeriesDesk$Machine", "ofOne", "(II)I"⟩, 3), (⟨"SeriesDesk$Algebra", "isRoot", "(III)Z"⟩, 9), (⟨"SeriesDesk$Algebra", "scale", "(LSeriesDesk$Series;I)V"⟩, 9), (⟨"SeriesDesk$Algebra", "lift", "()V"⟩, 9), (⟨"SeriesDesk$Machine", "ofTwo", "(I)I"⟩, 3), (⟨"SeriesDesk$Algebra", "lastNotZero", "(LSeriesDesk$Series;)I"⟩, 9), (⟨"SeriesDesk", "refuse", "(I)I"⟩, 18), (⟨"SeriesDesk", "settle", "(I)I"⟩, 18), (⟨"SeriesDesk", "lengthOf", "(I)I"⟩, 18)]
theorem lw_r2 : ∀ q ∈ lw_privs_2, lw_okq q := List.forall_mem_cons.mpr ⟨lw_p16, List.forall_mem_cons.mpr ⟨lw_p17, List.forall_mem_cons.mpr ⟨lw_p18, List.forall_mem_cons.mpr ⟨lw_p19, List.forall_mem_cons.mpr ⟨lw_p20, List.forall_mem_cons.mpr ⟨lw_p21, List.forall_mem_cons.mpr ⟨lw_p22, List.forall_mem_cons.mpr ⟨lw_p23, List.forall_mem_cons.mpr ⟨lw_p24, List.forall_mem_cons.mpr ⟨lw_p25, List.forall_mem_cons.mpr ⟨lw_p26, List.forall_mem_cons.mpr ⟨lw_p27, List.forall_mem_cons.mpr ⟨lw_p28, List.forall_mem_cons.mpr ⟨lw_p29, List.forall_mem_cons.mpr ⟨lw_p30, List.forall_mem_cons.mpr ⟨lw_p31, fun _ h => absurd h List.not_mem_nil⟩⟩⟩⟩⟩⟩⟩⟩⟩⟩⟩⟩⟩⟩⟩⟩
theorem lw_p32 : lw_okq (⟨"SeriesDesk", "scriptOf", "(I)LSeriesDesk$Code;"⟩, 18) := ⟨⟨by decide +kernel, by decide +kernel⟩, List.mem_of_getElem? (i := 25) (by decide +kernel), List.mem_of_getElem? (i := 688) (by decide +kernel), List.mem_of_getElem? (i := 689) (by decide +kernel)⟩
theorem lw_p33 : lw_okq (⟨"SeriesDesk", "rehearse", "(LSeriesDesk$Code;)I"⟩, 18) := ⟨⟨by decide +kernel, by decide +kernel⟩, List.mem_of_getElem? (i := 25) (by decide +kernel), List.mem_of_getElem? (i := 692) (by decide +kernel), List.mem_of_getElem? (i := 693) (by decide +kernel)⟩
theorem lw_p34 : lw_okq (⟨"SeriesDesk", "draftYear", "()V"⟩, 18) := ⟨⟨by decide +kernel, by decide +kernel⟩, List.mem_of_getElem? (i := 25) (by decide +kernel), List.mem_of_getElem? (i := 701) (by decide +kernel), List.mem_of_getElem? (i := 702) (by decide +kernel)⟩
theorem lw_p35 : lw_okq (⟨"SeriesDesk", "draw", "(I)I"⟩, 18) := ⟨⟨by decide +kernel, by decide +kernel⟩, List.mem_of_getElem? (i := 25) (by decide +kernel), List.mem_of_getElem? (i := 706) (by decide +kernel), List.mem_of_getElem? (i := 707) (by decide +kernel)⟩
theorem lw_p36 : lw_okq (⟨"SeriesDesk", "gather", "(IIII)Z"⟩, 18) := ⟨⟨by decide +kernel, by decide +kernel⟩, List.mem_of_getElem? (i := 25) (by decide +kernel), List.mem_of_getElem? (i := 774) (by decide +kernel), List.mem_of_getElem? (i := 775) (by decide +kernel)⟩
theorem lw_p37 : lw_okq (⟨"SeriesDesk", "gatherOne", "(II)Z"⟩, 18) := ⟨⟨by decide +kernel, by decide +kernel⟩, List.mem_of_getElem? (i := 25) (by decide +kernel), List.mem_of_getElem? (i := 778) (by decide +kernel), List.mem_of_getElem? (i := 779) (by decide +kernel)⟩
theorem lw_p38 : lw_okq (⟨"SeriesDesk$Recurrence", "missedAt", "(LSeriesDesk$Series;II)I"⟩, 3) := ⟨⟨by decide +kernel, by decide +kernel⟩, List.mem_of_getElem? (i := 186) (by decide +kernel), List.mem_of_getElem? (i := 808) (by decide +kernel), List.mem_of_getElem? (i := 809) (by decide +kernel)⟩
theorem lw_p39 : lw_okq (⟨"SeriesDesk$Algebra", "isOne", "(LSeriesDesk$Series;)Z"⟩, 9) := ⟨⟨by decide +kernel, by decide +kernel⟩, List.mem_of_getElem? (i := 106) (by decide +kernel), List.mem_of_getElem? (i := 826) (by decide +kernel), List.mem_of_getElem? (i := 827) (by decide +kernel)⟩
theorem lw_p40 : lw_okq (⟨"java/lang/Throwable", "fillInStackTrace", "(I)Ljava/lang/Throwable;"⟩, 6) := ⟨⟨by decide +kernel, by decide +kernel⟩, List.mem_of_getElem? (i := 933) (by decide +kernel), List.mem_of_getElem? (i := 931) (by decide +kernel), List.mem_of_getElem? (i := 932) (by decide +kernel)⟩
theorem lw_p41 : lw_okq (⟨"SeriesDeskModel", "brings", "(I)V"⟩, 31) := ⟨⟨by decide +kernel, by decide +kernel⟩, List.mem_of_getElem? (i := 963) (by decide +kernel), List.mem_of_getElem? (i := 1074) (by decide +kernel), List.mem_of_getElem? (i := 1075) (by decide +kernel)⟩
theorem lw_p42 : lw_okq (⟨"SeriesDeskModel", "readRing", "()V"⟩, 31) := ⟨⟨by decide +kernel, by decide +kernel⟩, List.mem_of_getElem? (i := 963) (by decide +kernel), List.mem_of_getElem? (i := 1090) (by decide +kernel), List.mem_of_getElem? (i := 1091) (by decide +kernel)⟩
theorem lw_p43 : lw_okq (⟨"SeriesDeskModel", "sign", "(I)V"⟩, 31) := ⟨⟨by decide +kernel, by decide +kernel⟩, List.mem_of_getElem? (i := 963) (by decide +kernel), List.mem_of_getElem? (i := 1094) (by decide +kernel), List.mem_of_getElem? (i := 1095) (by decide +kernel)⟩
theorem lw_p44 : lw_okq (⟨"SeriesDeskModel", "look", "()I"⟩, 31) := ⟨⟨by decide +kernel, by decide +kernel⟩, List.mem_of_getElem? (i := 963) (by decide +kernel), List.mem_of_getElem? (i := 1098) (by decide +kernel), List.mem_of_getElem? (i := 1099) (by decide +kernel)⟩
theorem lw_p45 : lw_okq (⟨"SeriesDeskModel", "here", "()I"⟩, 31) := ⟨⟨by decide +kernel, by decide +kernel⟩, List.mem_of_getElem? (i := 963) (by decide +kernel), List.mem_of_getElem? (i := 1102) (by decide +kernel), List.mem_of_getElem? (i := 1103) (by decide +kernel)⟩
theorem lw_p46 : lw_okq (⟨"SeriesDeskModel", "fails", "()V"⟩, 31) := ⟨⟨by decide +kernel, by decide +kernel⟩, List.mem_of_getElem? (i := 963) (by decide +kernel), List.mem_of_getElem? (i := 1106) (by decide +kernel), List.mem_of_getElem? (i := 1107) (by decide +kernel)⟩
theorem lw_p47 : lw_okq (⟨"SeriesDeskModel", "number", "(IIZ)I"⟩, 31) := ⟨⟨by decide +kernel, by decide +kernel⟩, List.mem_of_getElem? (i := 963) (by decide +kernel), List.mem_of_getElem? (i := 1165) (by decide +kernel), List.mem_of_getElem? (i := 1166) (by decide +kernel)⟩
def lw_privs_3 : List (MethodName × Nat) := [(⟨"SeriesDesk", "scriptOf", "(I)LSeriesDesk$Code;"⟩, 18), (⟨"SeriesDesk", "rehearse", "(LSeriesDesk$Code;)I"⟩, 18), (⟨"SeriesDesk", "draftYear", "()V"⟩, 18), (⟨"SeriesDesk", "draw", "(I)I"⟩, 18), (⟨"SeriesDesk", "gather", "(IIII)Z"⟩, 18), (⟨"SeriesDesk", "gatherOne", "(II)Z"⟩, 18), (⟨"SeriesDesk$Recurrence", "missedAt", "(LSeriesDesk$Series;II)I"⟩, 3), (⟨"SeriesDesk$Algebra", "isOne", "(LSeriesDesk$Series;)Z"⟩, 9), (⟨"java/lang/Throwable", "fillInStackTrace", "(I)Ljava/lang/Throwable;"⟩, 6), (⟨"SeriesDeskModel", "brings", "(I)V"⟩, 31), (⟨"SeriesDeskModel", "readRing", "()V"⟩, 31), (⟨"SeriesDeskModel", "sign", "(I)V"⟩, 31), (⟨"SeriesDeskModel", "look", "()I"⟩, 31), (⟨"SeriesDeskModel", "here", "()I"⟩, 31), (⟨"SeriesDeskModel", "fails", "()V"⟩, 31), (⟨"SeriesDeskModel", "number", "(IIZ)I"⟩, 31)]
theorem lw_r3 : ∀ q ∈ lw_privs_3, lw_okq q := List.forall_mem_cons.mpr ⟨lw_p32, List.forall_mem_cons.mpr ⟨lw_p33, List.forall_mem_cons.mpr ⟨lw_p34, List.forall_mem_cons.mpr ⟨lw_p35, List.forall_mem_cons.mpr ⟨lw_p36, List.forall_mem_cons.mpr ⟨lw_p37, List.forall_mem_cons.mpr ⟨lw_p38, List.forall_mem_cons.mpr ⟨lw_p39, List.forall_mem_cons.mpr ⟨lw_p40, List.forall_mem_cons.mpr ⟨lw_p41, List.forall_mem_cons.mpr ⟨lw_p42, List.forall_mem_cons.mpr ⟨lw_p43, List.forall_mem_cons.mpr ⟨lw_p44, List.forall_mem_cons.mpr ⟨lw_p45, List.forall_mem_cons.mpr ⟨lw_p46, List.forall_mem_cons.mpr ⟨lw_p47, fun _ h => absurd h List.not_mem_nil⟩⟩⟩⟩⟩⟩⟩⟩⟩⟩⟩⟩⟩⟩⟩⟩
theorem lw_p48 : lw_okq (⟨"SeriesDeskModel", "isDigit", "()Z"⟩, 31) := ⟨⟨by decide +kernel, by decide +kernel⟩, List.mem_of_getElem? (i := 963) (by decide +kernel), List.mem_of_getElem? (i := 1169) (by decide +kernel), List.mem_of_getElem? (i := 1170) (by decide +kernel)⟩
theorem lw_p49 : lw_okq (⟨"SeriesDeskModel", "readScript", "()V"⟩, 31) := ⟨⟨by decide +kernel, by decide +kernel⟩, List.mem_of_getElem? (i := 963) (by decide +kernel), List.mem_of_getElem? (i := 1176) (by decide +kernel), List.mem_of_getElem? (i := 1177) (by decide +kernel)⟩
theorem lw_p50 : lw_okq (⟨"SeriesDeskModel", "readStep", "(I)V"⟩, 31) := ⟨⟨by decide +kernel, by decide +kernel⟩, List.mem_of_getElem? (i := 963) (by decide +kernel), List.mem_of_getElem? (i := 1180) (by decide +kernel), List.mem_of_getElem? (i := 1181) (by decide +kernel)⟩
theorem lw_p51 : lw_okq (⟨"SeriesDeskModel", "expression", "()V"⟩, 31) := ⟨⟨by decide +kernel, by decide +kernel⟩, List.mem_of_getElem? (i := 963) (by decide +kernel), List.mem_of_getElem? (i := 1185) (by decide +kernel), List.mem_of_getElem? (i := 1186) (by decide +kernel)⟩
theorem lw_p52 : lw_okq (⟨"SeriesDeskModel", "term", "()V"⟩, 31) := ⟨⟨by decide +kernel, by decide +kernel⟩, List.mem_of_getElem? (i := 963) (by decide +kernel), List.mem_of_getElem? (i := 1189) (by decide +kernel), List.mem_of_getElem? (i := 1190) (by decide +kernel)⟩
theorem lw_p53 : lw_okq (⟨"SeriesDeskModel", "power", "()V"⟩, 31) := ⟨⟨by decide +kernel, by decide +kernel⟩, List.mem_of_getElem? (i := 963) (by decide +kernel), List.mem_of_getElem? (i := 1193) (by decide +kernel), List.mem_of_getElem? (i := 1194) (by decide +kernel)⟩
theorem lw_p54 : lw_okq (⟨"SeriesDeskModel", "atom", "()V"⟩, 31) := ⟨⟨by decide +kernel, by decide +kernel⟩, List.mem_of_getElem? (i := 963) (by decide +kernel), List.mem_of_getElem? (i := 1197) (by decide +kernel), List.mem_of_getElem? (i := 1198) (by decide +kernel)⟩
theorem lw_p55 : lw_okq (⟨"SeriesDeskModel", "opens", "()V"⟩, 31) := ⟨⟨by decide +kernel, by decide +kernel⟩, List.mem_of_getElem? (i := 963) (by decide +kernel), List.mem_of_getElem? (i := 1201) (by decide +kernel), List.mem_of_getElem? (i := 1202) (by decide +kernel)⟩
theorem lw_p56 : lw_okq (⟨"SeriesDeskModel", "shuts", "()V"⟩, 31) := ⟨⟨by decide +kernel, by decide +kernel⟩, List.mem_of_getElem? (i := 963) (by decide +kernel), List.mem_of_getElem? (i := 1205) (by decide +kernel), List.mem_of_getElem? (i := 1206) (by decide +kernel)⟩
theorem lw_p57 : lw_okq (⟨"SeriesDeskModel", "says", "(II)V"⟩, 31) := ⟨⟨by decide +kernel, by decide +kernel⟩, List.mem_of_getElem? (i := 963) (by decide +kernel), List.mem_of_getElem? (i := 1210) (by decide +kernel), List.mem_of_getElem? (i := 1211) (by decide +kernel)⟩
theorem lw_p58 : lw_okq (⟨"SeriesDeskModel", "made", "(I)V"⟩, 31) := ⟨⟨by decide +kernel, by decide +kernel⟩, List.mem_of_getElem? (i := 963) (by decide +kernel), List.mem_of_getElem? (i := 1214) (by decide +kernel), List.mem_of_getElem? (i := 1215) (by decide +kernel)⟩
theorem lw_p59 : lw_okq (⟨"SeriesDeskModel", "placed", "()V"⟩, 31) := ⟨⟨by decide +kernel, by decide +kernel⟩, List.mem_of_getElem? (i := 963) (by decide +kernel), List.mem_of_getElem? (i := 1219) (by decide +kernel), List.mem_of_getElem? (i := 1220) (by decide +kernel)⟩
theorem lw_p60 : lw_okq (⟨"SeriesDeskModel", "readOne", "()V"⟩, 31) := ⟨⟨by decide +kernel, by decide +kernel⟩, List.mem_of_getElem? (i := 963) (by decide +kernel), List.mem_of_getElem? (i := 1223) (by decide +kernel), List.mem_of_getElem? (i := 1224) (by decide +kernel)⟩
theorem lw_p61 : lw_okq (⟨"SeriesDeskModel", "copyStep", "(II)V"⟩, 31) := ⟨⟨by decide +kernel, by decide +kernel⟩, List.mem_of_getElem? (i := 963) (by decide +kernel), List.mem_of_getElem? (i := 1232) (by decide +kernel), List.mem_of_getElem? (i := 1233) (by decide +kernel)⟩
theorem lw_p62 : lw_okq (⟨"SeriesDeskModel", "reason", "()I"⟩, 31) := ⟨⟨by decide +kernel, by decide +kernel⟩, List.mem_of_getElem? (i := 963) (by decide +kernel), List.mem_of_getElem? (i := 1240) (by decide +kernel), List.mem_of_getElem? (i := 1241) (by decide +kernel)⟩
theorem lw_p63 : lw_okq (⟨"SeriesDeskModel", "works", "([II)I"⟩, 31) := ⟨⟨by decide +kernel, by decide +kernel⟩, List.mem_of_getElem? (i := 963) (by decide +kernel), List.mem_of_getElem? (i := 1244) (by decide +kernel), List.mem_of_getElem? (i := 1245) (by decide +kernel)⟩
def lw_privs_4 : List (MethodName × Nat) := [(⟨"SeriesDeskModel", "isDigit", "()Z"⟩, 31), (⟨"SeriesDeskModel", "readScript", "()V"⟩, 31), (⟨"SeriesDeskModel", "readStep", "(I)V"⟩, 31), (⟨"SeriesDeskModel", "expression", "()V"⟩, 31), (⟨"SeriesDeskModel", "term", "()V"⟩, 31), (⟨"SeriesDeskModel", "power", "()V"⟩, 31), (⟨"SeriesDeskModel", "atom", "()V"⟩, 31), (⟨"SeriesDeskModel", "opens", "()V"⟩, 31), (⟨"SeriesDeskModel", "shuts", "()V"⟩, 31), (⟨"SeriesDeskModel", "says", "(II)V"⟩, 31), (⟨"SeriesDeskModel", "made", "(I)V"⟩, 31), (⟨"SeriesDeskModel", "placed", "()V"⟩, 31), (⟨"SeriesDeskModel", "readOne", "()V"⟩, 31), (⟨"SeriesDeskModel", "copyStep", "(II)V"⟩, 31), (⟨"SeriesDeskModel", "reason", "()I"⟩, 31), (⟨"SeriesDeskModel", "works", "([II)I"⟩, 31)]
theorem lw_r4 : ∀ q ∈ lw_privs_4, lw_okq q := List.forall_mem_cons.mpr ⟨lw_p48, List.forall_mem_cons.mpr ⟨lw_p49, List.forall_mem_cons.mpr ⟨lw_p50, List.forall_mem_cons.mpr ⟨lw_p51, List.forall_mem_cons.mpr ⟨lw_p52, List.forall_mem_cons.mpr ⟨lw_p53, List.forall_mem_cons.mpr ⟨lw_p54, List.forall_mem_cons.mpr ⟨lw_p55, List.forall_mem_cons.mpr ⟨lw_p56, List.forall_mem_cons.mpr ⟨lw_p57, List.forall_mem_cons.mpr ⟨lw_p58, List.forall_mem_cons.mpr ⟨lw_p59, List.forall_mem_cons.mpr ⟨lw_p60, List.forall_mem_cons.mpr ⟨lw_p61, List.forall_mem_cons.mpr ⟨lw_p62, List.forall_mem_cons.mpr ⟨lw_p63, fun _ h => absurd h List.not_mem_nil⟩⟩⟩⟩⟩⟩⟩⟩⟩⟩⟩⟩⟩⟩⟩⟩
theorem lw_p64 : lw_okq (⟨"SeriesDeskModel", "pushes", "([III)I"⟩, 31) := ⟨⟨by decide +kernel, by decide +kernel⟩, List.mem_of_getElem? (i := 963) (by decide +kernel), List.mem_of_getElem? (i := 1250) (by decide +kernel), List.mem_of_getElem? (i := 1251) (by decide +kernel)⟩
theorem lw_p65 : lw_okq (⟨"SeriesDeskModel", "by", "(J)I"⟩, 31) := ⟨⟨by decide +kernel, by decide +kernel⟩, List.mem_of_getElem? (i := 963) (by decide +kernel), List.mem_of_getElem? (i := 1254) (by decide +kernel), List.mem_of_getElem? (i := 1255) (by decide +kernel)⟩
theorem lw_p66 : lw_okq (⟨"SeriesDeskModel", "numbers", "(II)V"⟩, 31) := ⟨⟨by decide +kernel, by decide +kernel⟩, List.mem_of_getElem? (i := 963) (by decide +kernel), List.mem_of_getElem? (i := 1258) (by decide +kernel), List.mem_of_getElem? (i := 1259) (by decide +kernel)⟩
theorem lw_p67 : lw_okq (⟨"SeriesDeskModel", "longs", "(II)V"⟩, 31) := ⟨⟨by decide +kernel, by decide +kernel⟩, List.mem_of_getElem? (i := 963) (by decide +kernel), List.mem_of_getElem? (i := 1262) (by decide +kernel), List.mem_of_getElem? (i := 1263) (by decide +kernel)⟩
theorem lw_p68 : lw_okq (⟨"SeriesDeskModel", "sets", "(III)V"⟩, 31) := ⟨⟨by decide +kernel, by decide +kernel⟩, List.mem_of_getElem? (i := 963) (by decide +kernel), List.mem_of_getElem? (i := 1266) (by decide +kernel), List.mem_of_getElem? (i := 1267) (by decide +kernel)⟩
theorem lw_p69 : lw_okq (⟨"SeriesDeskModel", "pairs", "(II)I"⟩, 31) := ⟨⟨by decide +kernel, by decide +kernel⟩, List.mem_of_getElem? (i := 963) (by decide +kernel), List.mem_of_getElem? (i := 1270) (by decide +kernel), List.mem_of_getElem? (i := 1271) (by decide +kernel)⟩
theorem lw_p70 : lw_okq (⟨"SeriesDeskModel", "multiplies", "(III)V"⟩, 31) := ⟨⟨by decide +kernel, by decide +kernel⟩, List.mem_of_getElem? (i := 963) (by decide +kernel), List.mem_of_getElem? (i := 1274) (by decide +kernel), List.mem_of_getElem? (i := 1275) (by decide +kernel)⟩
theorem lw_p71 : lw_okq (⟨"SeriesDeskModel", "orderOf", "(I)I"⟩, 31) := ⟨⟨by decide +kernel, by decide +kernel⟩, List.mem_of_getElem? (i := 963) (by decide +kernel), List.mem_of_getElem? (i := 1278) (by decide +kernel), List.mem_of_getElem? (i := 1279) (by decide +kernel)⟩
theorem lw_p72 : lw_okq (⟨"SeriesDeskModel", "long0", "(I)I"⟩, 31) := ⟨⟨by decide +kernel, by decide +kernel⟩, List.mem_of_getElem? (i := 963) (by decide +kernel), List.mem_of_getElem? (i := 1282) (by decide +kernel), List.mem_of_getElem? (i := 1283) (by decide +kernel)⟩
theorem lw_p73 : lw_okq (⟨"SeriesDeskModel", "c", "(II)I"⟩, 31) := ⟨⟨by decide +kernel, by decide +kernel⟩, List.mem_of_getElem? (i := 963) (by decide +kernel), List.mem_of_getElem? (i := 1286) (by decide +kernel), List.mem_of_getElem? (i := 1287) (by decide +kernel)⟩
theorem lw_p74 : lw_okq (⟨"SeriesDeskModel", "placeOf", "(III)J"⟩, 31) := ⟨⟨by decide +kernel, by decide +kernel⟩, List.mem_of_getElem? (i := 963) (by decide +kernel), List.mem_of_getElem? (i := 1293) (by decide +kernel), List.mem_of_getElem? (i := 1294) (by decide +kernel)⟩
theorem lw_p75 : lw_okq (⟨"SeriesDeskModel", "copies", "(II)V"⟩, 31) := ⟨⟨by decide +kernel, by decide +kernel⟩, List.mem_of_getElem? (i := 963) (by decide +kernel), List.mem_of_getElem? (i := 1297) (by decide +kernel), List.mem_of_getElem? (i := 1298) (by decide +kernel)⟩
theorem lw_p76 : lw_okq (⟨"SeriesDeskModel", "divides", "(I)I"⟩, 31) := ⟨⟨by decide +kernel, by decide +kernel⟩, List.mem_of_getElem? (i := 963) (by decide +kernel), List.mem_of_getElem? (i := 1301) (by decide +kernel), List.mem_of_getElem? (i := 1302) (by decide +kernel)⟩
theorem lw_p77 : lw_okq (⟨"SeriesDeskModel", "shifts", "(II)V"⟩, 31) := ⟨⟨by decide +kernel, by decide +kernel⟩, List.mem_of_getElem? (i := 963) (by decide +kernel), List.mem_of_getElem? (i := 1305) (by decide +kernel), List.mem_of_getElem? (i := 1306) (by decide +kernel)⟩
theorem lw_p78 : lw_okq (⟨"SeriesDeskModel", "inverts", "(II)V"⟩, 31) := ⟨⟨by decide +kernel, by decide +kernel⟩, List.mem_of_getElem? (i := 963) (by decide +kernel), List.mem_of_getElem? (i := 1309) (by decide +kernel), List.mem_of_getElem? (i := 1310) (by decide +kernel)⟩
theorem lw_p79 : lw_okq (⟨"SeriesDeskModel", "inverse", "(I)I"⟩, 31) := ⟨⟨by decide +kernel, by decide +kernel⟩, List.mem_of_getElem? (i := 963) (by decide +kernel), List.mem_of_getElem? (i := 1313) (by decide +kernel), List.mem_of_getElem? (i := 1314) (by decide +kernel)⟩
def lw_privs_5 : List (MethodName × Nat) := [(⟨"SeriesDeskModel", "pushes", "([III)I"⟩, 31), (⟨"SeriesDeskModel", "by", "(J)I"⟩, 31), (⟨"SeriesDeskModel", "numbers", "(II)V"⟩, 31), (⟨"SeriesDeskModel", "longs", "(II)V"⟩, 31), (⟨"SeriesDeskModel", "sets", "(III)V"⟩, 31), (⟨"SeriesDeskModel", "pairs", "(II)I"⟩, 31), (⟨"SeriesDeskModel", "multiplies", "(III)V"⟩, 31), (⟨"SeriesDeskModel", "orderOf", "(I)I"⟩, 31), (⟨"SeriesDeskModel", "long0", "(I)I"⟩, 31), (⟨"SeriesDeskModel", "c", "(II)I"⟩, 31), (⟨"SeriesDeskModel", "placeOf", "(III)J"⟩, 31), (⟨"SeriesDeskModel", "copies", "(II)V"⟩, 31), (⟨"SeriesDeskModel", "divides", "(I)I"⟩, 31), (⟨"SeriesDeskModel", "shifts", "(II)V"⟩, 31), (⟨"SeriesDeskModel", "inverts", "(II)V"⟩, 31), (⟨"SeriesDeskModel", "inverse", "(I)I"⟩, 31)]
theorem lw_r5 : ∀ q ∈ lw_privs_5, lw_okq q := List.forall_mem_cons.mpr ⟨lw_p64, List.forall_mem_cons.mpr ⟨lw_p65, List.forall_mem_cons.mpr ⟨lw_p66, List.forall_mem_cons.mpr ⟨lw_p67, List.forall_mem_cons.mpr ⟨lw_p68, List.forall_mem_cons.mpr ⟨lw_p69, List.forall_mem_cons.mpr ⟨lw_p70, List.forall_mem_cons.mpr ⟨lw_p71, List.forall_mem_cons.mpr ⟨lw_p72, List.forall_mem_cons.mpr ⟨lw_p73, List.forall_mem_cons.mpr ⟨lw_p74, List.forall_mem_cons.mpr ⟨lw_p75, List.forall_mem_cons.mpr ⟨lw_p76, List.forall_mem_cons.mpr ⟨lw_p77, List.forall_mem_cons.mpr ⟨lw_p78, List.forall_mem_cons.mpr ⟨lw_p79, fun _ h => absurd h List.not_mem_nil⟩⟩⟩⟩⟩⟩⟩⟩⟩⟩⟩⟩⟩⟩⟩⟩
theorem lw_p80 : lw_okq (⟨"SeriesDeskModel", "composes", "(I)I"⟩, 31) := ⟨⟨by decide +kernel, by decide +kernel⟩, List.mem_of_getElem? (i := 963) (by decide +kernel), List.mem_of_getElem? (i := 1317) (by decide +kernel), List.mem_of_getElem? (i := 1318) (by decide +kernel)⟩
theorem lw_p81 : lw_okq (⟨"SeriesDeskModel", "blanks", "(II)V"⟩, 31) := ⟨⟨by decide +kernel, by decide +kernel⟩, List.mem_of_getElem? (i := 963) (by decide +kernel), List.mem_of_getElem? (i := 1321) (by decide +kernel), List.mem_of_getElem? (i := 1322) (by decide +kernel)⟩
theorem lw_p82 : lw_okq (⟨"SeriesDeskModel", "joins", "(II)I"⟩, 31) := ⟨⟨by decide +kernel, by decide +kernel⟩, List.mem_of_getElem? (i := 963) (by decide +kernel), List.mem_of_getElem? (i := 1325) (by decide +kernel), List.mem_of_getElem? (i := 1326) (by decide +kernel)⟩
theorem lw_p83 : lw_okq (⟨"SeriesDeskModel", "alone", "(III)I"⟩, 31) := ⟨⟨by decide +kernel, by decide +kernel⟩, List.mem_of_getElem? (i := 963) (by decide +kernel), List.mem_of_getElem? (i := 1329) (by decide +kernel), List.mem_of_getElem? (i := 1330) (by decide +kernel)⟩
theorem lw_p84 : lw_okq (⟨"SeriesDeskModel", "powers", "(II)I"⟩, 31) := ⟨⟨by decide +kernel, by decide +kernel⟩, List.mem_of_getElem? (i := 963) (by decide +kernel), List.mem_of_getElem? (i := 1333) (by decide +kernel), List.mem_of_getElem? (i := 1334) (by decide +kernel)⟩
theorem lw_p85 : lw_okq (⟨"SeriesDeskModel", "derives", "(I)I"⟩, 31) := ⟨⟨by decide +kernel, by decide +kernel⟩, List.mem_of_getElem? (i := 963) (by decide +kernel), List.mem_of_getElem? (i := 1337) (by decide +kernel), List.mem_of_getElem? (i := 1338) (by decide +kernel)⟩
theorem lw_p86 : lw_okq (⟨"SeriesDeskModel", "integrates", "(I)I"⟩, 31) := ⟨⟨by decide +kernel, by decide +kernel⟩, List.mem_of_getElem? (i := 963) (by decide +kernel), List.mem_of_getElem? (i := 1341) (by decide +kernel), List.mem_of_getElem? (i := 1342) (by decide +kernel)⟩
theorem lw_p87 : lw_okq (⟨"SeriesDeskModel", "logarithm", "(I)I"⟩, 31) := ⟨⟨by decide +kernel, by decide +kernel⟩, List.mem_of_getElem? (i := 963) (by decide +kernel), List.mem_of_getElem? (i := 1345) (by decide +kernel), List.mem_of_getElem? (i := 1346) (by decide +kernel)⟩
theorem lw_p88 : lw_okq (⟨"SeriesDeskModel", "exponential", "(I)I"⟩, 31) := ⟨⟨by decide +kernel, by decide +kernel⟩, List.mem_of_getElem? (i := 963) (by decide +kernel), List.mem_of_getElem? (i := 1349) (by decide +kernel), List.mem_of_getElem? (i := 1350) (by decide +kernel)⟩
theorem lw_p89 : lw_okq (⟨"SeriesDeskModel", "reverses", "(I)I"⟩, 31) := ⟨⟨by decide +kernel, by decide +kernel⟩, List.mem_of_getElem? (i := 963) (by decide +kernel), List.mem_of_getElem? (i := 1353) (by decide +kernel), List.mem_of_getElem? (i := 1354) (by decide +kernel)⟩
theorem lw_p90 : lw_okq (⟨"SeriesDeskModel", "within", "(III)I"⟩, 31) := ⟨⟨by decide +kernel, by decide +kernel⟩, List.mem_of_getElem? (i := 963) (by decide +kernel), List.mem_of_getElem? (i := 1357) (by decide +kernel), List.mem_of_getElem? (i := 1358) (by decide +kernel)⟩
theorem lw_p91 : lw_okq (⟨"SeriesDeskModel", "cuts", "(IIII)V"⟩, 31) := ⟨⟨by decide +kernel, by decide +kernel⟩, List.mem_of_getElem? (i := 963) (by decide +kernel), List.mem_of_getElem? (i := 1361) (by decide +kernel), List.mem_of_getElem? (i := 1362) (by decide +kernel)⟩
theorem lw_p92 : lw_okq (⟨"SeriesDeskModel", "roots", "(II)I"⟩, 31) := ⟨⟨by decide +kernel, by decide +kernel⟩, List.mem_of_getElem? (i := 963) (by decide +kernel), List.mem_of_getElem? (i := 1365) (by decide +kernel), List.mem_of_getElem? (i := 1366) (by decide +kernel)⟩
theorem lw_p93 : lw_okq (⟨"SeriesDeskModel", "raised", "(II)I"⟩, 31) := ⟨⟨by decide +kernel, by decide +kernel⟩, List.mem_of_getElem? (i := 963) (by decide +kernel), List.mem_of_getElem? (i := 1369) (by decide +kernel), List.mem_of_getElem? (i := 1370) (by decide +kernel)⟩
theorem lw_p94 : lw_okq (⟨"SeriesDeskModel", "raises", "(IIII)V"⟩, 31) := ⟨⟨by decide +kernel, by decide +kernel⟩, List.mem_of_getElem? (i := 963) (by decide +kernel), List.mem_of_getElem? (i := 1373) (by decide +kernel), List.mem_of_getElem? (i := 1374) (by decide +kernel)⟩
theorem lw_p95 : lw_okq (⟨"SeriesDeskModel", "refuses", "(I)I"⟩, 31) := ⟨⟨by decide +kernel, by decide +kernel⟩, List.mem_of_getElem? (i := 963) (by decide +kernel), List.mem_of_getElem? (i := 1377) (by decide +kernel), List.mem_of_getElem? (i := 1378) (by decide +kernel)⟩
def lw_privs_6 : List (MethodName × Nat) := [(⟨"SeriesDeskModel", "composes", "(I)I"⟩, 31), (⟨"SeriesDeskModel", "blanks", "(II)V"⟩, 31), (⟨"SeriesDeskModel", "joins", "(II)I"⟩, 31), (⟨"SeriesDeskModel", "alone", "(III)I"⟩, 31), (⟨"SeriesDeskModel", "powers", "(II)I"⟩, 31), (⟨"SeriesDeskModel", "derives", "(I)I"⟩, 31), (⟨"SeriesDeskModel", "integrates", "(I)I"⟩, 31), (⟨"SeriesDeskModel", "logarithm", "(I)I"⟩, 31), (⟨"SeriesDeskModel", "exponential", "(I)I"⟩, 31), (⟨"SeriesDeskModel", "reverses", "(I)I"⟩, 31), (⟨"SeriesDeskModel", "within", "(III)I"⟩, 31), (⟨"SeriesDeskModel", "cuts", "(IIII)V"⟩, 31), (⟨"SeriesDeskModel", "roots", "(II)I"⟩, 31), (⟨"SeriesDeskModel", "raised", "(II)I"⟩, 31), (⟨"SeriesDeskModel", "raises", "(IIII)V"⟩, 31), (⟨"SeriesDeskModel", "refuses", "(I)I"⟩, 31)]
theorem lw_r6 : ∀ q ∈ lw_privs_6, lw_okq q := List.forall_mem_cons.mpr ⟨lw_p80, List.forall_mem_cons.mpr ⟨lw_p81, List.forall_mem_cons.mpr ⟨lw_p82, List.forall_mem_cons.mpr ⟨lw_p83, List.forall_mem_cons.mpr ⟨lw_p84, List.forall_mem_cons.mpr ⟨lw_p85, List.forall_mem_cons.mpr ⟨lw_p86, List.forall_mem_cons.mpr ⟨lw_p87, List.forall_mem_cons.mpr ⟨lw_p88, List.forall_mem_cons.mpr ⟨lw_p89, List.forall_mem_cons.mpr ⟨lw_p90, List.forall_mem_cons.mpr ⟨lw_p91, List.forall_mem_cons.mpr ⟨lw_p92, List.forall_mem_cons.mpr ⟨lw_p93, List.forall_mem_cons.mpr ⟨lw_p94, List.forall_mem_cons.mpr ⟨lw_p95, fun _ h => absurd h List.not_mem_nil⟩⟩⟩⟩⟩⟩⟩⟩⟩⟩⟩⟩⟩⟩⟩⟩
theorem lw_p96 : lw_okq (⟨"SeriesDeskModel", "tries", "(I)I"⟩, 31) := ⟨⟨by decide +kernel, by decide +kernel⟩, List.mem_of_getElem? (i := 963) (by decide +kernel), List.mem_of_getElem? (i := 1381) (by decide +kernel), List.mem_of_getElem? (i := 1382) (by decide +kernel)⟩
theorem lw_p97 : lw_okq (⟨"SeriesDeskModel", "does", "([II)I"⟩, 31) := ⟨⟨by decide +kernel, by decide +kernel⟩, List.mem_of_getElem? (i := 963) (by decide +kernel), List.mem_of_getElem? (i := 1388) (by decide +kernel), List.mem_of_getElem? (i := 1389) (by decide +kernel)⟩
theorem lw_p98 : lw_okq (⟨"SeriesDeskModel", "notes", "([III)V"⟩, 31) := ⟨⟨by decide +kernel, by decide +kernel⟩, List.mem_of_getElem? (i := 963) (by decide +kernel), List.mem_of_getElem? (i := 1392) (by decide +kernel), List.mem_of_getElem? (i := 1393) (by decide +kernel)⟩
theorem lw_p99 : lw_okq (⟨"SeriesDeskModel", "remember", "()V"⟩, 31) := ⟨⟨by decide +kernel, by decide +kernel⟩, List.mem_of_getElem? (i := 963) (by decide +kernel), List.mem_of_getElem? (i := 1396) (by decide +kernel), List.mem_of_getElem? (i := 1397) (by decide +kernel)⟩
theorem lw_p100 : lw_okq (⟨"SeriesDeskModel", "isRegister", "(I)Z"⟩, 31) := ⟨⟨by decide +kernel, by decide +kernel⟩, List.mem_of_getElem? (i := 963) (by decide +kernel), List.mem_of_getElem? (i := 1417) (by decide +kernel), List.mem_of_getElem? (i := 1418) (by decide +kernel)⟩
theorem lw_p101 : lw_okq (⟨"SeriesDeskModel", "isFull", "(I)Z"⟩, 31) := ⟨⟨by decide +kernel, by decide +kernel⟩, List.mem_of_getElem? (i := 963) (by decide +kernel), List.mem_of_getElem? (i := 1426) (by decide +kernel), List.mem_of_getElem? (i := 1427) (by decide +kernel)⟩
theorem lw_p102 : lw_okq (⟨"SeriesDeskModel", "loads", "(II)V"⟩, 31) := ⟨⟨by decide +kernel, by decide +kernel⟩, List.mem_of_getElem? (i := 963) (by decide +kernel), List.mem_of_getElem? (i := 1434) (by decide +kernel), List.mem_of_getElem? (i := 1435) (by decide +kernel)⟩
theorem lw_p103 : lw_okq (⟨"SeriesDeskModel", "isScript", "(I)Z"⟩, 31) := ⟨⟨by decide +kernel, by decide +kernel⟩, List.mem_of_getElem? (i := 963) (by decide +kernel), List.mem_of_getElem? (i := 1454) (by decide +kernel), List.mem_of_getElem? (i := 1455) (by decide +kernel)⟩
theorem lw_p104 : lw_okq (⟨"SeriesDeskModel", "goes", "(I)I"⟩, 31) := ⟨⟨by decide +kernel, by decide +kernel⟩, List.mem_of_getElem? (i := 963) (by decide +kernel), List.mem_of_getElem? (i := 1458) (by decide +kernel), List.mem_of_getElem? (i := 1459) (by decide +kernel)⟩
theorem lw_p105 : lw_okq (⟨"SeriesDeskModel", "drawn", "()V"⟩, 31) := ⟨⟨by decide +kernel, by decide +kernel⟩, List.mem_of_getElem? (i := 963) (by decide +kernel), List.mem_of_getElem? (i := 1475) (by decide +kernel), List.mem_of_getElem? (i := 1476) (by decide +kernel)⟩
theorem lw_p106 : lw_okq (⟨"SeriesDeskModel", "draw", "(I)I"⟩, 31) := ⟨⟨by decide +kernel, by decide +kernel⟩, List.mem_of_getElem? (i := 963) (by decide +kernel), List.mem_of_getElem? (i := 1479) (by decide +kernel), List.mem_of_getElem? (i := 1480) (by decide +kernel)⟩
theorem lw_p107 : lw_okq (⟨"SeriesDeskModel", "many", "()I"⟩, 31) := ⟨⟨by decide +kernel, by decide +kernel⟩, List.mem_of_getElem? (i := 963) (by decide +kernel), List.mem_of_getElem? (i := 1485) (by decide +kernel), List.mem_of_getElem? (i := 1486) (by decide +kernel)⟩
theorem lw_p108 : lw_okq (⟨"SeriesDeskModel", "laysFour", "(IIII)Z"⟩, 31) := ⟨⟨by decide +kernel, by decide +kernel⟩, List.mem_of_getElem? (i := 963) (by decide +kernel), List.mem_of_getElem? (i := 1528) (by decide +kernel), List.mem_of_getElem? (i := 1529) (by decide +kernel)⟩
theorem lw_p109 : lw_okq (⟨"SeriesDeskModel", "laysOne", "(II)Z"⟩, 31) := ⟨⟨by decide +kernel, by decide +kernel⟩, List.mem_of_getElem? (i := 963) (by decide +kernel), List.mem_of_getElem? (i := 1532) (by decide +kernel), List.mem_of_getElem? (i := 1533) (by decide +kernel)⟩
theorem lw_p110 : lw_okq (⟨"SeriesDeskModel", "isStart", "(I)Z"⟩, 31) := ⟨⟨by decide +kernel, by decide +kernel⟩, List.mem_of_getElem? (i := 963) (by decide +kernel), List.mem_of_getElem? (i := 1536) (by decide +kernel), List.mem_of_getElem? (i := 1537) (by decide +kernel)⟩
theorem lw_p111 : lw_okq (⟨"SeriesDeskModel", "slopeAt", "(I)I"⟩, 31) := ⟨⟨by decide +kernel, by decide +kernel⟩, List.mem_of_getElem? (i := 963) (by decide +kernel), List.mem_of_getElem? (i := 1540) (by decide +kernel), List.mem_of_getElem? (i := 1541) (by decide +kernel)⟩
def lw_privs_7 : List (MethodName × Nat) := [(⟨"SeriesDeskModel", "tries", "(I)I"⟩, 31), (⟨"SeriesDeskModel", "does", "([II)I"⟩, 31), (⟨"SeriesDeskModel", "notes", "([III)V"⟩, 31), (⟨"SeriesDeskModel", "remember", "()V"⟩, 31), (⟨"SeriesDeskModel", "isRegister", "(I)Z"⟩, 31), (⟨"SeriesDeskModel", "isFull", "(I)Z"⟩, 31), (⟨"SeriesDeskModel", "loads", "(II)V"⟩, 31), (⟨"SeriesDeskModel", "isScript", "(I)Z"⟩, 31), (⟨"SeriesDeskModel", "goes", "(I)I"⟩, 31), (⟨"SeriesDeskModel", "drawn", "()V"⟩, 31), (⟨"SeriesDeskModel", "draw", "(I)I"⟩, 31), (⟨"SeriesDeskModel", "many", "()I"⟩, 31), (⟨"SeriesDeskModel", "laysFour", "(IIII)Z"⟩, 31), (⟨"SeriesDeskModel", "laysOne", "(II)Z"⟩, 31), (⟨"SeriesDeskModel", "isStart", "(I)Z"⟩, 31), (⟨"SeriesDeskModel", "slopeAt", "(I)I"⟩, 31)]
theorem lw_r7 : ∀ q ∈ lw_privs_7, lw_okq q := List.forall_mem_cons.mpr ⟨lw_p96, List.forall_mem_cons.mpr ⟨lw_p97, List.forall_mem_cons.mpr ⟨lw_p98, List.forall_mem_cons.mpr ⟨lw_p99, List.forall_mem_cons.mpr ⟨lw_p100, List.forall_mem_cons.mpr ⟨lw_p101, List.forall_mem_cons.mpr ⟨lw_p102, List.forall_mem_cons.mpr ⟨lw_p103, List.forall_mem_cons.mpr ⟨lw_p104, List.forall_mem_cons.mpr ⟨lw_p105, List.forall_mem_cons.mpr ⟨lw_p106, List.forall_mem_cons.mpr ⟨lw_p107, List.forall_mem_cons.mpr ⟨lw_p108, List.forall_mem_cons.mpr ⟨lw_p109, List.forall_mem_cons.mpr ⟨lw_p110, List.forall_mem_cons.mpr ⟨lw_p111, fun _ h => absurd h List.not_mem_nil⟩⟩⟩⟩⟩⟩⟩⟩⟩⟩⟩⟩⟩⟩⟩⟩
theorem lw_p112 : lw_okq (⟨"SeriesDeskModel", "missing", "(I)I"⟩, 31) := ⟨⟨by decide +kernel, by decide +kernel⟩, List.mem_of_getElem? (i := 963) (by decide +kernel), List.mem_of_getElem? (i := 1544) (by decide +kernel), List.mem_of_getElem? (i := 1545) (by decide +kernel)⟩
theorem lw_p113 : lw_okq (⟨"SeriesDeskModel", "brings", "(II)Z"⟩, 31) := ⟨⟨by decide +kernel, by decide +kernel⟩, List.mem_of_getElem? (i := 963) (by decide +kernel), List.mem_of_getElem? (i := 1556) (by decide +kernel), List.mem_of_getElem? (i := 1557) (by decide +kernel)⟩
theorem lw_p114 : lw_okq (⟨"SeriesDeskModel", "grid", "(II)I"⟩, 31) := ⟨⟨by decide +kernel, by decide +kernel⟩, List.mem_of_getElem? (i := 963) (by decide +kernel), List.mem_of_getElem? (i := 1560) (by decide +kernel), List.mem_of_getElem? (i := 1561) (by decide +kernel)⟩
theorem lw_p115 : lw_okq (⟨"SeriesDeskModel", "changes", "(III)V"⟩, 31) := ⟨⟨by decide +kernel, by decide +kernel⟩, List.mem_of_getElem? (i := 963) (by decide +kernel), List.mem_of_getElem? (i := 1564) (by decide +kernel), List.mem_of_getElem? (i := 1565) (by decide +kernel)⟩
theorem lw_p116 : lw_okq (⟨"SeriesDeskModel", "clears", "(IIII)V"⟩, 31) := ⟨⟨by decide +kernel, by decide +kernel⟩, List.mem_of_getElem? (i := 963) (by decide +kernel), List.mem_of_getElem? (i := 1568) (by decide +kernel), List.mem_of_getElem? (i := 1569) (by decide +kernel)⟩
theorem lw_p117 : lw_okq (⟨"SeriesDeskModel", "those", "(Z)I"⟩, 31) := ⟨⟨by decide +kernel, by decide +kernel⟩, List.mem_of_getElem? (i := 963) (by decide +kernel), List.mem_of_getElem? (i := 1584) (by decide +kernel), List.mem_of_getElem? (i := 1585) (by decide +kernel)⟩
theorem lw_p118 : lw_okq (⟨"SeriesDeskModel", "bestOf", "(Z)I"⟩, 31) := ⟨⟨by decide +kernel, by decide +kernel⟩, List.mem_of_getElem? (i := 963) (by decide +kernel), List.mem_of_getElem? (i := 1588) (by decide +kernel), List.mem_of_getElem? (i := 1589) (by decide +kernel)⟩
theorem lw_p119 : lw_okq (⟨"SeriesDeskModel", "coefficients", "(Z)I"⟩, 31) := ⟨⟨by decide +kernel, by decide +kernel⟩, List.mem_of_getElem? (i := 963) (by decide +kernel), List.mem_of_getElem? (i := 1592) (by decide +kernel), List.mem_of_getElem? (i := 1593) (by decide +kernel)⟩
theorem lw_p120 : lw_okq (⟨"SeriesDeskModel", "greatest", "()I"⟩, 31) := ⟨⟨by decide +kernel, by decide +kernel⟩, List.mem_of_getElem? (i := 963) (by decide +kernel), List.mem_of_getElem? (i := 1596) (by decide +kernel), List.mem_of_getElem? (i := 1597) (by decide +kernel)⟩
def lw_privs_8 : List (MethodName × Nat) := [(⟨"SeriesDeskModel", "missing", "(I)I"⟩, 31), (⟨"SeriesDeskModel", "brings", "(II)Z"⟩, 31), (⟨"SeriesDeskModel", "grid", "(II)I"⟩, 31), (⟨"SeriesDeskModel", "changes", "(III)V"⟩, 31), (⟨"SeriesDeskModel", "clears", "(IIII)V"⟩, 31), (⟨"SeriesDeskModel", "those", "(Z)I"⟩, 31), (⟨"SeriesDeskModel", "bestOf", "(Z)I"⟩, 31), (⟨"SeriesDeskModel", "coefficients", "(Z)I"⟩, 31), (⟨"SeriesDeskModel", "greatest", "()I"⟩, 31)]
theorem lw_r8 : ∀ q ∈ lw_privs_8, lw_okq q := List.forall_mem_cons.mpr ⟨lw_p112, List.forall_mem_cons.mpr ⟨lw_p113, List.forall_mem_cons.mpr ⟨lw_p114, List.forall_mem_cons.mpr ⟨lw_p115, List.forall_mem_cons.mpr ⟨lw_p116, List.forall_mem_cons.mpr ⟨lw_p117, List.forall_mem_cons.mpr ⟨lw_p118, List.forall_mem_cons.mpr ⟨lw_p119, List.forall_mem_cons.mpr ⟨lw_p120, fun _ h => absurd h List.not_mem_nil⟩⟩⟩⟩⟩⟩⟩⟩⟩
def lw_privs : List (MethodName × Nat) := lw_privs_1 ++ (lw_privs_2 ++ (lw_privs_3 ++ (lw_privs_4 ++ (lw_privs_5 ++ (lw_privs_6 ++ (lw_privs_7 ++ (lw_privs_8)))))))
def lw_tbl : List Cond := k2_sels lw_privs ++ tables_1
theorem lw_privs_ok : ∀ q ∈ lw_privs, lw_okq q := by
  show ∀ q ∈ lw_privs_1 ++ (lw_privs_2 ++ (lw_privs_3 ++ (lw_privs_4 ++ (lw_privs_5 ++ (lw_privs_6 ++ (lw_privs_7 ++ (lw_privs_8))))))), lw_okq q
  exact List.forall_mem_append.mpr ⟨lw_r1, List.forall_mem_append.mpr ⟨lw_r2, List.forall_mem_append.mpr ⟨lw_r3, List.forall_mem_append.mpr ⟨lw_r4, List.forall_mem_append.mpr ⟨lw_r5, List.forall_mem_append.mpr ⟨lw_r6, List.forall_mem_append.mpr ⟨lw_r7, lw_r8⟩⟩⟩⟩⟩⟩⟩
-- ===== end of PART A; then your names; then what follows =====
end
section
def RX0 : String := "SeriesDesk$Algebra"
def TX0 : u_T := fun k => match k with
  | 0 => ("SeriesDesk$Algebra", "row", "[I", true)
  | 1 => ("SeriesDesk$Algebra", "power", "LSeriesDesk$Series;", true)
  | 2 => ("SeriesDesk$Algebra", "square", "LSeriesDesk$Series;", true)
  | 3 => ("SeriesDesk$Algebra", "lifted", "LSeriesDesk$Series;", true)
  | 4 => ("SeriesDesk$Algebra", "gap", "LSeriesDesk$Series;", true)
  | 5 => ("SeriesDesk$Algebra", "slope", "LSeriesDesk$Series;", true)
  | 6 => ("SeriesDesk$Algebra", "cubic", "[LSeriesDesk$Series;", true)
  | 7 => ("SeriesDesk$Algebra", "prime", "I", false)
  | _ => ("SeriesDesk$Algebra", "most", "I", false)
def tyX0 : Nat → FieldType := fun k => match k with
  | 0 => .array .int
  | 1 => .object "SeriesDesk$Series"
  | 2 => .object "SeriesDesk$Series"
  | 3 => .object "SeriesDesk$Series"
  | 4 => .object "SeriesDesk$Series"
  | 5 => .object "SeriesDesk$Series"
  | 6 => .array (.object "SeriesDesk$Series")
  | 7 => .int
  | _ => .int
abbrev wsX00 : List Cond := u_ws RX0 TX0 9
theorem nmX0 : ∀ a, a < 9 → ∀ b, b < 9 → a ≠ b → (TX0 a).2.1 ≠ (TX0 b).2.1 := by decide +kernel
theorem tyX0_ok : ∀ k, k < 9 → parseFieldDescriptor (TX0 k).2.2.1 = some (tyX0 k) := by decide +kernel
abbrev cX0_init : ByteArray := prog_2_method_1_code
def yX0_init : MethodName := ⟨RX0, "<init>", "()V"⟩
abbrev cX0_setRing : ByteArray := prog_2_method_2_code
def yX0_setRing : MethodName := ⟨RX0, "setRing", "(II)V"⟩
abbrev cX0_reduce : ByteArray := prog_2_method_3_code
def yX0_reduce : MethodName := ⟨RX0, "reduce", "(I)I"⟩
abbrev cX0_inverseOf : ByteArray := prog_2_method_4_code
def yX0_inverseOf : MethodName := ⟨RX0, "inverseOf", "(I)I"⟩
abbrev cX0_isRoot : ByteArray := prog_2_method_5_code
def yX0_isRoot : MethodName := ⟨RX0, "isRoot", "(III)Z"⟩
abbrev cX0_setNumber : ByteArray := prog_2_method_6_code
def yX0_setNumber : MethodName := ⟨RX0, "setNumber", "(LSeriesDesk$Series;I)V"⟩
abbrev cX0_setX : ByteArray := prog_2_method_7_code
def yX0_setX : MethodName := ⟨RX0, "setX", "(LSeriesDesk$Series;)V"⟩
abbrev cX0_addTimes : ByteArray := prog_2_method_8_code
def yX0_addTimes : MethodName := ⟨RX0, "addTimes", "(LSeriesDesk$Series;LSeriesDesk$Series;I)V"⟩
abbrev cX0_match : ByteArray := prog_2_method_9_code
def yX0_match : MethodName := ⟨RX0, "match", "(LSeriesDesk$Series;LSeriesDesk$Series;)V"⟩
abbrev cX0_multiply : ByteArray := prog_2_method_10_code
def yX0_multiply : MethodName := ⟨RX0, "multiply", "(LSeriesDesk$Series;LSeriesDesk$Series;)V"⟩
abbrev cX0_raise : ByteArray := prog_2_method_11_code
def yX0_raise : MethodName := ⟨RX0, "raise", "(LSeriesDesk$Series;I)V"⟩
abbrev cX0_invert : ByteArray := prog_2_method_12_code
def yX0_invert : MethodName := ⟨RX0, "invert", "(LSeriesDesk$Series;)V"⟩
abbrev cX0_divide : ByteArray := prog_2_method_13_code
def yX0_divide : MethodName := ⟨RX0, "divide", "(LSeriesDesk$Series;LSeriesDesk$Series;)I"⟩
abbrev cX0_derive : ByteArray := prog_2_method_14_code
def yX0_derive : MethodName := ⟨RX0, "derive", "(LSeriesDesk$Series;)I"⟩
abbrev cX0_integrate : ByteArray := prog_2_method_15_code
def yX0_integrate : MethodName := ⟨RX0, "integrate", "(LSeriesDesk$Series;)I"⟩
abbrev cX0_logarithm : ByteArray := prog_2_method_16_code
def yX0_logarithm : MethodName := ⟨RX0, "logarithm", "(LSeriesDesk$Series;)I"⟩
abbrev cX0_exponential : ByteArray := prog_2_method_17_code
def yX0_exponential : MethodName := ⟨RX0, "exponential", "(LSeriesDesk$Series;)I"⟩
abbrev cX0_revert : ByteArray := prog_2_method_18_code
def yX0_revert : MethodName := ⟨RX0, "revert", "(LSeriesDesk$Series;)I"⟩
abbrev cX0_root : ByteArray := prog_2_method_19_code
def yX0_root : MethodName := ⟨RX0, "root", "(LSeriesDesk$Series;I)I"⟩
abbrev cX0_scale : ByteArray := prog_2_method_20_code
def yX0_scale : MethodName := ⟨RX0, "scale", "(LSeriesDesk$Series;I)V"⟩
abbrev cX0_lift : ByteArray := prog_2_method_21_code
def yX0_lift : MethodName := ⟨RX0, "lift", "()V"⟩
abbrev cX0_compose : ByteArray := prog_2_method_22_code
def yX0_compose : MethodName := ⟨RX0, "compose", "(LSeriesDesk$Series;LSeriesDesk$Series;)I"⟩
abbrev cX0_lastNotZero : ByteArray := prog_2_method_23_code
def yX0_lastNotZero : MethodName := ⟨RX0, "lastNotZero", "(LSeriesDesk$Series;)I"⟩
abbrev cX0_valueAt : ByteArray := prog_2_method_24_code
def yX0_valueAt : MethodName := ⟨RX0, "valueAt", "(LSeriesDesk$Series;I)I"⟩
abbrev cX0_powerToOne : ByteArray := prog_2_method_25_code
def yX0_powerToOne : MethodName := ⟨RX0, "powerToOne", "(LSeriesDesk$Series;)I"⟩
abbrev cX0_isOne : ByteArray := prog_2_method_26_code
def yX0_isOne : MethodName := ⟨RX0, "isOne", "(LSeriesDesk$Series;)Z"⟩
abbrev cX0_cubicLength : ByteArray := prog_2_method_27_code
def yX0_cubicLength : MethodName := ⟨RX0, "cubicLength", "()I"⟩
abbrev cX0_startsAt : ByteArray := prog_2_method_28_code
def yX0_startsAt : MethodName := ⟨RX0, "startsAt", "(I)Z"⟩
abbrev cX0_cubicRoot : ByteArray := prog_2_method_29_code
def yX0_cubicRoot : MethodName := ⟨RX0, "cubicRoot", "(II)LSeriesDesk$Series;"⟩
def RX1 : String := "SeriesDesk$Code"
def TX1 : u_T := fun k => match k with
  | 0 => ("SeriesDesk$Code", "operations", "[I", true)
  | 1 => ("SeriesDesk$Code", "begins", "[I", true)
  | 2 => ("SeriesDesk$Code", "targets", "[I", true)
  | 3 => ("SeriesDesk$Code", "steps", "I", false)
  | _ => ("SeriesDesk$Code", "size", "I", false)
def tyX1 : Nat → FieldType := fun k => match k with
  | 0 => .array .int
  | 1 => .array .int
  | 2 => .array .int
  | 3 => .int
  | _ => .int
abbrev wsX10 : List Cond := u_ws RX1 TX1 5
theorem nmX1 : ∀ a, a < 5 → ∀ b, b < 5 → a ≠ b → (TX1 a).2.1 ≠ (TX1 b).2.1 := by decide +kernel
theorem tyX1_ok : ∀ k, k < 5 → parseFieldDescriptor (TX1 k).2.2.1 = some (tyX1 k) := by decide +kernel
abbrev cX1_init : ByteArray := prog_3_method_1_code
def yX1_init : MethodName := ⟨RX1, "<init>", "(I)V"⟩
abbrev cX1_clear : ByteArray := prog_3_method_2_code
def yX1_clear : MethodName := ⟨RX1, "clear", "()V"⟩
abbrev cX1_open : ByteArray := prog_3_method_3_code
def yX1_open : MethodName := ⟨RX1, "open", "(I)Z"⟩
abbrev cX1_close : ByteArray := prog_3_method_4_code
def yX1_close : MethodName := ⟨RX1, "close", "()Z"⟩
abbrev cX1_add : ByteArray := prog_3_method_5_code
def yX1_add : MethodName := ⟨RX1, "add", "(II)Z"⟩
abbrev cX1_operationAt : ByteArray := prog_3_method_6_code
def yX1_operationAt : MethodName := ⟨RX1, "operationAt", "(I)I"⟩
abbrev cX1_argumentAt : ByteArray := prog_3_method_7_code
def yX1_argumentAt : MethodName := ⟨RX1, "argumentAt", "(I)I"⟩
abbrev cX1_shortCopy : ByteArray := prog_3_method_8_code
def yX1_shortCopy : MethodName := ⟨RX1, "shortCopy", "()LSeriesDesk$Code;"⟩
def RX2 : String := "SeriesDesk$History"
def TX2 : u_T := fun k => match k with
  | 0 => ("SeriesDesk$History", "states", "[LSeriesDesk$State;", true)
  | 1 => ("SeriesDesk$History", "nextAt", "I", false)
  | _ => ("SeriesDesk$History", "size", "I", false)
def tyX2 : Nat → FieldType := fun k => match k with
  | 0 => .array (.object "SeriesDesk$State")
  | 1 => .int
  | _ => .int
abbrev wsX20 : List Cond := u_ws RX2 TX2 3
theorem nmX2 : ∀ a, a < 3 → ∀ b, b < 3 → a ≠ b → (TX2 a).2.1 ≠ (TX2 b).2.1 := by decide +kernel
theorem tyX2_ok : ∀ k, k < 3 → parseFieldDescriptor (TX2 k).2.2.1 = some (tyX2 k) := by decide +kernel
abbrev cX2_init : ByteArray := prog_4_method_1_code
def yX2_init : MethodName := ⟨RX2, "<init>", "()V"⟩
abbrev cX2_clear : ByteArray := prog_4_method_2_code
def yX2_clear : MethodName := ⟨RX2, "clear", "()V"⟩
abbrev cX2_keep : ByteArray := prog_4_method_3_code
def yX2_keep : MethodName := ⟨RX2, "keep", "(LSeriesDesk$State;)V"⟩
abbrev cX2_restore : ByteArray := prog_4_method_4_code
def yX2_restore : MethodName := ⟨RX2, "restore", "(LSeriesDesk$State;)I"⟩
def RX3 : String := "SeriesDesk$Machine"
def TX3 : u_T := fun k => match k with
  | 0 => ("SeriesDesk$Machine", "algebra", "LSeriesDesk$Algebra;", true)
  | 1 => ("SeriesDesk$Machine", "stack", "[LSeriesDesk$Series;", true)
  | _ => ("SeriesDesk$Machine", "height", "I", false)
def tyX3 : Nat → FieldType := fun k => match k with
  | 0 => .object "SeriesDesk$Algebra"
  | 1 => .array (.object "SeriesDesk$Series")
  | _ => .int
abbrev wsX30 : List Cond := u_ws RX3 TX3 3
theorem nmX3 : ∀ a, a < 3 → ∀ b, b < 3 → a ≠ b → (TX3 a).2.1 ≠ (TX3 b).2.1 := by decide +kernel
theorem tyX3_ok : ∀ k, k < 3 → parseFieldDescriptor (TX3 k).2.2.1 = some (tyX3 k) := by decide +kernel
abbrev cX3_init : ByteArray := prog_5_method_1_code
def yX3_init : MethodName := ⟨RX3, "<init>", "(LSeriesDesk$Algebra;)V"⟩
abbrev cX3_result : ByteArray := prog_5_method_2_code
def yX3_result : MethodName := ⟨RX3, "result", "()LSeriesDesk$Series;"⟩
abbrev cX3_work : ByteArray := prog_5_method_3_code
def yX3_work : MethodName := ⟨RX3, "work", "(LSeriesDesk$Code;ILSeriesDesk$State;)I"⟩
abbrev cX3_push : ByteArray := prog_5_method_4_code
def yX3_push : MethodName := ⟨RX3, "push", "(IILSeriesDesk$State;)I"⟩
abbrev cX3_ofOne : ByteArray := prog_5_method_5_code
def yX3_ofOne : MethodName := ⟨RX3, "ofOne", "(II)I"⟩
abbrev cX3_ofTwo : ByteArray := prog_5_method_6_code
def yX3_ofTwo : MethodName := ⟨RX3, "ofTwo", "(I)I"⟩
def RX4 : String := "SeriesDesk$Reader"
def TX4 : u_T := fun k => match k with
  | 0 => ("SeriesDesk$Reader", "tape", "LSeriesDesk$Tape;", true)
  | 1 => ("SeriesDesk$Reader", "code", "LSeriesDesk$Code;", true)
  | 2 => ("SeriesDesk$Reader", "place", "I", false)
  | 3 => ("SeriesDesk$Reader", "atoms", "I", false)
  | 4 => ("SeriesDesk$Reader", "number", "I", false)
  | 5 => ("SeriesDesk$Reader", "prime", "I", false)
  | _ => ("SeriesDesk$Reader", "most", "I", false)
def tyX4 : Nat → FieldType := fun k => match k with
  | 0 => .object "SeriesDesk$Tape"
  | 1 => .object "SeriesDesk$Code"
  | 2 => .int
  | 3 => .int
  | 4 => .int
  | 5 => .int
  | _ => .int
abbrev wsX40 : List Cond := u_ws RX4 TX4 7
theorem nmX4 : ∀ a, a < 7 → ∀ b, b < 7 → a ≠ b → (TX4 a).2.1 ≠ (TX4 b).2.1 := by decide +kernel
theorem tyX4_ok : ∀ k, k < 7 → parseFieldDescriptor (TX4 k).2.2.1 = some (tyX4 k) := by decide +kernel
abbrev cX4_init : ByteArray := prog_6_method_1_code
def yX4_init : MethodName := ⟨RX4, "<init>", "(LSeriesDesk$Tape;LSeriesDesk$Code;)V"⟩
abbrev cX4_faultAs : ByteArray := prog_6_method_2_code
def yX4_faultAs : MethodName := ⟨RX4, "faultAs", "(I)I"⟩
abbrev cX4_readRing : ByteArray := prog_6_method_3_code
def yX4_readRing : MethodName := ⟨RX4, "readRing", "()Z"⟩
abbrev cX4_readPrime : ByteArray := prog_6_method_4_code
def yX4_readPrime : MethodName := ⟨RX4, "readPrime", "()Z"⟩
abbrev cX4_readSteps : ByteArray := prog_6_method_5_code
def yX4_readSteps : MethodName := ⟨RX4, "readSteps", "(I)Z"⟩
abbrev cX4_readStep : ByteArray := prog_6_method_6_code
def yX4_readStep : MethodName := ⟨RX4, "readStep", "()Z"⟩
abbrev cX4_readExpression : ByteArray := prog_6_method_7_code
def yX4_readExpression : MethodName := ⟨RX4, "readExpression", "(I)Z"⟩
abbrev cX4_readTerm : ByteArray := prog_6_method_8_code
def yX4_readTerm : MethodName := ⟨RX4, "readTerm", "(I)Z"⟩
abbrev cX4_readPower : ByteArray := prog_6_method_9_code
def yX4_readPower : MethodName := ⟨RX4, "readPower", "(I)Z"⟩
abbrev cX4_readAtom : ByteArray := prog_6_method_10_code
def yX4_readAtom : MethodName := ⟨RX4, "readAtom", "(I)Z"⟩
abbrev cX4_readFunction : ByteArray := prog_6_method_11_code
def yX4_readFunction : MethodName := ⟨RX4, "readFunction", "(II)Z"⟩
abbrev cX4_readOfOne : ByteArray := prog_6_method_12_code
def yX4_readOfOne : MethodName := ⟨RX4, "readOfOne", "(II)Z"⟩
abbrev cX4_readRoot : ByteArray := prog_6_method_13_code
def yX4_readRoot : MethodName := ⟨RX4, "readRoot", "(I)Z"⟩
abbrev cX4_readShortened : ByteArray := prog_6_method_14_code
def yX4_readShortened : MethodName := ⟨RX4, "readShortened", "(I)Z"⟩
abbrev cX4_readMatched : ByteArray := prog_6_method_15_code
def yX4_readMatched : MethodName := ⟨RX4, "readMatched", "(I)Z"⟩
abbrev cX4_readBracket : ByteArray := prog_6_method_16_code
def yX4_readBracket : MethodName := ⟨RX4, "readBracket", "(I)Z"⟩
abbrev cX4_readOpening : ByteArray := prog_6_method_17_code
def yX4_readOpening : MethodName := ⟨RX4, "readOpening", "(I)Z"⟩
abbrev cX4_readSign : ByteArray := prog_6_method_18_code
def yX4_readSign : MethodName := ⟨RX4, "readSign", "(I)Z"⟩
abbrev cX4_readNumber : ByteArray := prog_6_method_19_code
def yX4_readNumber : MethodName := ⟨RX4, "readNumber", "(II)Z"⟩
abbrev cX4_digitAt : ByteArray := prog_6_method_20_code
def yX4_digitAt : MethodName := ⟨RX4, "digitAt", "(I)Z"⟩
abbrev cX4_next : ByteArray := prog_6_method_21_code
def yX4_next : MethodName := ⟨RX4, "next", "()I"⟩
def RX5 : String := "SeriesDesk$Recurrence"
def TX5 : u_T := fun k => match k with
  | 0 => ("SeriesDesk$Recurrence", "now", "[I", false)
  | 1 => ("SeriesDesk$Recurrence", "before", "[I", false)
  | _ => ("SeriesDesk$Recurrence", "spare", "[I", false)
def tyX5 : Nat → FieldType := fun k => match k with
  | 0 => .array .int
  | 1 => .array .int
  | _ => .array .int
abbrev wsX50 : List Cond := u_ws RX5 TX5 3
theorem nmX5 : ∀ a, a < 3 → ∀ b, b < 3 → a ≠ b → (TX5 a).2.1 ≠ (TX5 b).2.1 := by decide +kernel
theorem tyX5_ok : ∀ k, k < 3 → parseFieldDescriptor (TX5 k).2.2.1 = some (tyX5 k) := by decide +kernel
abbrev cX5_init : ByteArray := prog_7_method_1_code
def yX5_init : MethodName := ⟨RX5, "<init>", "()V"⟩
abbrev cX5_find : ByteArray := prog_7_method_2_code
def yX5_find : MethodName := ⟨RX5, "find", "(LSeriesDesk$Series;LSeriesDesk$Algebra;)I"⟩
abbrev cX5_missedAt : ByteArray := prog_7_method_3_code
def yX5_missedAt : MethodName := ⟨RX5, "missedAt", "(LSeriesDesk$Series;II)I"⟩
abbrev cX5_factor : ByteArray := prog_7_method_4_code
def yX5_factor : MethodName := ⟨RX5, "factor", "(II)I"⟩
def RX6 : String := "SeriesDesk$Series"
def TX6 : u_T := fun k => match k with
  | 0 => ("SeriesDesk$Series", "c", "[I", true)
  | _ => ("SeriesDesk$Series", "length", "I", false)
def tyX6 : Nat → FieldType := fun k => match k with
  | 0 => .array .int
  | _ => .int
abbrev wsX60 : List Cond := u_ws RX6 TX6 2
theorem nmX6 : ∀ a, a < 2 → ∀ b, b < 2 → a ≠ b → (TX6 a).2.1 ≠ (TX6 b).2.1 := by decide +kernel
theorem tyX6_ok : ∀ k, k < 2 → parseFieldDescriptor (TX6 k).2.2.1 = some (tyX6 k) := by decide +kernel
abbrev cX6_init : ByteArray := prog_8_method_1_code
def yX6_init : MethodName := ⟨RX6, "<init>", "()V"⟩
abbrev cX6_first : ByteArray := prog_8_method_2_code
def yX6_first : MethodName := ⟨RX6, "first", "()I"⟩
abbrev cX6_copy : ByteArray := prog_8_method_3_code
def yX6_copy : MethodName := ⟨RX6, "copy", "(LSeriesDesk$Series;)V"⟩
abbrev cX6_shorten : ByteArray := prog_8_method_4_code
def yX6_shorten : MethodName := ⟨RX6, "shorten", "(I)V"⟩
abbrev cX6_widen : ByteArray := prog_8_method_5_code
def yX6_widen : MethodName := ⟨RX6, "widen", "(I)V"⟩
abbrev cX6_withoutFirst : ByteArray := prog_8_method_6_code
def yX6_withoutFirst : MethodName := ⟨RX6, "withoutFirst", "(I)V"⟩
def RX7 : String := "SeriesDesk$State"
def TX7 : u_T := fun k => match k with
  | 0 => ("SeriesDesk$State", "lengths", "[I", true)
  | 1 => ("SeriesDesk$State", "cells", "[I", true)
  | 2 => ("SeriesDesk$State", "noteRow", "[I", true)
  | _ => ("SeriesDesk$State", "notes", "I", false)
def tyX7 : Nat → FieldType := fun k => match k with
  | 0 => .array .int
  | 1 => .array .int
  | 2 => .array .int
  | _ => .int
abbrev wsX70 : List Cond := u_ws RX7 TX7 4
theorem nmX7 : ∀ a, a < 4 → ∀ b, b < 4 → a ≠ b → (TX7 a).2.1 ≠ (TX7 b).2.1 := by decide +kernel
theorem tyX7_ok : ∀ k, k < 4 → parseFieldDescriptor (TX7 k).2.2.1 = some (tyX7 k) := by decide +kernel
abbrev cX7_init : ByteArray := prog_9_method_1_code
def yX7_init : MethodName := ⟨RX7, "<init>", "()V"⟩
abbrev cX7_clear : ByteArray := prog_9_method_2_code
def yX7_clear : MethodName := ⟨RX7, "clear", "()V"⟩
abbrev cX7_copy : ByteArray := prog_9_method_3_code
def yX7_copy : MethodName := ⟨RX7, "copy", "(LSeriesDesk$State;)V"⟩
abbrev cX7_cell : ByteArray := prog_9_method_4_code
def yX7_cell : MethodName := ⟨RX7, "cell", "(II)I"⟩
abbrev cX7_load : ByteArray := prog_9_method_5_code
def yX7_load : MethodName := ⟨RX7, "load", "(ILSeriesDesk$Series;)V"⟩
abbrev cX7_store : ByteArray := prog_9_method_6_code
def yX7_store : MethodName := ⟨RX7, "store", "(ILSeriesDesk$Series;)V"⟩
abbrev cX7_exchange : ByteArray := prog_9_method_7_code
def yX7_exchange : MethodName := ⟨RX7, "exchange", "(II)V"⟩
abbrev cX7_note : ByteArray := prog_9_method_8_code
def yX7_note : MethodName := ⟨RX7, "note", "(II)V"⟩
abbrev cX7_noted : ByteArray := prog_9_method_9_code
def yX7_noted : MethodName := ⟨RX7, "noted", "(II)I"⟩
abbrev cX7_firstNotZero : ByteArray := prog_9_method_10_code
def yX7_firstNotZero : MethodName := ⟨RX7, "firstNotZero", "(I)I"⟩
abbrev cX7_filled : ByteArray := prog_9_method_11_code
def yX7_filled : MethodName := ⟨RX7, "filled", "()I"⟩
abbrev cX7_filledBits : ByteArray := prog_9_method_12_code
def yX7_filledBits : MethodName := ⟨RX7, "filledBits", "()I"⟩
abbrev cX7_longest : ByteArray := prog_9_method_13_code
def yX7_longest : MethodName := ⟨RX7, "longest", "()I"⟩
abbrev cX7_deepest : ByteArray := prog_9_method_14_code
def yX7_deepest : MethodName := ⟨RX7, "deepest", "()I"⟩
abbrev cX7_knownInAll : ByteArray := prog_9_method_15_code
def yX7_knownInAll : MethodName := ⟨RX7, "knownInAll", "()I"⟩
abbrev cX7_notZeroInAll : ByteArray := prog_9_method_16_code
def yX7_notZeroInAll : MethodName := ⟨RX7, "notZeroInAll", "()I"⟩
abbrev cX7_greatest : ByteArray := prog_9_method_17_code
def yX7_greatest : MethodName := ⟨RX7, "greatest", "()I"⟩
abbrev cX7_zeroFirstBits : ByteArray := prog_9_method_18_code
def yX7_zeroFirstBits : MethodName := ⟨RX7, "zeroFirstBits", "()I"⟩
def RX8 : String := "SeriesDesk$Tape"
def TX8 : u_T := fun k => match k with
  | 0 => ("SeriesDesk$Tape", "bytes", "[I", true)
  | _ => ("SeriesDesk$Tape", "length", "I", false)
def tyX8 : Nat → FieldType := fun k => match k with
  | 0 => .array .int
  | _ => .int
abbrev wsX80 : List Cond := u_ws RX8 TX8 2
theorem nmX8 : ∀ a, a < 2 → ∀ b, b < 2 → a ≠ b → (TX8 a).2.1 ≠ (TX8 b).2.1 := by decide +kernel
theorem tyX8_ok : ∀ k, k < 2 → parseFieldDescriptor (TX8 k).2.2.1 = some (tyX8 k) := by decide +kernel
abbrev cX8_init : ByteArray := prog_10_method_1_code
def yX8_init : MethodName := ⟨RX8, "<init>", "()V"⟩
abbrev cX8_take : ByteArray := prog_10_method_2_code
def yX8_take : MethodName := ⟨RX8, "take", "(I)V"⟩
def RX9 : String := "SeriesDesk"
def TX9 : u_T := fun k => match k with
  | 0 => ("SeriesDesk", "tape", "LSeriesDesk$Tape;", true)
  | 1 => ("SeriesDesk", "draft", "LSeriesDesk$Code;", true)
  | 2 => ("SeriesDesk", "reader", "LSeriesDesk$Reader;", true)
  | 3 => ("SeriesDesk", "algebra", "LSeriesDesk$Algebra;", true)
  | 4 => ("SeriesDesk", "machine", "LSeriesDesk$Machine;", true)
  | 5 => ("SeriesDesk", "recurrence", "LSeriesDesk$Recurrence;", true)
  | 6 => ("SeriesDesk", "looked", "LSeriesDesk$Series;", true)
  | 7 => ("SeriesDesk", "state", "LSeriesDesk$State;", true)
  | 8 => ("SeriesDesk", "trial", "LSeriesDesk$State;", true)
  | 9 => ("SeriesDesk", "kept", "LSeriesDesk$State;", true)
  | 10 => ("SeriesDesk", "history", "LSeriesDesk$History;", true)
  | 11 => ("SeriesDesk", "scripts", "[LSeriesDesk$Code;", true)
  | 12 => ("SeriesDesk", "refused", "[I", true)
  | 13 => ("SeriesDesk", "scriptCount", "I", false)
  | 14 => ("SeriesDesk", "ringTold", "Z", false)
  | 15 => ("SeriesDesk", "imaged", "Z", false)
  | 16 => ("SeriesDesk", "stuckAt", "I", false)
  | _ => ("SeriesDesk", "seedNow", "J", false)
def tyX9 : Nat → FieldType := fun k => match k with
  | 0 => .object "SeriesDesk$Tape"
  | 1 => .object "SeriesDesk$Code"
  | 2 => .object "SeriesDesk$Reader"
  | 3 => .object "SeriesDesk$Algebra"
  | 4 => .object "SeriesDesk$Machine"
  | 5 => .object "SeriesDesk$Recurrence"
  | 6 => .object "SeriesDesk$Series"
  | 7 => .object "SeriesDesk$State"
  | 8 => .object "SeriesDesk$State"
  | 9 => .object "SeriesDesk$State"
  | 10 => .object "SeriesDesk$History"
  | 11 => .array (.object "SeriesDesk$Code")
  | 12 => .array .int
  | 13 => .int
  | 14 => .boolean
  | 15 => .boolean
  | 16 => .int
  | _ => .long
abbrev wsX90 : List Cond := u_ws RX9 TX9 18
theorem nmX9 : ∀ a, a < 18 → ∀ b, b < 18 → a ≠ b → (TX9 a).2.1 ≠ (TX9 b).2.1 := by decide +kernel
theorem tyX9_ok : ∀ k, k < 18 → parseFieldDescriptor (TX9 k).2.2.1 = some (tyX9 k) := by decide +kernel
abbrev cX9_init : ByteArray := prog_1_method_1_code
def yX9_init : MethodName := ⟨RX9, "<init>", "()V"⟩
abbrev cX9_feed : ByteArray := prog_1_method_2_code
def yX9_feed : MethodName := ⟨RX9, "feed", "(IIIII)I"⟩
abbrev cX9_end : ByteArray := prog_1_method_3_code
def yX9_end : MethodName := ⟨RX9, "end", "(I)Z"⟩
abbrev cX9_fault : ByteArray := prog_1_method_4_code
def yX9_fault : MethodName := ⟨RX9, "fault", "(I)I"⟩
abbrev cX9_text : ByteArray := prog_1_method_5_code
def yX9_text : MethodName := ⟨RX9, "text", "(I)I"⟩
abbrev cX9_rule : ByteArray := prog_1_method_6_code
def yX9_rule : MethodName := ⟨RX9, "rule", "(I)I"⟩
abbrev cX9_step : ByteArray := prog_1_method_7_code
def yX9_step : MethodName := ⟨RX9, "step", "()I"⟩
abbrev cX9_would : ByteArray := prog_1_method_8_code
def yX9_would : MethodName := ⟨RX9, "would", "(I)I"⟩
abbrev cX9_why : ByteArray := prog_1_method_9_code
def yX9_why : MethodName := ⟨RX9, "why", "()I"⟩
abbrev cX9_known : ByteArray := prog_1_method_10_code
def yX9_known : MethodName := ⟨RX9, "known", "(I)I"⟩
abbrev cX9_coefficient : ByteArray := prog_1_method_11_code
def yX9_coefficient : MethodName := ⟨RX9, "coefficient", "(II)I"⟩
abbrev cX9_order : ByteArray := prog_1_method_12_code
def yX9_order : MethodName := ⟨RX9, "order", "(I)I"⟩
abbrev cX9_cut : ByteArray := prog_1_method_13_code
def yX9_cut : MethodName := ⟨RX9, "cut", "(II)I"⟩
abbrev cX9_drop : ByteArray := prog_1_method_14_code
def yX9_drop : MethodName := ⟨RX9, "drop", "(I)I"⟩
abbrev cX9_swap : ByteArray := prog_1_method_15_code
def yX9_swap : MethodName := ⟨RX9, "swap", "(II)I"⟩
abbrev cX9_perform : ByteArray := prog_1_method_16_code
def yX9_perform : MethodName := ⟨RX9, "perform", "(I)I"⟩
abbrev cX9_years : ByteArray := prog_1_method_17_code
def yX9_years : MethodName := ⟨RX9, "years", "(IJ)I"⟩
abbrev cX9_status : ByteArray := prog_1_method_18_code
def yX9_status : MethodName := ⟨RX9, "status", "(I)I"⟩
abbrev cX9_undo : ByteArray := prog_1_method_19_code
def yX9_undo : MethodName := ⟨RX9, "undo", "()I"⟩
abbrev cX9_log : ByteArray := prog_1_method_20_code
def yX9_log : MethodName := ⟨RX9, "log", "(II)I"⟩
abbrev cX9_alike : ByteArray := prog_1_method_21_code
def yX9_alike : MethodName := ⟨RX9, "alike", "(II)I"⟩
abbrev cX9_value : ByteArray := prog_1_method_22_code
def yX9_value : MethodName := ⟨RX9, "value", "(II)I"⟩
abbrev cX9_newton : ByteArray := prog_1_method_23_code
def yX9_newton : MethodName := ⟨RX9, "newton", "(III)I"⟩
abbrev cX9_solve : ByteArray := prog_1_method_24_code
def yX9_solve : MethodName := ⟨RX9, "solve", "(IIIIII)I"⟩
abbrev cX9_starts : ByteArray := prog_1_method_25_code
def yX9_starts : MethodName := ⟨RX9, "starts", "(IIIII)I"⟩
abbrev cX9_recur : ByteArray := prog_1_method_26_code
def yX9_recur : MethodName := ⟨RX9, "recur", "(II)I"⟩
abbrev cX9_one : ByteArray := prog_1_method_27_code
def yX9_one : MethodName := ⟨RX9, "one", "(I)I"⟩
abbrev cX9_sums : ByteArray := prog_1_method_28_code
def yX9_sums : MethodName := ⟨RX9, "sums", "(II)I"⟩
abbrev cX9_run : ByteArray := prog_1_method_29_code
def yX9_run : MethodName := ⟨RX9, "run", "(II)I"⟩
abbrev cX9_target : ByteArray := prog_1_method_30_code
def yX9_target : MethodName := ⟨RX9, "target", "(II)I"⟩
abbrev cX9_most : ByteArray := prog_1_method_31_code
def yX9_most : MethodName := ⟨RX9, "most", "(I)I"⟩
abbrev cX9_image : ByteArray := prog_1_method_32_code
def yX9_image : MethodName := ⟨RX9, "image", "()I"⟩
abbrev cX9_back : ByteArray := prog_1_method_33_code
def yX9_back : MethodName := ⟨RX9, "back", "()I"⟩
abbrev cX9_count : ByteArray := prog_1_method_34_code
def yX9_count : MethodName := ⟨RX9, "count", "(I)I"⟩
abbrev cX9_bytesIn : ByteArray := prog_1_method_35_code
def yX9_bytesIn : MethodName := ⟨RX9, "bytesIn", "(I)I"⟩
abbrev cX9_takeRing : ByteArray := prog_1_method_36_code
def yX9_takeRing : MethodName := ⟨RX9, "takeRing", "()I"⟩
abbrev cX9_takeScript : ByteArray := prog_1_method_37_code
def yX9_takeScript : MethodName := ⟨RX9, "takeScript", "()I"⟩
abbrev cX9_lengthOf : ByteArray := prog_1_method_38_code
def yX9_lengthOf : MethodName := ⟨RX9, "lengthOf", "(I)I"⟩
abbrev cX9_scriptOf : ByteArray := prog_1_method_39_code
def yX9_scriptOf : MethodName := ⟨RX9, "scriptOf", "(I)LSeriesDesk$Code;"⟩
abbrev cX9_refuse : ByteArray := prog_1_method_40_code
def yX9_refuse : MethodName := ⟨RX9, "refuse", "(I)I"⟩
abbrev cX9_tapeReason : ByteArray := prog_1_method_41_code
def yX9_tapeReason : MethodName := ⟨RX9, "tapeReason", "()I"⟩
abbrev cX9_settle : ByteArray := prog_1_method_42_code
def yX9_settle : MethodName := ⟨RX9, "settle", "(I)I"⟩
abbrev cX9_rehearse : ByteArray := prog_1_method_43_code
def yX9_rehearse : MethodName := ⟨RX9, "rehearse", "(LSeriesDesk$Code;)I"⟩
abbrev cX9_draw : ByteArray := prog_1_method_44_code
def yX9_draw : MethodName := ⟨RX9, "draw", "(I)I"⟩
abbrev cX9_draftYear : ByteArray := prog_1_method_45_code
def yX9_draftYear : MethodName := ⟨RX9, "draftYear", "()V"⟩
abbrev cX9_gather : ByteArray := prog_1_method_46_code
def yX9_gather : MethodName := ⟨RX9, "gather", "(IIII)Z"⟩
abbrev cX9_gatherOne : ByteArray := prog_1_method_47_code
def yX9_gatherOne : MethodName := ⟨RX9, "gatherOne", "(II)Z"⟩
def RX10 : String := "SeriesDeskModel"
def TX10 : u_T := fun k => match k with
  | 0 => ("SeriesDeskModel", "thrown", "I", false)
  | 1 => ("SeriesDeskModel", "tape", "[B", true)
  | 2 => ("SeriesDeskModel", "length", "I", false)
  | 3 => ("SeriesDeskModel", "at", "I", false)
  | 4 => ("SeriesDeskModel", "fault", "I", false)
  | 5 => ("SeriesDeskModel", "primeRead", "I", false)
  | 6 => ("SeriesDeskModel", "mostRead", "I", false)
  | 7 => ("SeriesDeskModel", "prime", "I", false)
  | 8 => ("SeriesDeskModel", "most", "I", false)
  | 9 => ("SeriesDeskModel", "target", "[I", true)
  | 10 => ("SeriesDeskModel", "codeMany", "[I", true)
  | 11 => ("SeriesDeskModel", "code", "[I", true)
  | 12 => ("SeriesDeskModel", "stepsOf", "[I", true)
  | 13 => ("SeriesDeskModel", "scripts", "I", false)
  | 14 => ("SeriesDeskModel", "place", "I", false)
  | 15 => ("SeriesDeskModel", "open", "I", false)
  | 16 => ("SeriesDeskModel", "atoms", "I", false)
  | 17 => ("SeriesDeskModel", "now", "[I", true)
  | 18 => ("SeriesDeskModel", "trial", "[I", true)
  | 19 => ("SeriesDeskModel", "image", "[I", true)
  | 20 => ("SeriesDeskModel", "kept", "[I", true)
  | 21 => ("SeriesDeskModel", "first", "I", false)
  | 22 => ("SeriesDeskModel", "acts", "I", false)
  | 23 => ("SeriesDeskModel", "hasImage", "Z", false)
  | 24 => ("SeriesDeskModel", "s", "[I", true)
  | 25 => ("SeriesDeskModel", "high", "I", false)
  | 26 => ("SeriesDeskModel", "status", "[I", true)
  | 27 => ("SeriesDeskModel", "whyNot", "I", false)
  | 28 => ("SeriesDeskModel", "x", "J", false)
  | 29 => ("SeriesDeskModel", "grid", "[I", true)
  | _ => ("SeriesDeskModel", "from", "[I", true)
def tyX10 : Nat → FieldType := fun k => match k with
  | 0 => .int
  | 1 => .array .byte
  | 2 => .int
  | 3 => .int
  | 4 => .int
  | 5 => .int
  | 6 => .int
  | 7 => .int
  | 8 => .int
  | 9 => .array .int
  | 10 => .array .int
  | 11 => .array .int
  | 12 => .array .int
  | 13 => .int
  | 14 => .int
  | 15 => .int
  | 16 => .int
  | 17 => .array .int
  | 18 => .array .int
  | 19 => .array .int
  | 20 => .array .int
  | 21 => .int
  | 22 => .int
  | 23 => .boolean
  | 24 => .array .int
  | 25 => .int
  | 26 => .array .int
  | 27 => .int
  | 28 => .long
  | 29 => .array .int
  | _ => .array .int
abbrev wsX100 : List Cond := u_ws RX10 TX10 31
theorem nmX10 : ∀ a, a < 31 → ∀ b, b < 31 → a ≠ b → (TX10 a).2.1 ≠ (TX10 b).2.1 := by decide +kernel
theorem tyX10_ok : ∀ k, k < 31 → parseFieldDescriptor (TX10 k).2.2.1 = some (tyX10 k) := by decide +kernel
abbrev cX10_init : ByteArray := prog_12_method_1_code
def yX10_init : MethodName := ⟨RX10, "<init>", "()V"⟩
abbrev cX10_thrown : ByteArray := prog_12_method_2_code
def yX10_thrown : MethodName := ⟨RX10, "thrown", "()I"⟩
abbrev cX10_isIn : ByteArray := prog_12_method_3_code
def yX10_isIn : MethodName := ⟨RX10, "isIn", "(JJJ)Z"⟩
abbrev cX10_has : ByteArray := prog_12_method_4_code
def yX10_has : MethodName := ⟨RX10, "has", "(II)Z"⟩
abbrev cX10_bytesOf : ByteArray := prog_12_method_5_code
def yX10_bytesOf : MethodName := ⟨RX10, "bytesOf", "(I)I"⟩
abbrev cX10_brings : ByteArray := prog_12_method_6_code
def yX10_brings : MethodName := ⟨RX10, "brings", "(I)V"⟩
abbrev cX10_feed : ByteArray := prog_12_method_7_code
def yX10_feed : MethodName := ⟨RX10, "feed", "(IIIII)I"⟩
abbrev cX10_end : ByteArray := prog_12_method_8_code
def yX10_end : MethodName := ⟨RX10, "end", "(I)Z"⟩
abbrev cX10_here : ByteArray := prog_12_method_9_code
def yX10_here : MethodName := ⟨RX10, "here", "()I"⟩
abbrev cX10_look : ByteArray := prog_12_method_10_code
def yX10_look : MethodName := ⟨RX10, "look", "()I"⟩
abbrev cX10_fails : ByteArray := prog_12_method_11_code
def yX10_fails : MethodName := ⟨RX10, "fails", "()V"⟩
abbrev cX10_isDigit : ByteArray := prog_12_method_12_code
def yX10_isDigit : MethodName := ⟨RX10, "isDigit", "()Z"⟩
abbrev cX10_spotOf : ByteArray := prog_12_method_13_code
def yX10_spotOf : MethodName := ⟨RX10, "spotOf", "(Ljava/lang/String;I)I"⟩
abbrev cX10_isPrime : ByteArray := prog_12_method_14_code
def yX10_isPrime : MethodName := ⟨RX10, "isPrime", "(I)Z"⟩
abbrev cX10_number : ByteArray := prog_12_method_15_code
def yX10_number : MethodName := ⟨RX10, "number", "(IIZ)I"⟩
abbrev cX10_sign : ByteArray := prog_12_method_16_code
def yX10_sign : MethodName := ⟨RX10, "sign", "(I)V"⟩
abbrev cX10_readRing : ByteArray := prog_12_method_17_code
def yX10_readRing : MethodName := ⟨RX10, "readRing", "()V"⟩
abbrev cX10_says : ByteArray := prog_12_method_18_code
def yX10_says : MethodName := ⟨RX10, "says", "(II)V"⟩
abbrev cX10_opens : ByteArray := prog_12_method_19_code
def yX10_opens : MethodName := ⟨RX10, "opens", "()V"⟩
abbrev cX10_shuts : ByteArray := prog_12_method_20_code
def yX10_shuts : MethodName := ⟨RX10, "shuts", "()V"⟩
abbrev cX10_expression : ByteArray := prog_12_method_21_code
def yX10_expression : MethodName := ⟨RX10, "expression", "()V"⟩
abbrev cX10_term : ByteArray := prog_12_method_22_code
def yX10_term : MethodName := ⟨RX10, "term", "()V"⟩
abbrev cX10_power : ByteArray := prog_12_method_23_code
def yX10_power : MethodName := ⟨RX10, "power", "()V"⟩
abbrev cX10_atom : ByteArray := prog_12_method_24_code
def yX10_atom : MethodName := ⟨RX10, "atom", "()V"⟩
abbrev cX10_made : ByteArray := prog_12_method_25_code
def yX10_made : MethodName := ⟨RX10, "made", "(I)V"⟩
abbrev cX10_placed : ByteArray := prog_12_method_26_code
def yX10_placed : MethodName := ⟨RX10, "placed", "()V"⟩
abbrev cX10_readStep : ByteArray := prog_12_method_27_code
def yX10_readStep : MethodName := ⟨RX10, "readStep", "(I)V"⟩
abbrev cX10_readScript : ByteArray := prog_12_method_28_code
def yX10_readScript : MethodName := ⟨RX10, "readScript", "()V"⟩
abbrev cX10_readOne : ByteArray := prog_12_method_29_code
def yX10_readOne : MethodName := ⟨RX10, "readOne", "()V"⟩
abbrev cX10_fault : ByteArray := prog_12_method_30_code
def yX10_fault : MethodName := ⟨RX10, "fault", "(I)I"⟩
abbrev cX10_copyStep : ByteArray := prog_12_method_31_code
def yX10_copyStep : MethodName := ⟨RX10, "copyStep", "(II)V"⟩
abbrev cX10_text : ByteArray := prog_12_method_32_code
def yX10_text : MethodName := ⟨RX10, "text", "(I)I"⟩
abbrev cX10_copyRow : ByteArray := prog_12_method_33_code
def yX10_copyRow : MethodName := ⟨RX10, "copyRow", "([II[II)V"⟩
abbrev cX10_by : ByteArray := prog_12_method_34_code
def yX10_by : MethodName := ⟨RX10, "by", "(J)I"⟩
abbrev cX10_inverse : ByteArray := prog_12_method_35_code
def yX10_inverse : MethodName := ⟨RX10, "inverse", "(I)I"⟩
abbrev cX10_long0 : ByteArray := prog_12_method_36_code
def yX10_long0 : MethodName := ⟨RX10, "long0", "(I)I"⟩
abbrev cX10_longs : ByteArray := prog_12_method_37_code
def yX10_longs : MethodName := ⟨RX10, "longs", "(II)V"⟩
abbrev cX10_c : ByteArray := prog_12_method_38_code
def yX10_c : MethodName := ⟨RX10, "c", "(II)I"⟩
abbrev cX10_sets : ByteArray := prog_12_method_39_code
def yX10_sets : MethodName := ⟨RX10, "sets", "(III)V"⟩
abbrev cX10_copies : ByteArray := prog_12_method_40_code
def yX10_copies : MethodName := ⟨RX10, "copies", "(II)V"⟩
abbrev cX10_orderOf : ByteArray := prog_12_method_41_code
def yX10_orderOf : MethodName := ⟨RX10, "orderOf", "(I)I"⟩
abbrev cX10_least : ByteArray := prog_12_method_42_code
def yX10_least : MethodName := ⟨RX10, "least", "(II)I"⟩
abbrev cX10_numbers : ByteArray := prog_12_method_43_code
def yX10_numbers : MethodName := ⟨RX10, "numbers", "(II)V"⟩
abbrev cX10_placeOf : ByteArray := prog_12_method_44_code
def yX10_placeOf : MethodName := ⟨RX10, "placeOf", "(III)J"⟩
abbrev cX10_multiplies : ByteArray := prog_12_method_45_code
def yX10_multiplies : MethodName := ⟨RX10, "multiplies", "(III)V"⟩
abbrev cX10_inverts : ByteArray := prog_12_method_46_code
def yX10_inverts : MethodName := ⟨RX10, "inverts", "(II)V"⟩
abbrev cX10_shifts : ByteArray := prog_12_method_47_code
def yX10_shifts : MethodName := ⟨RX10, "shifts", "(II)V"⟩
abbrev cX10_cuts : ByteArray := prog_12_method_48_code
def yX10_cuts : MethodName := ⟨RX10, "cuts", "(IIII)V"⟩
abbrev cX10_blanks : ByteArray := prog_12_method_49_code
def yX10_blanks : MethodName := ⟨RX10, "blanks", "(II)V"⟩
abbrev cX10_raises : ByteArray := prog_12_method_50_code
def yX10_raises : MethodName := ⟨RX10, "raises", "(IIII)V"⟩
abbrev cX10_divides : ByteArray := prog_12_method_51_code
def yX10_divides : MethodName := ⟨RX10, "divides", "(I)I"⟩
abbrev cX10_powers : ByteArray := prog_12_method_52_code
def yX10_powers : MethodName := ⟨RX10, "powers", "(II)I"⟩
abbrev cX10_derives : ByteArray := prog_12_method_53_code
def yX10_derives : MethodName := ⟨RX10, "derives", "(I)I"⟩
abbrev cX10_integrates : ByteArray := prog_12_method_54_code
def yX10_integrates : MethodName := ⟨RX10, "integrates", "(I)I"⟩
abbrev cX10_logarithm : ByteArray := prog_12_method_55_code
def yX10_logarithm : MethodName := ⟨RX10, "logarithm", "(I)I"⟩
abbrev cX10_exponential : ByteArray := prog_12_method_56_code
def yX10_exponential : MethodName := ⟨RX10, "exponential", "(I)I"⟩
abbrev cX10_within : ByteArray := prog_12_method_57_code
def yX10_within : MethodName := ⟨RX10, "within", "(III)I"⟩
abbrev cX10_reverses : ByteArray := prog_12_method_58_code
def yX10_reverses : MethodName := ⟨RX10, "reverses", "(I)I"⟩
abbrev cX10_raised : ByteArray := prog_12_method_59_code
def yX10_raised : MethodName := ⟨RX10, "raised", "(II)I"⟩
abbrev cX10_roots : ByteArray := prog_12_method_60_code
def yX10_roots : MethodName := ⟨RX10, "roots", "(II)I"⟩
abbrev cX10_composes : ByteArray := prog_12_method_61_code
def yX10_composes : MethodName := ⟨RX10, "composes", "(I)I"⟩
abbrev cX10_joins : ByteArray := prog_12_method_62_code
def yX10_joins : MethodName := ⟨RX10, "joins", "(II)I"⟩
abbrev cX10_pairs : ByteArray := prog_12_method_63_code
def yX10_pairs : MethodName := ⟨RX10, "pairs", "(II)I"⟩
abbrev cX10_alone : ByteArray := prog_12_method_64_code
def yX10_alone : MethodName := ⟨RX10, "alone", "(III)I"⟩
abbrev cX10_pushes : ByteArray := prog_12_method_65_code
def yX10_pushes : MethodName := ⟨RX10, "pushes", "([III)I"⟩
abbrev cX10_works : ByteArray := prog_12_method_66_code
def yX10_works : MethodName := ⟨RX10, "works", "([II)I"⟩
abbrev cX10_remember : ByteArray := prog_12_method_67_code
def yX10_remember : MethodName := ⟨RX10, "remember", "()V"⟩
abbrev cX10_notes : ByteArray := prog_12_method_68_code
def yX10_notes : MethodName := ⟨RX10, "notes", "([III)V"⟩
abbrev cX10_refuses : ByteArray := prog_12_method_69_code
def yX10_refuses : MethodName := ⟨RX10, "refuses", "(I)I"⟩
abbrev cX10_isRegister : ByteArray := prog_12_method_70_code
def yX10_isRegister : MethodName := ⟨RX10, "isRegister", "(I)Z"⟩
abbrev cX10_isFull : ByteArray := prog_12_method_71_code
def yX10_isFull : MethodName := ⟨RX10, "isFull", "(I)Z"⟩
abbrev cX10_does : ByteArray := prog_12_method_72_code
def yX10_does : MethodName := ⟨RX10, "does", "([II)I"⟩
abbrev cX10_tries : ByteArray := prog_12_method_73_code
def yX10_tries : MethodName := ⟨RX10, "tries", "(I)I"⟩
abbrev cX10_reason : ByteArray := prog_12_method_74_code
def yX10_reason : MethodName := ⟨RX10, "reason", "()I"⟩
abbrev cX10_step : ByteArray := prog_12_method_75_code
def yX10_step : MethodName := ⟨RX10, "step", "()I"⟩
abbrev cX10_would : ByteArray := prog_12_method_76_code
def yX10_would : MethodName := ⟨RX10, "would", "(I)I"⟩
abbrev cX10_why : ByteArray := prog_12_method_77_code
def yX10_why : MethodName := ⟨RX10, "why", "()I"⟩
abbrev cX10_rule : ByteArray := prog_12_method_78_code
def yX10_rule : MethodName := ⟨RX10, "rule", "(I)I"⟩
abbrev cX10_known : ByteArray := prog_12_method_79_code
def yX10_known : MethodName := ⟨RX10, "known", "(I)I"⟩
abbrev cX10_coefficient : ByteArray := prog_12_method_80_code
def yX10_coefficient : MethodName := ⟨RX10, "coefficient", "(II)I"⟩
abbrev cX10_loads : ByteArray := prog_12_method_81_code
def yX10_loads : MethodName := ⟨RX10, "loads", "(II)V"⟩
abbrev cX10_order : ByteArray := prog_12_method_82_code
def yX10_order : MethodName := ⟨RX10, "order", "(I)I"⟩
abbrev cX10_cut : ByteArray := prog_12_method_83_code
def yX10_cut : MethodName := ⟨RX10, "cut", "(II)I"⟩
abbrev cX10_drop : ByteArray := prog_12_method_84_code
def yX10_drop : MethodName := ⟨RX10, "drop", "(I)I"⟩
abbrev cX10_swap : ByteArray := prog_12_method_85_code
def yX10_swap : MethodName := ⟨RX10, "swap", "(II)I"⟩
abbrev cX10_isScript : ByteArray := prog_12_method_86_code
def yX10_isScript : MethodName := ⟨RX10, "isScript", "(I)Z"⟩
abbrev cX10_goes : ByteArray := prog_12_method_87_code
def yX10_goes : MethodName := ⟨RX10, "goes", "(I)I"⟩
abbrev cX10_perform : ByteArray := prog_12_method_88_code
def yX10_perform : MethodName := ⟨RX10, "perform", "(I)I"⟩
abbrev cX10_run : ByteArray := prog_12_method_89_code
def yX10_run : MethodName := ⟨RX10, "run", "(II)I"⟩
abbrev cX10_target : ByteArray := prog_12_method_90_code
def yX10_target : MethodName := ⟨RX10, "target", "(II)I"⟩
abbrev cX10_draw : ByteArray := prog_12_method_91_code
def yX10_draw : MethodName := ⟨RX10, "draw", "(I)I"⟩
abbrev cX10_drawn : ByteArray := prog_12_method_92_code
def yX10_drawn : MethodName := ⟨RX10, "drawn", "()V"⟩
abbrev cX10_many : ByteArray := prog_12_method_93_code
def yX10_many : MethodName := ⟨RX10, "many", "()I"⟩
abbrev cX10_years : ByteArray := prog_12_method_94_code
def yX10_years : MethodName := ⟨RX10, "years", "(IJ)I"⟩
abbrev cX10_status : ByteArray := prog_12_method_95_code
def yX10_status : MethodName := ⟨RX10, "status", "(I)I"⟩
abbrev cX10_undo : ByteArray := prog_12_method_96_code
def yX10_undo : MethodName := ⟨RX10, "undo", "()I"⟩
abbrev cX10_log : ByteArray := prog_12_method_97_code
def yX10_log : MethodName := ⟨RX10, "log", "(II)I"⟩
abbrev cX10_image : ByteArray := prog_12_method_98_code
def yX10_image : MethodName := ⟨RX10, "image", "()I"⟩
abbrev cX10_back : ByteArray := prog_12_method_99_code
def yX10_back : MethodName := ⟨RX10, "back", "()I"⟩
abbrev cX10_alike : ByteArray := prog_12_method_100_code
def yX10_alike : MethodName := ⟨RX10, "alike", "(II)I"⟩
abbrev cX10_value : ByteArray := prog_12_method_101_code
def yX10_value : MethodName := ⟨RX10, "value", "(II)I"⟩
abbrev cX10_newton : ByteArray := prog_12_method_102_code
def yX10_newton : MethodName := ⟨RX10, "newton", "(III)I"⟩
abbrev cX10_laysFour : ByteArray := prog_12_method_103_code
def yX10_laysFour : MethodName := ⟨RX10, "laysFour", "(IIII)Z"⟩
abbrev cX10_laysOne : ByteArray := prog_12_method_104_code
def yX10_laysOne : MethodName := ⟨RX10, "laysOne", "(II)Z"⟩
abbrev cX10_slopeAt : ByteArray := prog_12_method_105_code
def yX10_slopeAt : MethodName := ⟨RX10, "slopeAt", "(I)I"⟩
abbrev cX10_isStart : ByteArray := prog_12_method_106_code
def yX10_isStart : MethodName := ⟨RX10, "isStart", "(I)Z"⟩
abbrev cX10_missing : ByteArray := prog_12_method_107_code
def yX10_missing : MethodName := ⟨RX10, "missing", "(I)I"⟩
abbrev cX10_solve : ByteArray := prog_12_method_108_code
def yX10_solve : MethodName := ⟨RX10, "solve", "(IIIIII)I"⟩
abbrev cX10_starts : ByteArray := prog_12_method_109_code
def yX10_starts : MethodName := ⟨RX10, "starts", "(IIIII)I"⟩
abbrev cX10_grid : ByteArray := prog_12_method_110_code
def yX10_grid : MethodName := ⟨RX10, "grid", "(II)I"⟩
abbrev cX10_clears : ByteArray := prog_12_method_111_code
def yX10_clears : MethodName := ⟨RX10, "clears", "(IIII)V"⟩
abbrev cX10_changes : ByteArray := prog_12_method_112_code
def yX10_changes : MethodName := ⟨RX10, "changes", "(III)V"⟩
abbrev cX10_brings_ : ByteArray := prog_12_method_113_code
def yX10_brings_ : MethodName := ⟨RX10, "brings", "(II)Z"⟩
abbrev cX10_recur : ByteArray := prog_12_method_114_code
def yX10_recur : MethodName := ⟨RX10, "recur", "(II)I"⟩
abbrev cX10_one : ByteArray := prog_12_method_115_code
def yX10_one : MethodName := ⟨RX10, "one", "(I)I"⟩
abbrev cX10_sums : ByteArray := prog_12_method_116_code
def yX10_sums : MethodName := ⟨RX10, "sums", "(II)I"⟩
abbrev cX10_bestOf : ByteArray := prog_12_method_117_code
def yX10_bestOf : MethodName := ⟨RX10, "bestOf", "(Z)I"⟩
abbrev cX10_coefficients : ByteArray := prog_12_method_118_code
def yX10_coefficients : MethodName := ⟨RX10, "coefficients", "(Z)I"⟩
abbrev cX10_greatest : ByteArray := prog_12_method_119_code
def yX10_greatest : MethodName := ⟨RX10, "greatest", "()I"⟩
abbrev cX10_those : ByteArray := prog_12_method_120_code
def yX10_those : MethodName := ⟨RX10, "those", "(Z)I"⟩
abbrev cX10_most : ByteArray := prog_12_method_121_code
def yX10_most : MethodName := ⟨RX10, "most", "(I)I"⟩
abbrev cX10_count : ByteArray := prog_12_method_122_code
def yX10_count : MethodName := ⟨RX10, "count", "(I)I"⟩
def RJ6 : String := "java/lang/Integer"
abbrev cJ6_bitCount_0f7a4 : ByteArray := prog_17_method_49_code
def yJ6_bitCount_0f7a4 : MethodName := ⟨RJ6, "bitCount", "(I)I"⟩
def RJ9 : String := "java/lang/Math"
abbrev cJ9_max_7cf53 : ByteArray := prog_18_method_65_code
def yJ9_max_7cf53 : MethodName := ⟨RJ9, "max", "(II)I"⟩
abbrev cJ9_min_7cf53 : ByteArray := prog_18_method_69_code
def yJ9_min_7cf53 : MethodName := ⟨RJ9, "min", "(II)I"⟩
def RJ0 : String := "java/lang/String"
abbrev cJ0_length_8abf5 : ByteArray := prog_20_method_54_code
def yJ0_length_8abf5 : MethodName := ⟨RJ0, "length", "()I"⟩
abbrev cJ0_charAt_5068e : ByteArray := prog_20_method_56_code
def yJ0_charAt_5068e : MethodName := ⟨RJ0, "charAt", "(I)C"⟩
abbrev cJ0_coder_7d493 : ByteArray := prog_20_method_152_code
def yJ0_coder_7d493 : MethodName := ⟨RJ0, "coder", "()B"⟩
abbrev cJ0_isLatin1_aae02 : ByteArray := prog_20_method_154_code
def yJ0_isLatin1_aae02 : MethodName := ⟨RJ0, "isLatin1", "()Z"⟩
abbrev cJ0_checkIndex_df160 : ByteArray := prog_20_method_155_code
def yJ0_checkIndex_df160 : MethodName := ⟨RJ0, "checkIndex", "(II)V"⟩
def RJ1 : String := "java/lang/StringLatin1"
abbrev cJ1_charAt_3b067 : ByteArray := prog_21_method_2_code
def yJ1_charAt_3b067 : MethodName := ⟨RJ1, "charAt", "([BI)C"⟩
def RJ7 : String := "java/util/Arrays"
abbrev cJ7_fill_53178 : ByteArray := prog_27_method_103_code
def yJ7_fill_53178 : MethodName := ⟨RJ7, "fill", "([II)V"⟩
def RL : String := "SeriesDeskLaw"
abbrev cL_coefficient : ByteArray := method_3_code
def yL_coefficient : MethodName := ⟨RL, "coefficient", "(LSeriesDesk;II[J)I"⟩
abbrev cL_law : ByteArray := code
def yL_law : MethodName := ⟨RL, "law", "([I)Z"⟩
end
section
/-! the abstract machine's program: an instruction, its length, and what its pool index comes to: numbers of classes, fields, methods, targets, types -/
abbrev qE : Type := Instr × Nat × Nat × Nat × Nat
abbrev qe (i : Instr) (n : Nat) : Option qE := some (i, n, 0, 0, 0)
abbrev qt (i : Instr) (n a : Nat) : Option qE := some (i, n, a, 0, 0)
abbrev qf (i : Instr) (a b t : Nat) : Option qE := some (i, 3, a, b, t)
abbrev qn : Option qE := none
def qp0 : List (List (Option qE)) := [[qe (.aload_n 0) 1, qf (.invokespecial 3) 1000 0 2, qn, qn, qe (.aload_n 0) 1, qe (.bipush 24) 2, qn, qe (.newarray .int) 2, qn, qf (.putfield 9) 0 0 2, qn, qn, qe (.aload_n 0) 1, qf (.new 15) 6 2 0],
  [qe .dup 1, qf (.invokespecial 17) 72 0 2, qn, qn, qf (.putfield 18) 0 1 2, qn, qn, qe (.aload_n 0) 1, qf (.new 15) 6 2 0, qn, qn, qe .dup 1, qf (.invokespecial 17) 72 0 2, qn, qn, qf (.putfield 22) 0 2 2],
  [qn, qn, qe (.aload_n 0) 1, qf (.new 15) 6 2 0, qn, qn, qe .dup 1, qf (.invokespecial 17) 72 0 2, qn, qn, qf (.putfield 25) 0 3 2, qn, qn, qe (.aload_n 0) 1, qf (.new 15) 6 2 0],
  [qn, qe .dup 1, qf (.invokespecial 17) 72 0 2, qn, qn, qf (.putfield 28) 0 4 2, qn, qn, qe (.aload_n 0) 1, qf (.new 15) 6 2 0, qn, qn, qe .dup 1, qf (.invokespecial 17) 72 0 2],
  [qf (.putfield 31) 0 5 2, qn, qn, qe (.aload_n 0) 1, qe (.iconst 4) 1, qt (.anewarray 15) 3 103, qn, qn, qe .dup 1, qe (.iconst 0) 1, qf (.new 15) 6 2 0, qn, qn, qe .dup 1, qf (.invokespecial 17) 72 0 2],
  [qn, qe .aastore 1, qe .dup 1, qe (.iconst 1) 1, qf (.new 15) 6 2 0, qn, qn, qe .dup 1, qf (.invokespecial 17) 72 0 2, qn, qn, qe .aastore 1, qe .dup 1, qe (.iconst 2) 1, qf (.new 15) 6 2 0],
  [qn, qe .dup 1, qf (.invokespecial 17) 72 0 2, qn, qn, qe .aastore 1, qe .dup 1, qe (.iconst 3) 1, qf (.new 15) 6 2 0, qn, qn, qe .dup 1, qf (.invokespecial 17) 72 0 2, qn, qn, qe .aastore 1],
  [qf (.putfield 34) 0 6 2, qn, qn, qe (.aload_n 0) 1, qe (.iconst 2) 1, qf (.putfield 38) 0 7 0, qn, qn, qe (.aload_n 0) 1, qe (.iconst 2) 1, qf (.putfield 42) 0 8 0, qn, qn, qe .return_ 1]]
def qp1 : List (List (Option qE)) := [[qe (.iload_n 1) 1, qe (.iconst 2) 1, qt (.if_icmp .lt 24) 3 26, qn, qn, qe (.iload_n 2) 1, qe (.iconst 2) 1, qt (.if_icmp .lt 19) 3 26, qn, qn, qe (.iload_n 2) 1, qe (.bipush 24) 2, qn, qt (.if_icmp .gt 13) 3 26],
  [qe (.aload_n 0) 1, qe (.iload_n 1) 1, qf (.putfield 38) 0 7 0, qn, qn, qe (.aload_n 0) 1, qe (.iload_n 2) 1, qf (.putfield 42) 0 8 0, qn, qn, qe .return_ 1]]
def qp2 : List (List (Option qE)) := [[qe (.iload_n 1) 1, qe (.aload_n 0) 1, qf (.getfield 38) 0 7 0, qn, qn, qe .irem 1, qe .ireturn 1]]
def qp3 : List (List (Option qE)) := [[qe (.iconst 1) 1, qe (.istore_n 2) 1, qe (.iload_n 1) 1, qe (.aload_n 0) 1, qf (.getfield 38) 0 7 0, qn, qn, qe .irem 1, qe (.istore_n 3) 1, qe (.aload_n 0) 1, qf (.getfield 38) 0 7 0, qn, qn, qe (.iconst 2) 1, qe .isub 1, qe (.istore 4) 2],
  [qn, qe (.iload 4) 2, qn, qt (.ifCond .le 38) 3 57, qn, qn, qe (.iload 4) 2, qn, qe (.iconst 1) 1, qe .iand 1, qe (.iconst 1) 1, qt (.if_icmp .ne 12) 3 39, qn, qn, qe (.iload_n 2) 1, qe (.iload_n 3) 1],
  [qe .imul 1, qe (.aload_n 0) 1, qf (.getfield 38) 0 7 0, qn, qn, qe .irem 1, qe (.istore_n 2) 1, qe (.iload_n 3) 1, qe (.iload_n 3) 1, qe .imul 1, qe (.aload_n 0) 1, qf (.getfield 38) 0 7 0, qn, qn, qe .irem 1, qe (.istore_n 3) 1],
  [qe (.iload 4) 2, qn, qe (.iconst 1) 1, qe .ishr 1, qe (.istore 4) 2, qn, qt (.goto (-37)) 3 17, qn, qn, qe (.iload_n 2) 1, qe .ireturn 1]]
def qp4 : List (List (Option qE)) := [[qe (.iconst 1) 1, qe (.istore 4) 2, qn, qe (.iconst 0) 1, qe (.istore 5) 2, qn, qe (.iload 5) 2, qn, qe (.iload_n 2) 1, qt (.if_icmp .ge 20) 3 29, qn, qn, qe (.iload 4) 2, qn, qe (.iload_n 1) 1, qe .imul 1],
  [qe (.aload_n 0) 1, qf (.getfield 38) 0 7 0, qn, qn, qe .irem 1, qe (.istore 4) 2, qn, qe (.iinc 5 1) 3, qn, qn, qt (.goto (-20)) 3 6, qn, qn, qe (.iload 4) 2, qn, qe (.iload_n 3) 1],
  [qt (.if_icmp .ne 7) 3 39, qn, qn, qe (.iconst 1) 1, qt (.goto 4) 3 40, qn, qn, qe (.iconst 0) 1, some (.ireturn, 1, 0, 0, 3)]]
def qp5 : List (List (Option qE)) := [[qe (.aload_n 1) 1, qf (.getfield 45) 6 0 2, qn, qn, qe (.iconst 0) 1, qf (.invokestatic 48) 268 2 1, qn, qn, qe (.aload_n 1) 1, qf (.getfield 45) 6 0 2, qn, qn, qe (.iconst 0) 1, qe (.iload_n 2) 1, qe (.aload_n 0) 1, qf (.getfield 38) 0 7 0],
  [qn, qn, qe .irem 1, qe .iastore 1, qe (.aload_n 1) 1, qe (.aload_n 0) 1, qf (.getfield 42) 0 8 0, qn, qn, qf (.putfield 54) 6 1 0, qn, qn, qe .return_ 1]]
def qp6 : List (List (Option qE)) := [[qe (.aload_n 0) 1, qe (.aload_n 1) 1, qe (.iconst 0) 1, qf (.invokevirtual 57) 5 2 0, qn, qn, qe (.aload_n 1) 1, qf (.getfield 45) 6 0 2, qn, qn, qe (.iconst 1) 1, qe (.iconst 1) 1, qe .iastore 1, qe .return_ 1]]
def qp7 : List (List (Option qE)) := [[qe (.aload_n 1) 1, qe (.aload_n 1) 1, qf (.getfield 54) 6 1 0, qn, qn, qe (.aload_n 2) 1, qf (.getfield 54) 6 1 0, qn, qn, qf (.invokestatic 61) 1001 2 1, qn, qn, qf (.putfield 54) 6 1 0, qn, qn, qe (.iconst 0) 1],
  [qe (.istore 4) 2, qn, qe (.iload 4) 2, qn, qe (.aload_n 1) 1, qf (.getfield 54) 6 1 0, qn, qn, qt (.if_icmp .ge 38) 3 62, qn, qn, qe (.aload_n 1) 1, qf (.getfield 45) 6 0 2, qn, qn, qe (.iload 4) 2],
  [qn, qe (.aload_n 1) 1, qf (.getfield 45) 6 0 2, qn, qn, qe (.iload 4) 2, qn, qe .iaload 1, qe (.iload_n 3) 1, qe (.aload_n 2) 1, qf (.getfield 45) 6 0 2, qn, qn, qe (.iload 4) 2, qn, qe .iaload 1],
  [qe .imul 1, qe .iadd 1, qe (.aload_n 0) 1, qf (.getfield 38) 0 7 0, qn, qn, qe .irem 1, qe .iastore 1, qe (.iinc 4 1) 3, qn, qn, qt (.goto (-41)) 3 18, qn, qn, qe .return_ 1]]
def qp8 : List (List (Option qE)) := [[qe (.aload_n 1) 1, qe (.aload_n 2) 1, qf (.getfield 54) 6 1 0, qn, qn, qf (.invokevirtual 67) 75 1 0, qn, qn, qe (.iconst 0) 1, qe (.istore_n 3) 1, qe (.iload_n 3) 1, qe (.aload_n 1) 1, qf (.getfield 54) 6 1 0, qn, qn, qt (.if_icmp .ge 33) 3 48],
  [qn, qn, qe (.aload_n 1) 1, qf (.getfield 45) 6 0 2, qn, qn, qe (.iload_n 3) 1, qe (.aload_n 1) 1, qf (.getfield 45) 6 0 2, qn, qn, qe (.iload_n 3) 1, qe .iaload 1, qe (.aload_n 2) 1, qf (.getfield 45) 6 0 2],
  [qn, qe (.iload_n 3) 1, qe .iaload 1, qe .imul 1, qe (.aload_n 0) 1, qf (.getfield 38) 0 7 0, qn, qn, qe .irem 1, qe .iastore 1, qe (.iinc 3 1) 3, qn, qn, qt (.goto (-35)) 3 10],
  [qe .return_ 1]]
def qp9 : List (List (Option qE)) := [[qe (.aload_n 1) 1, qt (.invokevirtual 71) 3 73, qn, qn, qe (.istore_n 3) 1, qe (.aload_n 1) 1, qf (.getfield 54) 6 1 0, qn, qn, qe (.istore 4) 2, qn, qe (.aload_n 2) 1, qf (.getfield 54) 6 1 0, qn, qn, qe (.istore 5) 2],
  [qn, qe (.aload_n 0) 1, qf (.getfield 42) 0 8 0, qn, qn, qe (.iload_n 3) 1, qe (.iload 5) 2, qn, qe .iadd 1, qe (.aload_n 2) 1, qt (.invokevirtual 71) 3 73, qn, qn, qe (.iload 4) 2, qn, qe .iadd 1],
  [qf (.invokestatic 61) 1001 2 1, qn, qn, qf (.invokestatic 61) 1001 2 1, qn, qn, qe (.istore 6) 2, qn, qe (.iload 6) 2, qn, qe (.iconst 1) 1, qe .isub 1, qe (.istore 7) 2, qn, qe (.iload 7) 2],
  [qt (.ifCond .lt 86) 3 134, qn, qn, qe (.iconst 0) 1, qe (.istore 8) 2, qn, qe (.iload 7) 2, qn, qe (.iload 4) 2, qn, qe (.iconst 1) 1, qe .isub 1, qf (.invokestatic 61) 1001 2 1, qn, qn, qe (.istore 9) 2],
  [qn, qe (.iload_n 3) 1, qe (.iload 7) 2, qn, qe (.iload 5) 2, qn, qe .isub 1, qe (.iconst 1) 1, qe .iadd 1, qf (.invokestatic 75) 1002 2 1, qn, qn, qe (.istore 10) 2, qn, qe (.iload 10) 2],
  [qe (.iload 9) 2, qn, qt (.if_icmp .gt 32) 3 114, qn, qn, qe (.iload 8) 2, qn, qe (.aload_n 1) 1, qf (.getfield 45) 6 0 2, qn, qn, qe (.iload 10) 2, qn, qe .iaload 1, qe (.aload_n 2) 1, qf (.getfield 45) 6 0 2],
  [qn, qn, qe (.iload 7) 2, qn, qe (.iload 10) 2, qn, qe .isub 1, qe .iaload 1, qe .imul 1, qe .iadd 1, qe (.istore 8) 2, qn, qe (.iinc 10 1) 3, qn, qn, qt (.goto (-33)) 3 78],
  [qn, qn, qe (.aload_n 1) 1, qf (.getfield 45) 6 0 2, qn, qn, qe (.iload 7) 2, qn, qe (.iload 8) 2, qn, qe (.aload_n 0) 1, qf (.getfield 38) 0 7 0, qn, qn, qe .irem 1, qe .iastore 1],
  [qe (.iinc 7 (-1)) 3, qn, qn, qt (.goto (-85)) 3 46, qn, qn, qe (.aload_n 1) 1, qe (.iload 6) 2, qn, qf (.putfield 54) 6 1 0, qn, qn, qe .return_ 1]]
def qp10 : List (List (Option qE)) := [[qe (.aload_n 0) 1, qf (.getfield 22) 0 2 2, qn, qn, qe (.aload_n 1) 1, qf (.invokevirtual 78) 74 1 0, qn, qn, qe (.aload_n 0) 1, qe (.aload_n 1) 1, qe (.iconst 1) 1, qf (.invokevirtual 57) 5 2 0, qn, qn, qe (.iload_n 2) 1, qe (.istore_n 3) 1],
  [qe (.iload_n 3) 1, qt (.ifCond .le 43) 3 60, qn, qn, qe (.iload_n 3) 1, qe (.iconst 1) 1, qe .iand 1, qe (.iconst 1) 1, qt (.if_icmp .ne 12) 3 36, qn, qn, qe (.aload_n 0) 1, qe (.aload_n 1) 1, qe (.aload_n 0) 1, qf (.getfield 22) 0 2 2],
  [qn, qf (.invokevirtual 82) 9 2 0, qn, qn, qe (.iload_n 3) 1, qe (.iconst 1) 1, qt (.if_icmp .le 15) 3 53, qn, qn, qe (.aload_n 0) 1, qe (.aload_n 0) 1, qf (.getfield 22) 0 2 2, qn, qn, qe (.aload_n 0) 1, qf (.getfield 22) 0 2 2],
  [qn, qn, qf (.invokevirtual 82) 9 2 0, qn, qn, qe (.iload_n 3) 1, qe (.iconst 1) 1, qe .ishr 1, qe (.istore_n 3) 1, qt (.goto (-41)) 3 16, qn, qn, qe .return_ 1]]
def qp11 : List (List (Option qE)) := [[qe (.aload_n 0) 1, qe (.aload_n 1) 1, qf (.getfield 45) 6 0 2, qn, qn, qe (.iconst 0) 1, qe .iaload 1, qf (.invokevirtual 86) 3 1 0, qn, qn, qe (.istore_n 2) 1, qe (.aload_n 0) 1, qf (.getfield 9) 0 0 2, qn, qn, qe (.iconst 0) 1],
  [qe (.iload_n 2) 1, qe .iastore 1, qe (.iconst 1) 1, qe (.istore_n 3) 1, qe (.iload_n 3) 1, qe (.aload_n 1) 1, qf (.getfield 54) 6 1 0, qn, qn, qt (.if_icmp .ge 74) 3 99, qn, qn, qe (.iconst 0) 1, qe (.istore 4) 2, qn, qe (.iconst 1) 1],
  [qe (.istore 5) 2, qn, qe (.iload 5) 2, qn, qe (.iload_n 3) 1, qt (.if_icmp .gt 31) 3 68, qn, qn, qe (.iload 4) 2, qn, qe (.aload_n 1) 1, qf (.getfield 45) 6 0 2, qn, qn, qe (.iload 5) 2],
  [qe .iaload 1, qe (.aload_n 0) 1, qf (.getfield 9) 0 0 2, qn, qn, qe (.iload_n 3) 1, qe (.iload 5) 2, qn, qe .isub 1, qe .iaload 1, qe .imul 1, qe .iadd 1, qe (.istore 4) 2, qn, qe (.iinc 5 1) 3],
  [qn, qt (.goto (-31)) 3 34, qn, qn, qe (.aload_n 0) 1, qf (.getfield 9) 0 0 2, qn, qn, qe (.iload_n 3) 1, qe (.aload_n 0) 1, qf (.getfield 38) 0 7 0, qn, qn, qe (.iload 4) 2, qn, qe (.aload_n 0) 1],
  [qf (.getfield 38) 0 7 0, qn, qn, qe .irem 1, qe .isub 1, qe (.iload_n 2) 1, qe .imul 1, qe (.aload_n 0) 1, qf (.getfield 38) 0 7 0, qn, qn, qe .irem 1, qe .iastore 1, qe (.iinc 3 1) 3],
  [qt (.goto (-76)) 3 20, qn, qn, qe (.aload_n 0) 1, qf (.getfield 9) 0 0 2, qn, qn, qe (.iconst 0) 1, qe (.aload_n 1) 1, qf (.getfield 45) 6 0 2, qn, qn, qe (.iconst 0) 1, qe (.aload_n 1) 1, qf (.getfield 54) 6 1 0],
  [qn, qf (.invokestatic 90) 1003 5 1, qn, qn, qe .return_ 1]]
def qp12 : List (List (Option qE)) := [[qe (.aload_n 2) 1, qt (.invokevirtual 71) 3 73, qn, qn, qe (.istore_n 3) 1, qe (.iload_n 3) 1, qe (.aload_n 2) 1, qf (.getfield 54) 6 1 0, qn, qn, qt (.if_icmp .eq 11) 3 21, qn, qn, qe (.iload_n 3) 1, qe (.aload_n 1) 1, qt (.invokevirtual 71) 3 73],
  [qn, qn, qt (.if_icmp .le 5) 3 23, qn, qn, qe (.iconst 2) 1, qe .ireturn 1, qe (.iload_n 3) 1, qe (.aload_n 1) 1, qf (.getfield 54) 6 1 0, qn, qn, qt (.if_icmp .ne 5) 3 33, qn, qn, qe (.iconst 5) 1],
  [qe .ireturn 1, qe (.aload_n 1) 1, qe (.iload_n 3) 1, qf (.invokevirtual 96) 77 1 0, qn, qn, qe (.aload_n 2) 1, qe (.iload_n 3) 1, qf (.invokevirtual 96) 77 1 0, qn, qn, qe (.aload_n 0) 1, qe (.aload_n 2) 1, qf (.invokevirtual 99) 11 1 0],
  [qe (.aload_n 0) 1, qe (.aload_n 1) 1, qe (.aload_n 2) 1, qf (.invokevirtual 82) 9 2 0, qn, qn, qe (.iconst (-1)) 1, qe .ireturn 1]]
def qp13 : List (List (Option qE)) := [[qe (.aload_n 1) 1, qf (.getfield 54) 6 1 0, qn, qn, qe (.iconst 2) 1, qt (.if_icmp .ge 5) 3 10, qn, qn, qe (.iconst 5) 1, qe .ireturn 1, qe (.iconst 1) 1, qe (.istore_n 2) 1, qe (.iload_n 2) 1, qe (.aload_n 1) 1, qf (.getfield 54) 6 1 0],
  [qn, qt (.if_icmp .ge 30) 3 47, qn, qn, qe (.aload_n 1) 1, qf (.getfield 45) 6 0 2, qn, qn, qe (.iload_n 2) 1, qe (.iconst 1) 1, qe .isub 1, qe (.aload_n 1) 1, qf (.getfield 45) 6 0 2, qn, qn, qe (.iload_n 2) 1],
  [qe .iaload 1, qe (.iload_n 2) 1, qe .imul 1, qe (.aload_n 0) 1, qf (.getfield 38) 0 7 0, qn, qn, qe .irem 1, qe .iastore 1, qe (.iinc 2 1) 3, qn, qn, qt (.goto (-32)) 3 12, qn, qn, qe (.aload_n 1) 1],
  [qe .dup 1, qf (.getfield 54) 6 1 0, qn, qn, qe (.iconst 1) 1, qe .isub 1, qf (.putfield 54) 6 1 0, qn, qn, qe (.iconst (-1)) 1, qe .ireturn 1]]
def qp14 : List (List (Option qE)) := [[qe (.aload_n 1) 1, qf (.getfield 54) 6 1 0, qn, qn, qe (.iconst 1) 1, qe .iadd 1, qe (.aload_n 0) 1, qf (.getfield 42) 0 8 0, qn, qn, qf (.invokestatic 61) 1001 2 1, qn, qn, qe (.istore_n 2) 1, qe (.aload_n 0) 1, qf (.getfield 38) 0 7 0],
  [qn, qn, qe (.iload_n 2) 1, qt (.if_icmp .ge 24) 3 43, qn, qn, qe (.aload_n 1) 1, qf (.getfield 45) 6 0 2, qn, qn, qe (.aload_n 0) 1, qf (.getfield 38) 0 7 0, qn, qn, qe (.iconst 1) 1, qe .isub 1],
  [qe .iaload 1, qt (.ifCond .eq 5) 3 38, qn, qn, qe (.iconst 3) 1, qe .ireturn 1, qe (.aload_n 0) 1, qf (.getfield 38) 0 7 0, qn, qn, qe (.istore_n 2) 1, qe (.iload_n 2) 1, qe (.iconst 1) 1, qe .isub 1, qe (.istore_n 3) 1, qe (.iload_n 3) 1],
  [qe (.iconst 1) 1, qt (.if_icmp .lt 34) 3 83, qn, qn, qe (.aload_n 1) 1, qf (.getfield 45) 6 0 2, qn, qn, qe (.iload_n 3) 1, qe (.aload_n 1) 1, qf (.getfield 45) 6 0 2, qn, qn, qe (.iload_n 3) 1, qe (.iconst 1) 1, qe .isub 1],
  [qe .iaload 1, qe (.aload_n 0) 1, qe (.iload_n 3) 1, qf (.invokevirtual 86) 3 1 0, qn, qn, qe .imul 1, qe (.aload_n 0) 1, qf (.getfield 38) 0 7 0, qn, qn, qe .irem 1, qe .iastore 1, qe (.iinc 3 (-1)) 3],
  [qt (.goto (-33)) 3 47, qn, qn, qe (.aload_n 1) 1, qf (.getfield 45) 6 0 2, qn, qn, qe (.iconst 0) 1, qe (.iconst 0) 1, qe .iastore 1, qe (.aload_n 1) 1, qe (.iload_n 2) 1, qf (.putfield 54) 6 1 0, qn, qn, qe (.iconst (-1)) 1],
  [qe .ireturn 1]]
def qp15 : List (List (Option qE)) := [[qe (.aload_n 1) 1, qf (.getfield 45) 6 0 2, qn, qn, qe (.iconst 0) 1, qe .iaload 1, qe (.iconst 1) 1, qt (.if_icmp .eq 5) 3 12, qn, qn, qe (.iconst 2) 1, qe .ireturn 1, qe (.aload_n 1) 1, qf (.getfield 54) 6 1 0],
  [qe (.iconst 1) 1, qt (.if_icmp .ne 12) 3 29, qn, qn, qe (.aload_n 1) 1, qf (.getfield 45) 6 0 2, qn, qn, qe (.iconst 0) 1, qe (.iconst 0) 1, qe .iastore 1, qe (.iconst (-1)) 1, qe .ireturn 1, qe (.aload_n 0) 1, qf (.getfield 28) 0 4 2],
  [qn, qe (.aload_n 1) 1, qf (.invokevirtual 78) 74 1 0, qn, qn, qe (.aload_n 0) 1, qe (.aload_n 0) 1, qf (.getfield 28) 0 4 2, qn, qn, qf (.invokevirtual 99) 11 1 0, qn, qn, qe (.aload_n 0) 1, qe (.aload_n 1) 1, qf (.invokevirtual 102) 13 1 0],
  [qn, qn, qe .pop 1, qe (.aload_n 0) 1, qe (.aload_n 1) 1, qe (.aload_n 0) 1, qf (.getfield 28) 0 4 2, qn, qn, qf (.invokevirtual 82) 9 2 0, qn, qn, qe (.aload_n 0) 1, qe (.aload_n 1) 1, qf (.invokevirtual 106) 14 1 0],
  [qn, qe .ireturn 1]]
def qp16 : List (List (Option qE)) := [[qe (.aload_n 1) 1, qf (.getfield 45) 6 0 2, qn, qn, qe (.iconst 0) 1, qe .iaload 1, qt (.ifCond .eq 5) 3 11, qn, qn, qe (.iconst 2) 1, qe .ireturn 1, qe (.aload_n 1) 1, qe (.aload_n 0) 1, qf (.getfield 38) 0 7 0],
  [qf (.invokevirtual 67) 75 1 0, qn, qn, qe (.aload_n 0) 1, qf (.getfield 9) 0 0 2, qn, qn, qe (.iconst 0) 1, qe (.iconst 1) 1, qe .iastore 1, qe (.iconst 1) 1, qe (.istore_n 2) 1, qe (.iload_n 2) 1, qe (.aload_n 1) 1, qf (.getfield 54) 6 1 0],
  [qn, qt (.if_icmp .ge 77) 3 110, qn, qn, qe (.iconst 0) 1, qe (.istore_n 3) 1, qe (.iconst 1) 1, qe (.istore 4) 2, qn, qe (.iload 4) 2, qn, qe (.iload_n 2) 1, qt (.if_icmp .gt 37) 3 81, qn, qn, qe (.iload_n 3) 1],
  [qe (.iload 4) 2, qn, qe (.aload_n 1) 1, qf (.getfield 45) 6 0 2, qn, qn, qe (.iload 4) 2, qn, qe .iaload 1, qe .imul 1, qe (.aload_n 0) 1, qf (.getfield 38) 0 7 0, qn, qn, qe .irem 1, qe (.aload_n 0) 1],
  [qf (.getfield 9) 0 0 2, qn, qn, qe (.iload_n 2) 1, qe (.iload 4) 2, qn, qe .isub 1, qe .iaload 1, qe .imul 1, qe .iadd 1, qe (.istore_n 3) 1, qe (.iinc 4 1) 3, qn, qn, qt (.goto (-37)) 3 41],
  [qn, qe (.aload_n 0) 1, qf (.getfield 9) 0 0 2, qn, qn, qe (.iload_n 2) 1, qe (.iload_n 3) 1, qe (.aload_n 0) 1, qf (.getfield 38) 0 7 0, qn, qn, qe .irem 1, qe (.aload_n 0) 1, qe (.iload_n 2) 1, qf (.invokevirtual 86) 3 1 0],
  [qn, qe .imul 1, qe (.aload_n 0) 1, qf (.getfield 38) 0 7 0, qn, qn, qe .irem 1, qe .iastore 1, qe (.iinc 2 1) 3, qn, qn, qt (.goto (-79)) 3 28, qn, qn, qe (.aload_n 0) 1, qf (.getfield 9) 0 0 2],
  [qn, qn, qe (.iconst 0) 1, qe (.aload_n 1) 1, qf (.getfield 45) 6 0 2, qn, qn, qe (.iconst 0) 1, qe (.aload_n 1) 1, qf (.getfield 54) 6 1 0, qn, qn, qf (.invokestatic 90) 1003 5 1, qn, qn, qe (.iconst (-1)) 1],
  [qe .ireturn 1]]
def qp17 : List (List (Option qE)) := [[qe (.aload_n 1) 1, qf (.getfield 54) 6 1 0, qn, qn, qe (.iconst 2) 1, qt (.if_icmp .lt 21) 3 26, qn, qn, qe (.aload_n 1) 1, qf (.getfield 45) 6 0 2, qn, qn, qe (.iconst 0) 1, qe .iaload 1, qt (.ifCond .ne 12) 3 26],
  [qn, qe (.aload_n 1) 1, qf (.getfield 45) 6 0 2, qn, qn, qe (.iconst 1) 1, qe .iaload 1, qt (.ifCond .ne 5) 3 28, qn, qn, qe (.iconst 2) 1, qe .ireturn 1, qe (.aload_n 0) 1, qf (.getfield 9) 0 0 2],
  [qe (.iconst 0) 1, qf (.invokestatic 48) 268 2 1, qn, qn, qe (.aload_n 0) 1, qf (.getfield 9) 0 0 2, qn, qn, qe (.iconst 1) 1, qe (.iconst 1) 1, qe .iastore 1, qe (.aload_n 0) 1, qe (.aload_n 1) 1, qf (.getfield 45) 6 0 2],
  [qe (.iconst 1) 1, qe .iaload 1, qf (.invokevirtual 86) 3 1 0, qn, qn, qe (.istore_n 2) 1, qe (.iconst 1) 1, qe (.istore_n 3) 1, qe (.aload_n 0) 1, qf (.getfield 25) 0 3 2, qn, qn, qf (.getfield 45) 6 0 2, qn, qn, qe (.iconst 0) 1],
  [qe (.iconst 0) 1, qe .iastore 1, qe (.aload_n 0) 1, qe (.aload_n 0) 1, qf (.getfield 18) 0 1 2, qn, qn, qe (.iconst 1) 1, qf (.invokevirtual 57) 5 2 0, qn, qn, qe (.iconst 1) 1, qe (.istore 4) 2, qn, qe (.iload 4) 2],
  [qe (.aload_n 1) 1, qf (.getfield 54) 6 1 0, qn, qn, qt (.if_icmp .ge 126) 3 210, qn, qn, qe (.aload_n 0) 1, qe (.aload_n 0) 1, qf (.getfield 18) 0 1 2, qn, qn, qe (.aload_n 1) 1, qf (.invokevirtual 82) 9 2 0],
  [qe (.aload_n 0) 1, qf (.getfield 18) 0 1 2, qn, qn, qe (.aload_n 1) 1, qf (.getfield 54) 6 1 0, qn, qn, qf (.invokevirtual 67) 75 1 0, qn, qn, qe (.iload_n 3) 1, qe (.iload_n 2) 1, qe .imul 1, qe (.aload_n 0) 1, qf (.getfield 38) 0 7 0],
  [qn, qn, qe .irem 1, qe (.istore_n 3) 1, qe (.aload_n 0) 1, qf (.getfield 9) 0 0 2, qn, qn, qe (.iload 4) 2, qn, qe .iaload 1, qe (.iload_n 3) 1, qe .imul 1, qe (.aload_n 0) 1, qf (.getfield 38) 0 7 0],
  [qn, qe .irem 1, qe (.istore 5) 2, qn, qe (.aload_n 0) 1, qf (.getfield 25) 0 3 2, qn, qn, qf (.getfield 45) 6 0 2, qn, qn, qe (.iload 4) 2, qn, qe (.iload 5) 2, qn, qe .iastore 1],
  [qe (.iload 4) 2, qn, qe (.istore 6) 2, qn, qe (.iload 6) 2, qn, qe (.aload_n 0) 1, qf (.getfield 18) 0 1 2, qn, qn, qf (.getfield 54) 6 1 0, qn, qn, qt (.if_icmp .ge 47) 3 204],
  [qe (.aload_n 0) 1, qf (.getfield 9) 0 0 2, qn, qn, qe (.iload 6) 2, qn, qe (.aload_n 0) 1, qf (.getfield 9) 0 0 2, qn, qn, qe (.iload 6) 2, qn, qe .iaload 1, qe (.aload_n 0) 1, qf (.getfield 38) 0 7 0],
  [qn, qe (.iload 5) 2, qn, qe .isub 1, qe (.aload_n 0) 1, qf (.getfield 18) 0 1 2, qn, qn, qf (.getfield 45) 6 0 2, qn, qn, qe (.iload 6) 2, qn, qe .iaload 1, qe .imul 1, qe .iadd 1],
  [qe (.aload_n 0) 1, qf (.getfield 38) 0 7 0, qn, qn, qe .irem 1, qe .iastore 1, qe (.iinc 6 1) 3, qn, qn, qt (.goto (-53)) 3 148, qn, qn, qe (.iinc 4 1) 3, qn, qn, qt (.goto (-129)) 3 78],
  [qn, qn, qe (.aload_n 0) 1, qf (.getfield 25) 0 3 2, qn, qn, qe (.aload_n 1) 1, qf (.getfield 54) 6 1 0, qn, qn, qf (.putfield 54) 6 1 0, qn, qn, qe (.aload_n 1) 1, qe (.aload_n 0) 1, qf (.getfield 25) 0 3 2],
  [qn, qn, qf (.invokevirtual 78) 74 1 0, qn, qn, qe (.iconst (-1)) 1, qe .ireturn 1]]
def qp18 : List (List (Option qE)) := [[qe (.aload_n 1) 1, qf (.getfield 45) 6 0 2, qn, qn, qe (.iconst 0) 1, qe .iaload 1, qt (.ifCond .ne 5) 3 11, qn, qn, qe (.iconst 2) 1, qe .ireturn 1, qe (.iload_n 2) 1, qe (.aload_n 0) 1, qf (.getfield 38) 0 7 0],
  [qe .irem 1, qt (.ifCond .ne 5) 3 22, qn, qn, qe (.iconst 3) 1, qe .ireturn 1, qe (.iconst 1) 1, qe (.istore_n 3) 1, qe (.iload_n 3) 1, qe (.aload_n 0) 1, qf (.getfield 38) 0 7 0, qn, qn, qt (.if_icmp .ge 24) 3 53],
  [qe (.aload_n 0) 1, qe (.iload_n 3) 1, qe (.iload_n 2) 1, qe (.aload_n 1) 1, qf (.getfield 45) 6 0 2, qn, qn, qe (.iconst 0) 1, qe .iaload 1, qf (.invokevirtual 109) 4 3 0, qn, qn, qt (.ifCond .ne 9) 3 53, qn, qn, qe (.iinc 3 1) 3],
  [qn, qn, qt (.goto (-26)) 3 24, qn, qn, qe (.iload_n 3) 1, qe (.aload_n 0) 1, qf (.getfield 38) 0 7 0, qn, qn, qt (.if_icmp .lt 5) 3 63, qn, qn, qe (.iconst 4) 1, qe .ireturn 1, qe (.aload_n 0) 1],
  [qf (.getfield 25) 0 3 2, qn, qn, qe (.iconst 1) 1, qf (.putfield 54) 6 1 0, qn, qn, qe (.aload_n 0) 1, qf (.getfield 25) 0 3 2, qn, qn, qf (.getfield 45) 6 0 2, qn, qn, qe (.iconst 0) 1, qe (.iload_n 3) 1],
  [qe .iastore 1, qe (.iconst 1) 1, qe (.istore 4) 2, qn, qe (.iload 4) 2, qn, qe (.aload_n 1) 1, qf (.getfield 54) 6 1 0, qn, qn, qt (.if_icmp .ge 103) 3 193, qn, qn, qe (.aload_n 0) 1, qf (.getfield 25) 0 3 2],
  [qn, qe (.iconst 2) 1, qe (.iload 4) 2, qn, qe .imul 1, qe (.aload_n 1) 1, qf (.getfield 54) 6 1 0, qn, qn, qf (.invokestatic 61) 1001 2 1, qn, qn, qf (.invokevirtual 113) 76 1 0, qn, qn, qe (.aload_n 0) 1],
  [qf (.getfield 31) 0 5 2, qn, qn, qe (.aload_n 0) 1, qf (.getfield 25) 0 3 2, qn, qn, qf (.invokevirtual 78) 74 1 0, qn, qn, qe (.aload_n 0) 1, qe (.aload_n 0) 1, qf (.getfield 31) 0 5 2, qn, qn, qe (.iload_n 2) 1],
  [qe (.iconst 1) 1, qe .isub 1, qf (.invokevirtual 116) 10 2 0, qn, qn, qe (.aload_n 0) 1, qf (.getfield 28) 0 4 2, qn, qn, qe (.aload_n 0) 1, qf (.getfield 31) 0 5 2, qn, qn, qf (.invokevirtual 78) 74 1 0],
  [qe (.aload_n 0) 1, qe (.aload_n 0) 1, qf (.getfield 28) 0 4 2, qn, qn, qe (.aload_n 0) 1, qf (.getfield 25) 0 3 2, qn, qn, qf (.invokevirtual 82) 9 2 0, qn, qn, qe (.aload_n 0) 1, qe (.aload_n 0) 1, qf (.getfield 28) 0 4 2],
  [qn, qe (.aload_n 1) 1, qe (.aload_n 0) 1, qf (.getfield 38) 0 7 0, qn, qn, qe (.iconst 1) 1, qe .isub 1, qf (.invokevirtual 119) 7 3 0, qn, qn, qe (.aload_n 0) 1, qe (.aload_n 0) 1, qf (.getfield 31) 0 5 2],
  [qe (.iload_n 2) 1, qf (.invokevirtual 123) 19 2 0, qn, qn, qe (.aload_n 0) 1, qt (.invokevirtual 126) 3 20, qn, qn, qe (.iload 4) 2, qn, qe (.iconst 2) 1, qe .imul 1, qe (.istore 4) 2, qn, qt (.goto (-106)) 3 84],
  [qn, qe (.aload_n 1) 1, qe (.aload_n 0) 1, qf (.getfield 25) 0 3 2, qn, qn, qf (.invokevirtual 78) 74 1 0, qn, qn, qe (.iconst (-1)) 1, qe .ireturn 1]]
def qp19 : List (List (Option qE)) := [[qe (.iconst 0) 1, qe (.istore_n 3) 1, qe (.iload_n 3) 1, qe (.aload_n 1) 1, qf (.getfield 54) 6 1 0, qn, qn, qt (.if_icmp .ge 28) 3 35, qn, qn, qe (.aload_n 1) 1, qf (.getfield 45) 6 0 2, qn, qn, qe (.iload_n 3) 1, qe (.aload_n 1) 1],
  [qf (.getfield 45) 6 0 2, qn, qn, qe (.iload_n 3) 1, qe .iaload 1, qe (.iload_n 2) 1, qe .imul 1, qe (.aload_n 0) 1, qf (.getfield 38) 0 7 0, qn, qn, qe .irem 1, qe .iastore 1, qe (.iinc 3 1) 3],
  [qt (.goto (-30)) 3 2, qn, qn, qe .return_ 1]]
def qp20 : List (List (Option qE)) := [[qe (.aload_n 0) 1, qf (.getfield 31) 0 5 2, qn, qn, qe (.aload_n 0) 1, qf (.getfield 25) 0 3 2, qn, qn, qf (.getfield 54) 6 1 0, qn, qn, qf (.invokevirtual 67) 75 1 0, qn, qn, qe (.aload_n 0) 1, qe (.aload_n 0) 1],
  [qf (.getfield 31) 0 5 2, qn, qn, qf (.invokevirtual 99) 11 1 0, qn, qn, qe (.aload_n 0) 1, qe (.aload_n 0) 1, qf (.getfield 28) 0 4 2, qn, qn, qe (.aload_n 0) 1, qf (.getfield 31) 0 5 2, qn, qn, qf (.invokevirtual 82) 9 2 0],
  [qn, qn, qe (.aload_n 0) 1, qe (.aload_n 0) 1, qf (.getfield 25) 0 3 2, qn, qn, qe (.aload_n 0) 1, qf (.getfield 28) 0 4 2, qn, qn, qe (.aload_n 0) 1, qf (.getfield 38) 0 7 0, qn, qn, qe (.iconst 1) 1],
  [qe .isub 1, qf (.invokevirtual 119) 7 3 0, qn, qn, qe .return_ 1]]
def qp21 : List (List (Option qE)) := [[qe (.aload_n 2) 1, qf (.getfield 45) 6 0 2, qn, qn, qe (.iconst 0) 1, qe .iaload 1, qt (.ifCond .eq 5) 3 11, qn, qn, qe (.iconst 2) 1, qe .ireturn 1, qe (.aload_n 0) 1, qf (.getfield 42) 0 8 0, qn, qn, qe (.aload_n 1) 1],
  [qf (.getfield 54) 6 1 0, qn, qn, qe (.aload_n 2) 1, qt (.invokevirtual 71) 3 73, qn, qn, qe .imul 1, qf (.invokestatic 61) 1001 2 1, qn, qn, qe (.istore_n 3) 1, qe (.aload_n 0) 1, qe (.aload_n 1) 1, qf (.invokevirtual 129) 22 1 0],
  [qn, qe (.istore 4) 2, qn, qe (.aload_n 0) 1, qf (.getfield 9) 0 0 2, qn, qn, qe (.iconst 0) 1, qf (.invokestatic 48) 268 2 1, qn, qn, qe (.aload_n 0) 1, qe (.aload_n 0) 1, qf (.getfield 18) 0 1 2],
  [qe (.iconst 1) 1, qf (.invokevirtual 57) 5 2 0, qn, qn, qe (.iconst 0) 1, qe (.istore 5) 2, qn, qe (.iload 5) 2, qn, qe (.iload 4) 2, qn, qt (.if_icmp .gt 98) 3 157, qn, qn, qe (.iload 5) 2],
  [qt (.ifCond .le 12) 3 76, qn, qn, qe (.aload_n 0) 1, qe (.aload_n 0) 1, qf (.getfield 18) 0 1 2, qn, qn, qe (.aload_n 2) 1, qf (.invokevirtual 82) 9 2 0, qn, qn, qe (.aload_n 1) 1, qf (.getfield 45) 6 0 2],
  [qe (.iload 5) 2, qn, qe .iaload 1, qt (.ifCond .eq 68) 3 151, qn, qn, qe (.iload_n 3) 1, qe (.aload_n 0) 1, qf (.getfield 18) 0 1 2, qn, qn, qf (.getfield 54) 6 1 0, qn, qn, qf (.invokestatic 61) 1001 2 1],
  [qn, qe (.istore_n 3) 1, qe (.iconst 0) 1, qe (.istore 6) 2, qn, qe (.iload 6) 2, qn, qe (.iload_n 3) 1, qt (.if_icmp .ge 47) 3 151, qn, qn, qe (.aload_n 0) 1, qf (.getfield 9) 0 0 2, qn, qn, qe (.iload 6) 2],
  [qn, qe (.aload_n 0) 1, qf (.getfield 9) 0 0 2, qn, qn, qe (.iload 6) 2, qn, qe .iaload 1, qe (.aload_n 1) 1, qf (.getfield 45) 6 0 2, qn, qn, qe (.iload 5) 2, qn, qe .iaload 1, qe (.aload_n 0) 1],
  [qf (.getfield 18) 0 1 2, qn, qn, qf (.getfield 45) 6 0 2, qn, qn, qe (.iload 6) 2, qn, qe .iaload 1, qe .imul 1, qe .iadd 1, qe (.aload_n 0) 1, qf (.getfield 38) 0 7 0, qn, qn, qe .irem 1],
  [qe .iastore 1, qe (.iinc 6 1) 3, qn, qn, qt (.goto (-47)) 3 101, qn, qn, qe (.iinc 5 1) 3, qn, qn, qt (.goto (-99)) 3 55, qn, qn, qe (.iload_n 3) 1, qe (.iconst 1) 1, qt (.if_icmp .ge 5) 3 164],
  [qn, qn, qe (.iconst 5) 1, qe .ireturn 1, qe (.aload_n 0) 1, qf (.getfield 9) 0 0 2, qn, qn, qe (.iconst 0) 1, qe (.aload_n 1) 1, qf (.getfield 45) 6 0 2, qn, qn, qe (.iconst 0) 1, qe (.iload_n 3) 1, qf (.invokestatic 90) 1003 5 1],
  [qn, qn, qe (.aload_n 1) 1, qe (.iload_n 3) 1, qf (.putfield 54) 6 1 0, qn, qn, qe (.iconst (-1)) 1, qe .ireturn 1]]
def qp22 : List (List (Option qE)) := [[qe (.aload_n 1) 1, qf (.getfield 54) 6 1 0, qn, qn, qe (.iconst 1) 1, qe .isub 1, qe (.istore_n 2) 1, qe (.iload_n 2) 1, qt (.ifCond .lt 18) 3 26, qn, qn, qe (.aload_n 1) 1, qf (.getfield 45) 6 0 2, qn, qn, qe (.iload_n 2) 1],
  [qe .iaload 1, qt (.ifCond .ne 9) 3 26, qn, qn, qe (.iinc 2 (-1)) 3, qn, qn, qt (.goto (-16)) 3 7, qn, qn, qe (.iload_n 2) 1, qe .ireturn 1]]
def qp23 : List (List (Option qE)) := [[qe (.iload_n 2) 1, qe (.aload_n 0) 1, qf (.getfield 38) 0 7 0, qn, qn, qe .irem 1, qe (.istore_n 3) 1, qe (.iconst 0) 1, qe (.istore 4) 2, qn, qe (.aload_n 1) 1, qf (.getfield 54) 6 1 0, qn, qn, qe (.iconst 1) 1, qe .isub 1],
  [qe (.istore 5) 2, qn, qe (.iload 5) 2, qn, qt (.ifCond .lt 28) 3 48, qn, qn, qe (.iload 4) 2, qn, qe (.iload_n 3) 1, qe .imul 1, qe (.aload_n 1) 1, qf (.getfield 45) 6 0 2, qn, qn, qe (.iload 5) 2],
  [qn, qe .iaload 1, qe .iadd 1, qe (.aload_n 0) 1, qf (.getfield 38) 0 7 0, qn, qn, qe .irem 1, qe (.istore 4) 2, qn, qe (.iinc 5 (-1)) 3, qn, qn, qt (.goto (-27)) 3 18],
  [qe (.iload 4) 2, qn, qe .ireturn 1]]
def qp24 : List (List (Option qE)) := [[qe (.aload_n 1) 1, qf (.getfield 45) 6 0 2, qn, qn, qe (.iconst 0) 1, qe .iaload 1, qt (.ifCond .ne 5) 3 11, qn, qn, qe (.iconst (-1)) 1, qe .ireturn 1, qe (.iconst 1) 1, qe (.istore_n 2) 1, qe (.aload_n 1) 1, qf (.getfield 45) 6 0 2],
  [qn, qe (.iconst 0) 1, qe .iaload 1, qe (.istore_n 3) 1, qe (.iload_n 3) 1, qe (.iconst 1) 1, qt (.if_icmp .eq 29) 3 51, qn, qn, qe (.iload_n 2) 1, qe (.bipush 99) 2, qn, qt (.if_icmp .gt 23) 3 51, qn, qn, qe (.iload_n 3) 1],
  [qe (.aload_n 1) 1, qf (.getfield 45) 6 0 2, qn, qn, qe (.iconst 0) 1, qe .iaload 1, qe .imul 1, qe (.aload_n 0) 1, qf (.getfield 38) 0 7 0, qn, qn, qe .irem 1, qe (.istore_n 3) 1, qe (.iinc 2 1) 3],
  [qt (.goto (-28)) 3 20, qn, qn, qe (.iload_n 2) 1, qe (.bipush 99) 2, qn, qt (.if_icmp .le 5) 3 59, qn, qn, qe (.iconst (-1)) 1, qe .ireturn 1, qe (.aload_n 0) 1, qe (.aload_n 1) 1, qe (.iload_n 2) 1, qf (.invokevirtual 116) 10 2 0],
  [qn, qe (.aload_n 0) 1, qe (.aload_n 1) 1, qf (.invokevirtual 132) 25 1 0, qn, qn, qt (.ifCond .ne 30) 3 100, qn, qn, qe (.iload_n 2) 1, qe (.aload_n 0) 1, qf (.getfield 38) 0 7 0, qn, qn, qe .imul 1, qe (.istore_n 2) 1],
  [qe (.iload_n 2) 1, qe (.bipush 99) 2, qn, qt (.if_icmp .le 5) 3 88, qn, qn, qe (.iconst (-1)) 1, qe .ireturn 1, qe (.aload_n 0) 1, qe (.aload_n 1) 1, qe (.aload_n 0) 1, qf (.getfield 38) 0 7 0, qn, qn, qf (.invokevirtual 116) 10 2 0],
  [qn, qt (.goto (-32)) 3 65, qn, qn, qe (.iload_n 2) 1, qe .ireturn 1]]
def qp25 : List (List (Option qE)) := [[qe (.aload_n 1) 1, qf (.getfield 45) 6 0 2, qn, qn, qe (.iconst 0) 1, qe .iaload 1, qe (.iconst 1) 1, qt (.if_icmp .ne 15) 3 22, qn, qn, qe (.aload_n 0) 1, qe (.aload_n 1) 1, qf (.invokevirtual 129) 22 1 0, qn, qn, qt (.ifCond .ne 7) 3 22],
  [qn, qn, qe (.iconst 1) 1, qt (.goto 4) 3 23, qn, qn, qe (.iconst 0) 1, some (.ireturn, 1, 0, 0, 3)]]
def qp26 : List (List (Option qE)) := [[qe (.aload_n 0) 1, qf (.getfield 42) 0 8 0, qn, qn, qe (.istore_n 1) 1, qe (.iconst 0) 1, qe (.istore_n 2) 1, qe (.iload_n 2) 1, qe (.iconst 3) 1, qt (.if_icmp .gt 23) 3 32, qn, qn, qe (.iload_n 1) 1, qe (.aload_n 0) 1, qf (.getfield 34) 0 6 2],
  [qn, qe (.iload_n 2) 1, qe .aaload 1, qf (.getfield 54) 6 1 0, qn, qn, qf (.invokestatic 61) 1001 2 1, qn, qn, qe (.istore_n 1) 1, qe (.iinc 2 1) 3, qn, qn, qt (.goto (-22)) 3 7],
  [qe (.iload_n 1) 1, qe .ireturn 1]]
def qp27 : List (List (Option qE)) := [[qe (.aload_n 0) 1, qf (.getfield 34) 0 6 2, qn, qn, qe (.iconst 1) 1, qe .aaload 1, qf (.getfield 45) 6 0 2, qn, qn, qe (.iconst 0) 1, qe .iaload 1, qe (.istore_n 2) 1, qe (.aload_n 0) 1, qf (.getfield 34) 0 6 2],
  [qe (.iconst 2) 1, qe .aaload 1, qf (.getfield 45) 6 0 2, qn, qn, qe (.iconst 0) 1, qe .iaload 1, qe (.istore_n 3) 1, qe (.aload_n 0) 1, qf (.getfield 34) 0 6 2, qn, qn, qe (.iconst 3) 1, qe .aaload 1, qf (.getfield 45) 6 0 2],
  [qn, qe (.iconst 0) 1, qe .iaload 1, qe (.istore 4) 2, qn, qe (.iload 4) 2, qn, qe (.iload_n 1) 1, qe .imul 1, qe (.iload_n 3) 1, qe .iadd 1, qe (.aload_n 0) 1, qf (.getfield 38) 0 7 0, qn, qn, qe .irem 1],
  [qe (.iload_n 1) 1, qe .imul 1, qe (.iload_n 2) 1, qe .iadd 1, qe (.aload_n 0) 1, qf (.getfield 38) 0 7 0, qn, qn, qe .irem 1, qe (.iload_n 1) 1, qe .imul 1, qe (.aload_n 0) 1, qf (.getfield 34) 0 6 2, qn, qn, qe (.iconst 0) 1],
  [qe .aaload 1, qf (.getfield 45) 6 0 2, qn, qn, qe (.iconst 0) 1, qe .iaload 1, qe .iadd 1, qe (.aload_n 0) 1, qf (.getfield 38) 0 7 0, qn, qn, qe .irem 1, qe (.istore 5) 2, qn, qe (.iconst 3) 1, qe (.iload 4) 2],
  [qn, qe .imul 1, qe (.iload_n 1) 1, qe .imul 1, qe (.iconst 2) 1, qe (.iload_n 3) 1, qe .imul 1, qe .iadd 1, qe (.aload_n 0) 1, qf (.getfield 38) 0 7 0, qn, qn, qe .irem 1, qe (.iload_n 1) 1, qe .imul 1, qe (.iload_n 2) 1],
  [qe .iadd 1, qe (.aload_n 0) 1, qf (.getfield 38) 0 7 0, qn, qn, qe .irem 1, qe (.istore 6) 2, qn, qe (.iload 5) 2, qn, qt (.ifCond .ne 12) 3 118, qn, qn, qe (.iload 6) 2, qn, qt (.ifCond .eq 7) 3 118],
  [qn, qn, qe (.iconst 1) 1, qt (.goto 4) 3 119, qn, qn, qe (.iconst 0) 1, some (.ireturn, 1, 0, 0, 3)]]
def qp28 : List (List (Option qE)) := [[qe (.aload_n 0) 1, qf (.getfield 25) 0 3 2, qn, qn, qe (.iconst 1) 1, qf (.putfield 54) 6 1 0, qn, qn, qe (.aload_n 0) 1, qf (.getfield 25) 0 3 2, qn, qn, qf (.getfield 45) 6 0 2, qn, qn, qe (.iconst 0) 1],
  [qe (.iload_n 1) 1, qe .iastore 1, qe (.iconst 1) 1, qe (.istore_n 3) 1, qe (.iload_n 3) 1, qe (.iload_n 2) 1, qt (.if_icmp .ge 198) 3 220, qn, qn, qe (.aload_n 0) 1, qf (.getfield 25) 0 3 2, qn, qn, qe (.iconst 2) 1, qe (.iload_n 3) 1, qe .imul 1],
  [qe (.iload_n 2) 1, qf (.invokestatic 61) 1001 2 1, qn, qn, qf (.invokevirtual 113) 76 1 0, qn, qn, qe (.aload_n 0) 1, qf (.getfield 28) 0 4 2, qn, qn, qe (.aload_n 0) 1, qf (.getfield 34) 0 6 2, qn, qn, qe (.iconst 3) 1],
  [qe .aaload 1, qf (.invokevirtual 78) 74 1 0, qn, qn, qe (.aload_n 0) 1, qf (.getfield 31) 0 5 2, qn, qn, qe (.aload_n 0) 1, qf (.getfield 34) 0 6 2, qn, qn, qe (.iconst 3) 1, qe .aaload 1, qf (.invokevirtual 78) 74 1 0],
  [qn, qe (.aload_n 0) 1, qe (.aload_n 0) 1, qf (.getfield 31) 0 5 2, qn, qn, qe (.iconst 3) 1, qf (.invokevirtual 123) 19 2 0, qn, qn, qe (.aload_n 0) 1, qe (.aload_n 0) 1, qf (.getfield 28) 0 4 2, qn, qn, qe (.aload_n 0) 1],
  [qf (.getfield 25) 0 3 2, qn, qn, qf (.invokevirtual 82) 9 2 0, qn, qn, qe (.aload_n 0) 1, qe (.aload_n 0) 1, qf (.getfield 28) 0 4 2, qn, qn, qe (.aload_n 0) 1, qf (.getfield 34) 0 6 2, qn, qn, qe (.iconst 2) 1],
  [qe .aaload 1, qe (.iconst 1) 1, qf (.invokevirtual 119) 7 3 0, qn, qn, qe (.aload_n 0) 1, qe (.aload_n 0) 1, qf (.getfield 28) 0 4 2, qn, qn, qe (.aload_n 0) 1, qf (.getfield 25) 0 3 2, qn, qn, qf (.invokevirtual 82) 9 2 0],
  [qn, qe (.aload_n 0) 1, qe (.aload_n 0) 1, qf (.getfield 28) 0 4 2, qn, qn, qe (.aload_n 0) 1, qf (.getfield 34) 0 6 2, qn, qn, qe (.iconst 1) 1, qe .aaload 1, qe (.iconst 1) 1, qf (.invokevirtual 119) 7 3 0],
  [qe (.aload_n 0) 1, qe (.aload_n 0) 1, qf (.getfield 28) 0 4 2, qn, qn, qe (.aload_n 0) 1, qf (.getfield 25) 0 3 2, qn, qn, qf (.invokevirtual 82) 9 2 0, qn, qn, qe (.aload_n 0) 1, qe (.aload_n 0) 1, qf (.getfield 28) 0 4 2],
  [qn, qe (.aload_n 0) 1, qf (.getfield 34) 0 6 2, qn, qn, qe (.iconst 0) 1, qe .aaload 1, qe (.iconst 1) 1, qf (.invokevirtual 119) 7 3 0, qn, qn, qe (.aload_n 0) 1, qe (.aload_n 0) 1, qf (.getfield 31) 0 5 2],
  [qe (.aload_n 0) 1, qf (.getfield 25) 0 3 2, qn, qn, qf (.invokevirtual 82) 9 2 0, qn, qn, qe (.aload_n 0) 1, qe (.aload_n 0) 1, qf (.getfield 31) 0 5 2, qn, qn, qe (.aload_n 0) 1, qf (.getfield 34) 0 6 2],
  [qe (.iconst 2) 1, qe .aaload 1, qe (.iconst 2) 1, qf (.invokevirtual 119) 7 3 0, qn, qn, qe (.aload_n 0) 1, qe (.aload_n 0) 1, qf (.getfield 31) 0 5 2, qn, qn, qe (.aload_n 0) 1, qf (.getfield 25) 0 3 2, qn, qn, qf (.invokevirtual 82) 9 2 0],
  [qn, qn, qe (.aload_n 0) 1, qe (.aload_n 0) 1, qf (.getfield 31) 0 5 2, qn, qn, qe (.aload_n 0) 1, qf (.getfield 34) 0 6 2, qn, qn, qe (.iconst 1) 1, qe .aaload 1, qe (.iconst 1) 1, qf (.invokevirtual 119) 7 3 0],
  [qn, qe (.aload_n 0) 1, qt (.invokevirtual 126) 3 20, qn, qn, qe (.iload_n 3) 1, qe (.iconst 2) 1, qe .imul 1, qe (.istore_n 3) 1, qt (.goto (-197)) 3 20, qn, qn, qe (.aload_n 0) 1, qf (.getfield 25) 0 3 2],
  [qe .areturn 1]]
def qp29 : List (List (Option qE)) := [[qe (.aload_n 0) 1, qf (.invokespecial 3) 1000 0 2, qn, qn, qe (.aload_n 0) 1, qe (.bipush 9) 2, qn, qe (.newarray .int) 2, qn, qf (.putfield 9) 1 1 2, qn, qn, qe (.aload_n 0) 1, qe (.bipush 8) 2, qn, qe (.newarray .int) 2],
  [qn, qf (.putfield 15) 1 2 2, qn, qn, qe (.aload_n 0) 1, qe (.iload_n 1) 1, qt (.ifCond .ge 7) 3 29, qn, qn, qe (.iconst 0) 1, qt (.goto 4) 3 30, qn, qn, qe (.iload_n 1) 1, qe (.newarray .int) 2],
  [qf (.putfield 18) 1 0 2, qn, qn, qe .return_ 1]]
def qp30 : List (List (Option qE)) := [[qe (.aload_n 0) 1, qe (.iconst 0) 1, qf (.putfield 21) 1 3 0, qn, qn, qe (.aload_n 0) 1, qe (.iconst 0) 1, qf (.putfield 25) 1 4 0, qn, qn, qe .return_ 1]]
def qp31 : List (List (Option qE)) := [[qe (.aload_n 0) 1, qf (.getfield 21) 1 3 0, qn, qn, qe (.bipush 8) 2, qn, qt (.if_icmp .lt 5) 3 11, qn, qn, qe (.iconst 0) 1, some (.ireturn, 1, 0, 0, 3), qe (.aload_n 0) 1, qf (.getfield 15) 1 2 2, qn, qn, qe (.aload_n 0) 1],
  [qf (.getfield 21) 1 3 0, qn, qn, qe (.iload_n 1) 1, qe .iastore 1, qe (.iconst 1) 1, some (.ireturn, 1, 0, 0, 3)]]
def qp32 : List (List (Option qE)) := [[qe (.aload_n 0) 1, qf (.getfield 21) 1 3 0, qn, qn, qe (.bipush 8) 2, qn, qt (.if_icmp .lt 5) 3 11, qn, qn, qe (.iconst 0) 1, some (.ireturn, 1, 0, 0, 3), qe (.aload_n 0) 1, qe .dup 1, qf (.getfield 21) 1 3 0],
  [qe (.iconst 1) 1, qe .iadd 1, qf (.putfield 21) 1 3 0, qn, qn, qe (.aload_n 0) 1, qf (.getfield 9) 1 1 2, qn, qn, qe (.aload_n 0) 1, qf (.getfield 21) 1 3 0, qn, qn, qe (.aload_n 0) 1, qf (.getfield 25) 1 4 0],
  [qn, qe .iastore 1, qe (.iconst 1) 1, some (.ireturn, 1, 0, 0, 3)]]
def qp33 : List (List (Option qE)) := [[qe (.aload_n 0) 1, qf (.getfield 25) 1 4 0, qn, qn, qe (.aload_n 0) 1, qf (.getfield 18) 1 0 2, qn, qn, qe .arraylength 1, qt (.if_icmp .lt 5) 3 14, qn, qn, qe (.iconst 0) 1, some (.ireturn, 1, 0, 0, 3), qe (.aload_n 0) 1, qf (.getfield 18) 1 0 2],
  [qn, qn, qe (.aload_n 0) 1, qf (.getfield 25) 1 4 0, qn, qn, qe (.iload_n 1) 1, qe (.sipush 1000) 3, qn, qn, qe .imul 1, qe (.iload_n 2) 1, qe .iadd 1, qe .iastore 1, qe (.aload_n 0) 1, qe .dup 1],
  [qf (.getfield 25) 1 4 0, qn, qn, qe (.iconst 1) 1, qe .iadd 1, qf (.putfield 25) 1 4 0, qn, qn, qe (.iconst 1) 1, some (.ireturn, 1, 0, 0, 3)]]
def qp34 : List (List (Option qE)) := [[qe (.iload_n 1) 1, qt (.ifCond .lt 11) 3 12, qn, qn, qe (.iload_n 1) 1, qe (.aload_n 0) 1, qf (.getfield 25) 1 4 0, qn, qn, qt (.if_icmp .lt 7) 3 16, qn, qn, qe (.iconst 0) 1, qt (.goto 13) 3 26],
  [qe (.aload_n 0) 1, qf (.getfield 18) 1 0 2, qn, qn, qe (.iload_n 1) 1, qe .iaload 1, qe (.sipush 1000) 3, qn, qn, qe .idiv 1, qe .ireturn 1]]
def qp35 : List (List (Option qE)) := [[qe (.iload_n 1) 1, qt (.ifCond .lt 11) 3 12, qn, qn, qe (.iload_n 1) 1, qe (.aload_n 0) 1, qf (.getfield 25) 1 4 0, qn, qn, qt (.if_icmp .lt 7) 3 16, qn, qn, qe (.iconst 0) 1, qt (.goto 13) 3 26],
  [qe (.aload_n 0) 1, qf (.getfield 18) 1 0 2, qn, qn, qe (.iload_n 1) 1, qe .iaload 1, qe (.sipush 1000) 3, qn, qn, qe .irem 1, qe .ireturn 1]]
def qp36 : List (List (Option qE)) := [[qf (.new 10) 1 5 0, qn, qn, qe .dup 1, qe (.aload_n 0) 1, qf (.getfield 25) 1 4 0, qn, qn, qf (.invokespecial 28) 29 1 2, qn, qn, qe (.astore_n 1) 1, qe (.aload_n 0) 1, qf (.getfield 18) 1 0 2],
  [qe (.iconst 0) 1, qe (.aload_n 1) 1, qf (.getfield 18) 1 0 2, qn, qn, qe (.iconst 0) 1, qe (.aload_n 0) 1, qf (.getfield 25) 1 4 0, qn, qn, qf (.invokestatic 31) 1003 5 1, qn, qn, qe (.aload_n 0) 1, qf (.getfield 9) 1 1 2],
  [qn, qe (.iconst 0) 1, qe (.aload_n 1) 1, qf (.getfield 9) 1 1 2, qn, qn, qe (.iconst 0) 1, qe (.aload_n 0) 1, qf (.getfield 9) 1 1 2, qn, qn, qe .arraylength 1, qf (.invokestatic 31) 1003 5 1, qn, qn, qe (.aload_n 0) 1],
  [qf (.getfield 15) 1 2 2, qn, qn, qe (.iconst 0) 1, qe (.aload_n 1) 1, qf (.getfield 15) 1 2 2, qn, qn, qe (.iconst 0) 1, qe (.aload_n 0) 1, qf (.getfield 15) 1 2 2, qn, qn, qe .arraylength 1, qf (.invokestatic 31) 1003 5 1],
  [qn, qe (.aload_n 1) 1, qe (.aload_n 0) 1, qf (.getfield 21) 1 3 0, qn, qn, qf (.putfield 21) 1 3 0, qn, qn, qe (.aload_n 1) 1, qe (.aload_n 0) 1, qf (.getfield 25) 1 4 0, qn, qn, qf (.putfield 25) 1 4 0],
  [qn, qe (.aload_n 1) 1, qe .areturn 1]]
def qp37 : List (List (Option qE)) := [[qe (.aload_n 0) 1, qf (.invokespecial 3) 1000 0 2, qn, qn, qe (.aload_n 0) 1, qe (.bipush 40) 2, qn, qt (.anewarray 9) 3 104, qn, qn, qf (.putfield 11) 2 0 2, qn, qn, qe .return_ 1]]
def qp38 : List (List (Option qE)) := [[qe (.aload_n 0) 1, qe (.iconst 0) 1, qf (.putfield 17) 2 2 0, qn, qn, qe .return_ 1]]
def qp39 : List (List (Option qE)) := [[qe (.aload_n 0) 1, qf (.getfield 11) 2 0 2, qn, qn, qe (.aload_n 0) 1, qf (.getfield 21) 2 1 0, qn, qn, qe .aaload 1, qt (.ifnonnull 19) 3 28, qn, qn, qe (.aload_n 0) 1, qf (.getfield 11) 2 0 2],
  [qe (.aload_n 0) 1, qf (.getfield 21) 2 1 0, qn, qn, qf (.new 9) 7 4 0, qn, qn, qe .dup 1, qf (.invokespecial 24) 78 0 2, qn, qn, qe .aastore 1, qe (.aload_n 0) 1, qf (.getfield 11) 2 0 2],
  [qe (.aload_n 0) 1, qf (.getfield 21) 2 1 0, qn, qn, qe .aaload 1, qe (.aload_n 1) 1, qf (.invokevirtual 25) 80 1 0, qn, qn, qe (.aload_n 0) 1, qe (.aload_n 0) 1, qf (.getfield 21) 2 1 0, qn, qn, qe (.iconst 1) 1, qe .iadd 1],
  [qe (.bipush 40) 2, qn, qe .irem 1, qf (.putfield 21) 2 1 0, qn, qn, qe (.aload_n 0) 1, qe (.aload_n 0) 1, qf (.getfield 17) 2 2 0, qn, qn, qe (.iconst 1) 1, qe .iadd 1, qe (.bipush 40) 2, qn, qf (.invokestatic 29) 1001 2 1],
  [qn, qn, qf (.putfield 17) 2 2 0, qn, qn, qe .return_ 1]]
def qp40 : List (List (Option qE)) := [[qe (.aload_n 0) 1, qf (.getfield 21) 2 1 0, qn, qn, qe (.bipush 40) 2, qn, qe .iadd 1, qe (.iconst 1) 1, qe .isub 1, qe (.bipush 40) 2, qn, qe .irem 1, qe (.istore_n 2) 1, qe (.aload_n 0) 1, qf (.getfield 17) 2 2 0],
  [qn, qt (.ifCond .eq 12) 3 29, qn, qn, qe (.aload_n 0) 1, qf (.getfield 11) 2 0 2, qn, qn, qe (.iload_n 2) 1, qe .aaload 1, qt (.ifnonnull 5) 3 31, qn, qn, qe (.iconst (-1)) 1, qe .ireturn 1, qe (.aload_n 1) 1],
  [qe (.aload_n 0) 1, qf (.getfield 11) 2 0 2, qn, qn, qe (.iload_n 2) 1, qe .aaload 1, qf (.invokevirtual 25) 80 1 0, qn, qn, qe (.aload_n 0) 1, qe (.iload_n 2) 1, qf (.putfield 21) 2 1 0, qn, qn, qe (.aload_n 0) 1, qe .dup 1],
  [qf (.getfield 17) 2 2 0, qn, qn, qe (.iconst 1) 1, qe .isub 1, qf (.putfield 17) 2 2 0, qn, qn, qe (.aload_n 0) 1, qf (.getfield 17) 2 2 0, qn, qn, qe .ireturn 1]]
def qp41 : List (List (Option qE)) := [[qe (.aload_n 0) 1, qf (.invokespecial 3) 1000 0 2, qn, qn, qe (.aload_n 0) 1, qe (.bipush 24) 2, qn, qt (.anewarray 9) 3 103, qn, qn, qf (.putfield 11) 3 1 2, qn, qn, qe (.aload_n 0) 1, qe (.aload_n 1) 1, qf (.putfield 17) 3 0 2],
  [qn, qn, qe (.iconst 0) 1, qe (.istore_n 2) 1, qe (.iload_n 2) 1, qe (.bipush 24) 2, qn, qt (.if_icmp .ge 22) 3 45, qn, qn, qe (.aload_n 0) 1, qf (.getfield 11) 3 1 2, qn, qn, qe (.iload_n 2) 1, qf (.new 9) 6 2 0],
  [qn, qn, qe .dup 1, qf (.invokespecial 21) 72 0 2, qn, qn, qe .aastore 1, qe (.iinc 2 1) 3, qn, qn, qt (.goto (-22)) 3 20, qn, qn, qe .return_ 1]]
def qp42 : List (List (Option qE)) := [[qe (.aload_n 0) 1, qf (.getfield 11) 3 1 2, qn, qn, qe (.iconst 0) 1, qe .aaload 1, qe .areturn 1]]
def qp43 : List (List (Option qE)) := [[qe (.aload_n 0) 1, qe (.iconst 0) 1, qf (.putfield 22) 3 2 0, qn, qn, qe (.iload_n 2) 1, qt (.ifCond .lt 11) 3 17, qn, qn, qe (.iload_n 2) 1, qe (.aload_n 1) 1, qf (.getfield 26) 1 3 0, qn, qn, qt (.if_icmp .lt 5) 3 19],
  [qn, qe (.iconst 1) 1, qe .ireturn 1, qe (.aload_n 1) 1, qf (.getfield 31) 1 1 2, qn, qn, qe (.iload_n 2) 1, qe .iaload 1, qe (.istore 4) 2, qn, qe (.iload 4) 2, qn, qe (.aload_n 1) 1, qf (.getfield 31) 1 1 2],
  [qn, qe (.iload_n 2) 1, qe (.iconst 1) 1, qe .iadd 1, qe .iaload 1, qt (.if_icmp .ge 82) 3 119, qn, qn, qe (.aload_n 1) 1, qe (.iload 4) 2, qn, qf (.invokevirtual 35) 34 1 0, qn, qn, qe (.istore 5) 2],
  [qe (.aload_n 1) 1, qe (.iload 4) 2, qn, qf (.invokevirtual 39) 35 1 0, qn, qn, qe (.istore 6) 2, qn, qe (.iload 5) 2, qn, qe (.iconst 3) 1, qt (.if_icmp .ge 17) 3 76, qn, qn, qe (.aload_n 0) 1, qe (.iload 5) 2],
  [qn, qe (.iload 6) 2, qn, qe (.aload_n 3) 1, qf (.invokevirtual 42) 44 3 0, qn, qn, qe (.istore 7) 2, qn, qt (.goto 31) 3 104, qn, qn, qe (.iload 5) 2, qn, qe (.bipush 11) 2],
  [qt (.if_icmp .ge 16) 3 96, qn, qn, qe (.aload_n 0) 1, qe (.iload 5) 2, qn, qe (.iload 6) 2, qn, qf (.invokevirtual 46) 45 2 0, qn, qn, qe (.istore 7) 2, qn, qt (.goto 11) 3 104],
  [qe (.aload_n 0) 1, qe (.iload 5) 2, qn, qf (.invokevirtual 50) 46 1 0, qn, qn, qe (.istore 7) 2, qn, qe (.iload 7) 2, qn, qe (.iconst (-1)) 1, qt (.if_icmp .eq 6) 3 113, qn, qn, qe (.iload 7) 2],
  [qe .ireturn 1, qe (.iinc 4 1) 3, qn, qn, qt (.goto (-89)) 3 27, qn, qn, qe (.iconst (-1)) 1, qe .ireturn 1]]
def qp44 : List (List (Option qE)) := [[qe (.aload_n 0) 1, qf (.getfield 22) 3 2 0, qn, qn, qe (.bipush 24) 2, qn, qt (.if_icmp .lt 5) 3 11, qn, qn, qe (.iconst 1) 1, qe .ireturn 1, qe (.aload_n 0) 1, qf (.getfield 11) 3 1 2, qn, qn, qe (.aload_n 0) 1],
  [qf (.getfield 22) 3 2 0, qn, qn, qe .aaload 1, qe (.astore 4) 2, qn, qe (.aload_n 0) 1, qe .dup 1, qf (.getfield 22) 3 2 0, qn, qn, qe (.iconst 1) 1, qe .iadd 1, qf (.putfield 22) 3 2 0],
  [qe (.iload_n 1) 1, qt (.ifCond .ne 15) 3 48, qn, qn, qe (.aload_n 0) 1, qf (.getfield 17) 3 0 2, qn, qn, qe (.aload 4) 2, qn, qe (.iload_n 2) 1, qf (.invokevirtual 53) 5 2 0, qn, qn, qe (.iconst (-1)) 1, qe .ireturn 1],
  [qe (.iload_n 1) 1, qe (.iconst 1) 1, qt (.if_icmp .ne 14) 3 64, qn, qn, qe (.aload_n 0) 1, qf (.getfield 17) 3 0 2, qn, qn, qe (.aload 4) 2, qn, qf (.invokevirtual 59) 6 1 0, qn, qn, qe (.iconst (-1)) 1, qe .ireturn 1],
  [qe (.aload_n 3) 1, qe (.iload_n 2) 1, qe (.aload 4) 2, qn, qf (.invokevirtual 63) 82 2 0, qn, qn, qe (.aload 4) 2, qn, qf (.getfield 69) 6 1 0, qn, qn, qt (.ifCond .ne 7) 3 83, qn, qn, qe (.iconst 0) 1],
  [qt (.goto 4) 3 84, qn, qn, qe (.iconst (-1)) 1, qe .ireturn 1]]
def qp45 : List (List (Option qE)) := [[qe (.aload_n 0) 1, qf (.getfield 22) 3 2 0, qn, qn, qe (.iconst 1) 1, qt (.if_icmp .ge 5) 3 10, qn, qn, qe (.iconst 1) 1, qe .ireturn 1, qe (.aload_n 0) 1, qf (.getfield 11) 3 1 2, qn, qn, qe (.aload_n 0) 1, qf (.getfield 22) 3 2 0],
  [qn, qn, qe (.iconst 1) 1, qe .isub 1, qe .aaload 1, qe (.astore_n 3) 1, qe (.iload_n 1) 1, qe (.tableswitch 103 4 10 #[41, 50, 59, 68, 77, 86, 96]) 41],
  [],
  [],
  [qe (.aload_n 0) 1, qf (.getfield 17) 3 0 2, qn, qn, qe (.aload_n 3) 1, qf (.invokevirtual 72) 13 1 0, qn, qn, qe .ireturn 1, qe (.aload_n 0) 1, qf (.getfield 17) 3 0 2, qn, qn, qe (.aload_n 3) 1, qf (.invokevirtual 76) 14 1 0],
  [qn, qe .ireturn 1, qe (.aload_n 0) 1, qf (.getfield 17) 3 0 2, qn, qn, qe (.aload_n 3) 1, qf (.invokevirtual 79) 15 1 0, qn, qn, qe .ireturn 1, qe (.aload_n 0) 1, qf (.getfield 17) 3 0 2, qn, qn, qe (.aload_n 3) 1],
  [qf (.invokevirtual 82) 16 1 0, qn, qn, qe .ireturn 1, qe (.aload_n 0) 1, qf (.getfield 17) 3 0 2, qn, qn, qe (.aload_n 3) 1, qf (.invokevirtual 85) 17 1 0, qn, qn, qe .ireturn 1, qe (.aload_n 0) 1, qf (.getfield 17) 3 0 2],
  [qn, qe (.aload_n 3) 1, qe (.iload_n 2) 1, qf (.invokevirtual 88) 18 2 0, qn, qn, qe .ireturn 1, qe (.aload_n 3) 1, qe (.iload_n 2) 1, qf (.invokevirtual 92) 75 1 0, qn, qn, qe (.iconst (-1)) 1, qe .ireturn 1, qe (.aload_n 0) 1, qf (.getfield 17) 3 0 2],
  [qn, qn, qe (.aload_n 3) 1, qe (.iload_n 2) 1, qf (.invokevirtual 96) 10 2 0, qn, qn, qe (.iconst (-1)) 1, qe .ireturn 1]]
def qp46 : List (List (Option qE)) := [[qe (.aload_n 0) 1, qf (.getfield 22) 3 2 0, qn, qn, qe (.iconst 2) 1, qt (.if_icmp .ge 5) 3 10, qn, qn, qe (.iconst 1) 1, qe .ireturn 1, qe (.aload_n 0) 1, qe .dup 1, qf (.getfield 22) 3 2 0, qn, qn, qe (.iconst 1) 1],
  [qe .isub 1, qf (.putfield 22) 3 2 0, qn, qn, qe (.aload_n 0) 1, qf (.getfield 11) 3 1 2, qn, qn, qe (.aload_n 0) 1, qf (.getfield 22) 3 2 0, qn, qn, qe (.iconst 1) 1, qe .isub 1, qe .aaload 1, qe (.astore_n 2) 1],
  [qe (.aload_n 0) 1, qf (.getfield 11) 3 1 2, qn, qn, qe (.aload_n 0) 1, qf (.getfield 22) 3 2 0, qn, qn, qe .aaload 1, qe (.astore_n 3) 1, qe (.iload_n 1) 1, qe (.tableswitch 96 11 15 #[33, 45, 65, 76, 86]) 33],
  [],
  [qn, qn, qn, qn, qn, qn, qn, qn, qn, qn, qn, qn, qe (.aload_n 0) 1, qf (.getfield 17) 3 0 2],
  [qe (.aload_n 2) 1, qe (.aload_n 3) 1, qe (.iconst 1) 1, qf (.invokevirtual 99) 7 3 0, qn, qn, qe (.iconst (-1)) 1, qe .ireturn 1, qe (.aload_n 0) 1, qf (.getfield 17) 3 0 2, qn, qn, qe (.aload_n 2) 1, qe (.aload_n 3) 1, qe (.aload_n 0) 1, qf (.getfield 17) 3 0 2],
  [qn, qn, qf (.getfield 103) 0 7 0, qn, qn, qe (.iconst 1) 1, qe .isub 1, qf (.invokevirtual 99) 7 3 0, qn, qn, qe (.iconst (-1)) 1, qe .ireturn 1, qe (.aload_n 0) 1, qf (.getfield 17) 3 0 2],
  [qe (.aload_n 2) 1, qe (.aload_n 3) 1, qf (.invokevirtual 106) 9 2 0, qn, qn, qe (.iconst (-1)) 1, qe .ireturn 1, qe (.aload_n 0) 1, qf (.getfield 17) 3 0 2, qn, qn, qe (.aload_n 2) 1, qe (.aload_n 3) 1, qf (.invokevirtual 110) 12 2 0],
  [qe .ireturn 1, qe (.aload_n 0) 1, qf (.getfield 17) 3 0 2, qn, qn, qe (.aload_n 2) 1, qe (.aload_n 3) 1, qf (.invokevirtual 114) 21 2 0, qn, qn, qe .ireturn 1, qe (.aload_n 0) 1, qf (.getfield 17) 3 0 2, qn, qn, qe (.aload_n 2) 1],
  [qe (.aload_n 3) 1, qf (.invokevirtual 117) 8 2 0, qn, qn, qe (.iconst (-1)) 1, qe .ireturn 1]]
def qp47 : List (List (Option qE)) := [[qe (.aload_n 0) 1, qf (.invokespecial 3) 1000 0 2, qn, qn, qe (.aload_n 0) 1, qe (.aload_n 1) 1, qf (.putfield 9) 4 0 2, qn, qn, qe (.aload_n 0) 1, qe (.aload_n 2) 1, qf (.putfield 15) 4 1 2, qn, qn, qe .return_ 1]]
def qp48 : List (List (Option qE)) := [[qe (.aload_n 0) 1, qe (.iconst 0) 1, qf (.putfield 19) 4 2 0, qn, qn, qe (.iload_n 1) 1, qt (.ifCond .ne 10) 3 16, qn, qn, qe (.aload_n 0) 1, qt (.invokevirtual 23) 3 49, qn, qn, qt (.goto 18) 3 31],
  [qe (.aload_n 0) 1, qe (.iload_n 1) 1, qe (.iconst 1) 1, qt (.if_icmp .ne 8) 3 27, qn, qn, qe (.bipush 8) 2, qn, qt (.goto 4) 3 28, qn, qn, qe (.iconst 1) 1, qf (.invokevirtual 27) 51 1 0, qn, qn, qe (.istore_n 2) 1],
  [qe (.iload_n 2) 1, qt (.ifCond .eq 7) 3 40, qn, qn, qe (.iconst (-1)) 1, qt (.goto 7) 3 44, qn, qn, qe (.aload_n 0) 1, qf (.getfield 19) 4 2 0, qn, qn, qe .ireturn 1]]
def qp49 : List (List (Option qE)) := [[qe (.aload_n 0) 1, qe (.bipush 7) 2, qn, qf (.putfield 31) 4 5 0, qn, qn, qe (.aload_n 0) 1, qe (.bipush 12) 2, qn, qf (.putfield 34) 4 6 0, qn, qn, qe (.iconst 0) 1, qe (.istore_n 1) 1, qe (.iconst 0) 1, qe (.istore_n 2) 1],
  [qe (.aload_n 0) 1, qe (.bipush 115) 2, qn, qf (.invokevirtual 37) 64 1 0, qn, qn, qt (.ifCond .ne 5) 3 27, qn, qn, qe (.iconst 0) 1, some (.ireturn, 1, 0, 0, 3), qe (.iconst 0) 1, qe (.istore_n 3) 1, qe (.iload_n 3) 1, qe (.iconst 2) 1, qt (.if_icmp .gt 91) 3 122],
  [qn, qn, qe (.aload_n 0) 1, qt (.invokevirtual 40) 3 67, qn, qn, qt (.ifCond .eq 84) 3 122, qn, qn, qe (.iload_n 1) 1, qt (.ifCond .ne 34) 3 76, qn, qn, qe (.aload_n 0) 1, qe (.bipush 112) 2],
  [qf (.invokevirtual 37) 64 1 0, qn, qn, qt (.ifCond .eq 25) 3 76, qn, qn, qe (.aload_n 0) 1, qt (.invokevirtual 44) 3 50, qn, qn, qt (.ifCond .ne 5) 3 63, qn, qn, qe (.iconst 0) 1, some (.ireturn, 1, 0, 0, 3), qe (.aload_n 0) 1],
  [qe (.aload_n 0) 1, qf (.getfield 47) 4 4 0, qn, qn, qf (.putfield 31) 4 5 0, qn, qn, qe (.iconst 1) 1, qe (.istore_n 1) 1, qt (.goto 43) 3 116, qn, qn, qe (.iload_n 2) 1, qt (.ifCond .ne 37) 3 114],
  [qe (.aload_n 0) 1, qe (.bipush 109) 2, qn, qf (.invokevirtual 37) 64 1 0, qn, qn, qt (.ifCond .eq 28) 3 114, qn, qn, qe (.aload_n 0) 1, qe (.iconst 2) 1, qe (.bipush 24) 2, qn, qf (.invokevirtual 50) 65 2 0],
  [qt (.ifCond .ne 5) 3 101, qn, qn, qe (.iconst 0) 1, some (.ireturn, 1, 0, 0, 3), qe (.aload_n 0) 1, qe (.aload_n 0) 1, qf (.getfield 47) 4 4 0, qn, qn, qf (.putfield 34) 4 6 0, qn, qn, qe (.iconst 1) 1, qe (.istore_n 2) 1, qt (.goto 5) 3 116],
  [qn, qn, qe (.iconst 0) 1, some (.ireturn, 1, 0, 0, 3), qe (.iinc 3 1) 3, qn, qn, qt (.goto (-90)) 3 29, qn, qn, qe (.iconst 1) 1, some (.ireturn, 1, 0, 0, 3)]]
def qp50 : List (List (Option qE)) := [[qe (.aload_n 0) 1, qe (.iconst 2) 1, qe (.sipush 997) 3, qn, qn, qf (.invokevirtual 50) 65 2 0, qn, qn, qt (.ifCond .ne 5) 3 13, qn, qn, qe (.iconst 0) 1, some (.ireturn, 1, 0, 0, 3), qe (.iconst 2) 1, qe (.istore_n 1) 1, qe (.iload_n 1) 1],
  [qe (.iload_n 1) 1, qe .imul 1, qe (.aload_n 0) 1, qf (.getfield 47) 4 4 0, qn, qn, qt (.if_icmp .gt 30) 3 52, qn, qn, qe (.aload_n 0) 1, qf (.getfield 47) 4 4 0, qn, qn, qe (.iload_n 1) 1, qe .irem 1, qt (.ifCond .ne 15) 3 46],
  [qn, qn, qe (.aload_n 0) 1, qe .dup 1, qf (.getfield 19) 4 2 0, qn, qn, qe (.iconst 1) 1, qe .isub 1, qf (.putfield 19) 4 2 0, qn, qn, qe (.iconst 0) 1, some (.ireturn, 1, 0, 0, 3), qe (.iinc 1 1) 3],
  [qn, qt (.goto (-34)) 3 15, qn, qn, qe (.iconst 1) 1, some (.ireturn, 1, 0, 0, 3)]]
def qp51 : List (List (Option qE)) := [[qe (.aload_n 0) 1, qf (.getfield 15) 4 1 2, qn, qn, qt (.invokevirtual 54) 3 30, qn, qn, qe (.iconst 1) 1, qe (.istore_n 2) 1, qe (.iload_n 2) 1, qe (.iload_n 1) 1, qt (.if_icmp .gt 43) 3 54, qn, qn, qe (.aload_n 0) 1, qt (.invokevirtual 59) 3 52],
  [qn, qn, qt (.ifCond .ne 5) 3 23, qn, qn, qe (.iconst 0) 1, some (.ireturn, 1, 0, 0, 3), qe (.aload_n 0) 1, qt (.invokevirtual 40) 3 67, qn, qn, qt (.ifCond .ne 5) 3 32, qn, qn, qe (.iconst 1) 1, some (.ireturn, 1, 0, 0, 3)],
  [qe (.iload_n 2) 1, qe (.iload_n 1) 1, qt (.if_icmp .eq 12) 3 46, qn, qn, qe (.aload_n 0) 1, qe (.bipush 59) 2, qn, qf (.invokevirtual 37) 64 1 0, qn, qn, qt (.ifCond .ne 5) 3 48, qn, qn, qe (.iconst 0) 1, some (.ireturn, 1, 0, 0, 3)],
  [qe (.iinc 2 1) 3, qn, qn, qt (.goto (-42)) 3 9, qn, qn, qe (.iconst 0) 1, some (.ireturn, 1, 0, 0, 3)]]
def qp52 : List (List (Option qE)) := [[qe (.aload_n 0) 1, qt (.invokevirtual 40) 3 67, qn, qn, qe (.istore_n 1) 1, qe (.iload_n 1) 1, qe (.bipush 97) 2, qn, qt (.if_icmp .lt 23) 3 31, qn, qn, qe (.iload_n 1) 1, qe (.bipush 104) 2, qn, qt (.if_icmp .gt 17) 3 31],
  [qn, qe (.aload_n 0) 1, qf (.getfield 15) 4 1 2, qn, qn, qe (.iload_n 1) 1, qe (.bipush 97) 2, qn, qe .isub 1, qf (.invokevirtual 62) 31 1 0, qn, qn, qt (.ifCond .ne 5) 3 33, qn, qn, qe (.iconst 0) 1],
  [some (.ireturn, 1, 0, 0, 3), qe (.aload_n 0) 1, qe .dup 1, qf (.getfield 19) 4 2 0, qn, qn, qe (.iconst 1) 1, qe .iadd 1, qf (.putfield 19) 4 2 0, qn, qn, qe (.aload_n 0) 1, qe (.iconst 0) 1, qf (.putfield 65) 4 3 0],
  [qe (.aload_n 0) 1, qe (.bipush 61) 2, qn, qf (.invokevirtual 37) 64 1 0, qn, qn, qt (.ifCond .eq 25) 3 79, qn, qn, qe (.aload_n 0) 1, qe (.iconst 0) 1, qf (.invokevirtual 68) 53 1 0, qn, qn, qt (.ifCond .eq 17) 3 79],
  [qn, qe (.aload_n 0) 1, qf (.getfield 15) 4 1 2, qn, qn, qt (.invokevirtual 71) 3 32, qn, qn, qt (.ifCond .eq 7) 3 79, qn, qn, qe (.iconst 1) 1, qt (.goto 4) 3 80, qn, qn, qe (.iconst 0) 1],
  [some (.ireturn, 1, 0, 0, 3)]]
def qp53 : List (List (Option qE)) := [[qe (.aload_n 0) 1, qe (.iload_n 1) 1, qf (.invokevirtual 74) 54 1 0, qn, qn, qt (.ifCond .ne 5) 3 10, qn, qn, qe (.iconst 0) 1, some (.ireturn, 1, 0, 0, 3), qe (.iconst 0) 1, qe (.istore_n 2) 1, qe (.iload_n 2) 1, qe (.bipush 24) 2, qn, qt (.if_icmp .ge 72) 3 87],
  [qn, qn, qe (.aload_n 0) 1, qt (.invokevirtual 40) 3 67, qn, qn, qe (.istore_n 3) 1, qe (.iload_n 3) 1, qe (.bipush 43) 2, qn, qt (.if_icmp .eq 11) 3 37, qn, qn, qe (.iload_n 3) 1, qe (.bipush 45) 2],
  [qt (.if_icmp .eq 5) 3 37, qn, qn, qe (.iconst 1) 1, some (.ireturn, 1, 0, 0, 3), qe (.aload_n 0) 1, qe .dup 1, qf (.getfield 19) 4 2 0, qn, qn, qe (.iconst 1) 1, qe .iadd 1, qf (.putfield 19) 4 2 0, qn, qn, qe (.aload_n 0) 1],
  [qe (.iload_n 1) 1, qf (.invokevirtual 74) 54 1 0, qn, qn, qt (.ifCond .eq 27) 3 79, qn, qn, qe (.aload_n 0) 1, qf (.getfield 15) 4 1 2, qn, qn, qe (.iload_n 3) 1, qe (.bipush 43) 2, qn, qt (.if_icmp .ne 8) 3 70],
  [qn, qe (.bipush 11) 2, qn, qt (.goto 5) 3 72, qn, qn, qe (.bipush 12) 2, qn, qe (.iconst 0) 1, qf (.invokevirtual 77) 33 2 0, qn, qn, qt (.ifCond .ne 5) 3 81, qn, qn, qe (.iconst 0) 1],
  [some (.ireturn, 1, 0, 0, 3), qe (.iinc 2 1) 3, qn, qn, qt (.goto (-72)) 3 12, qn, qn, qe (.iconst 0) 1, some (.ireturn, 1, 0, 0, 3)]]
def qp54 : List (List (Option qE)) := [[qe (.aload_n 0) 1, qe (.iload_n 1) 1, qf (.invokevirtual 80) 55 1 0, qn, qn, qt (.ifCond .ne 5) 3 10, qn, qn, qe (.iconst 0) 1, some (.ireturn, 1, 0, 0, 3), qe (.iconst 0) 1, qe (.istore_n 2) 1, qe (.iload_n 2) 1, qe (.bipush 24) 2, qn, qt (.if_icmp .ge 72) 3 87],
  [qn, qn, qe (.aload_n 0) 1, qt (.invokevirtual 40) 3 67, qn, qn, qe (.istore_n 3) 1, qe (.iload_n 3) 1, qe (.bipush 42) 2, qn, qt (.if_icmp .eq 11) 3 37, qn, qn, qe (.iload_n 3) 1, qe (.bipush 47) 2],
  [qt (.if_icmp .eq 5) 3 37, qn, qn, qe (.iconst 1) 1, some (.ireturn, 1, 0, 0, 3), qe (.aload_n 0) 1, qe .dup 1, qf (.getfield 19) 4 2 0, qn, qn, qe (.iconst 1) 1, qe .iadd 1, qf (.putfield 19) 4 2 0, qn, qn, qe (.aload_n 0) 1],
  [qe (.iload_n 1) 1, qf (.invokevirtual 80) 55 1 0, qn, qn, qt (.ifCond .eq 27) 3 79, qn, qn, qe (.aload_n 0) 1, qf (.getfield 15) 4 1 2, qn, qn, qe (.iload_n 3) 1, qe (.bipush 42) 2, qn, qt (.if_icmp .ne 8) 3 70],
  [qn, qe (.bipush 13) 2, qn, qt (.goto 5) 3 72, qn, qn, qe (.bipush 14) 2, qn, qe (.iconst 0) 1, qf (.invokevirtual 77) 33 2 0, qn, qn, qt (.ifCond .ne 5) 3 81, qn, qn, qe (.iconst 0) 1],
  [some (.ireturn, 1, 0, 0, 3), qe (.iinc 2 1) 3, qn, qn, qt (.goto (-72)) 3 12, qn, qn, qe (.iconst 0) 1, some (.ireturn, 1, 0, 0, 3)]]
def qp55 : List (List (Option qE)) := [[qe (.aload_n 0) 1, qe (.iload_n 1) 1, qf (.invokevirtual 83) 56 1 0, qn, qn, qt (.ifCond .ne 5) 3 10, qn, qn, qe (.iconst 0) 1, some (.ireturn, 1, 0, 0, 3), qe (.aload_n 0) 1, qe (.bipush 94) 2, qn, qf (.invokevirtual 37) 64 1 0],
  [qt (.ifCond .ne 5) 3 21, qn, qn, qe (.iconst 1) 1, some (.ireturn, 1, 0, 0, 3), qe (.aload_n 0) 1, qe (.iconst 0) 1, qe (.bipush 99) 2, qn, qf (.invokevirtual 50) 65 2 0, qn, qn, qt (.ifCond .eq 22) 3 50, qn, qn, qe (.aload_n 0) 1],
  [qf (.getfield 15) 4 1 2, qn, qn, qe (.iconst 3) 1, qe (.aload_n 0) 1, qf (.getfield 47) 4 4 0, qn, qn, qf (.invokevirtual 77) 33 2 0, qn, qn, qt (.ifCond .eq 7) 3 50, qn, qn, qe (.iconst 1) 1, qt (.goto 4) 3 51],
  [qn, qn, qe (.iconst 0) 1, some (.ireturn, 1, 0, 0, 3)]]
def qp56 : List (List (Option qE)) := [[qe (.aload_n 0) 1, qt (.invokevirtual 40) 3 67, qn, qn, qe (.istore_n 2) 1, qe (.iload_n 2) 1, qe (.bipush 40) 2, qn, qt (.if_icmp .ne 9) 3 17, qn, qn, qe (.aload_n 0) 1, qe (.iload_n 1) 1, qf (.invokevirtual 86) 62 1 0],
  [some (.ireturn, 1, 0, 0, 3), qe (.aload_n 0) 1, qf (.getfield 65) 4 3 0, qn, qn, qe (.bipush 24) 2, qn, qt (.if_icmp .lt 5) 3 28, qn, qn, qe (.iconst 0) 1, some (.ireturn, 1, 0, 0, 3), qe (.aload_n 0) 1, qe .dup 1, qf (.getfield 65) 4 3 0],
  [qn, qe (.iconst 1) 1, qe .iadd 1, qf (.putfield 65) 4 3 0, qn, qn, qe (.iload_n 2) 1, qe (.bipush 48) 2, qn, qt (.if_icmp .lt 41) 3 82, qn, qn, qe (.iload_n 2) 1, qe (.bipush 57) 2, qn, qt (.if_icmp .gt 35) 3 82],
  [qn, qn, qe (.aload_n 0) 1, qe (.iconst 0) 1, qe (.sipush 999) 3, qn, qn, qf (.invokevirtual 50) 65 2 0, qn, qn, qt (.ifCond .eq 22) 3 80, qn, qn, qe (.aload_n 0) 1, qf (.getfield 15) 4 1 2],
  [qn, qe (.iconst 0) 1, qe (.aload_n 0) 1, qf (.getfield 47) 4 4 0, qn, qn, qf (.invokevirtual 77) 33 2 0, qn, qn, qt (.ifCond .eq 7) 3 80, qn, qn, qe (.iconst 1) 1, qt (.goto 4) 3 81],
  [qe (.iconst 0) 1, some (.ireturn, 1, 0, 0, 3), qe (.iload_n 2) 1, qe (.bipush 120) 2, qn, qt (.if_icmp .ne 23) 3 108, qn, qn, qe (.aload_n 0) 1, qe .dup 1, qf (.getfield 19) 4 2 0, qn, qn, qe (.iconst 1) 1, qe .iadd 1, qf (.putfield 19) 4 2 0],
  [qn, qn, qe (.aload_n 0) 1, qf (.getfield 15) 4 1 2, qn, qn, qe (.iconst 1) 1, qe (.iconst 0) 1, qf (.invokevirtual 77) 33 2 0, qn, qn, some (.ireturn, 1, 0, 0, 3), qe (.iload_n 2) 1, qe (.bipush 97) 2, qn, qt (.if_icmp .lt 32) 3 143],
  [qn, qn, qe (.iload_n 2) 1, qe (.bipush 104) 2, qn, qt (.if_icmp .gt 26) 3 143, qn, qn, qe (.aload_n 0) 1, qe .dup 1, qf (.getfield 19) 4 2 0, qn, qn, qe (.iconst 1) 1, qe .iadd 1, qf (.putfield 19) 4 2 0],
  [qn, qn, qe (.aload_n 0) 1, qf (.getfield 15) 4 1 2, qn, qn, qe (.iconst 2) 1, qe (.iload_n 2) 1, qe (.bipush 97) 2, qn, qe .isub 1, qf (.invokevirtual 77) 33 2 0, qn, qn, some (.ireturn, 1, 0, 0, 3), qe (.aload_n 0) 1],
  [qe (.iload_n 2) 1, qe (.iload_n 1) 1, qf (.invokevirtual 89) 57 2 0, qn, qn, some (.ireturn, 1, 0, 0, 3)]]
def qp57 : List (List (Option qE)) := [[qe (.iload_n 1) 1, qe (.tableswitch 246 67 84 #[137, 87, 109, 246, 246, 212, 246, 246, 246, 101, 246, 246, 246, 246, 125, 117, 94, 131]) 87],
  [],
  [],
  [],
  [],
  [qn, qn, qn, qn, qn, qn, qn, qn, qe (.aload_n 0) 1, qe (.iload_n 2) 1, qe (.iconst 4) 1, qf (.invokevirtual 92) 58 2 0, qn, qn, some (.ireturn, 1, 0, 0, 3), qe (.aload_n 0) 1],
  [qe (.iload_n 2) 1, qe (.iconst 5) 1, qf (.invokevirtual 92) 58 2 0, qn, qn, some (.ireturn, 1, 0, 0, 3), qe (.aload_n 0) 1, qe (.iload_n 2) 1, qe (.bipush 6) 2, qn, qf (.invokevirtual 92) 58 2 0, qn, qn, some (.ireturn, 1, 0, 0, 3), qe (.aload_n 0) 1, qe (.iload_n 2) 1],
  [qe (.bipush 7) 2, qn, qf (.invokevirtual 92) 58 2 0, qn, qn, some (.ireturn, 1, 0, 0, 3), qe (.aload_n 0) 1, qe (.iload_n 2) 1, qe (.bipush 8) 2, qn, qf (.invokevirtual 92) 58 2 0, qn, qn, some (.ireturn, 1, 0, 0, 3), qe (.aload_n 0) 1, qe (.iload_n 2) 1],
  [qf (.invokevirtual 95) 59 1 0, qn, qn, some (.ireturn, 1, 0, 0, 3), qe (.aload_n 0) 1, qe (.iload_n 2) 1, qf (.invokevirtual 98) 60 1 0, qn, qn, some (.ireturn, 1, 0, 0, 3), qe (.aload_n 0) 1, qe .dup 1, qf (.getfield 19) 4 2 0, qn, qn, qe (.iconst 1) 1],
  [qe .iadd 1, qf (.putfield 19) 4 2 0, qn, qn, qe (.aload_n 0) 1, qe (.iload_n 2) 1, qf (.invokevirtual 101) 63 1 0, qn, qn, qt (.ifCond .eq 58) 3 211, qn, qn, qe (.aload_n 0) 1, qe (.iload_n 2) 1, qe (.iconst 1) 1, qe .iadd 1],
  [qf (.invokevirtual 68) 53 1 0, qn, qn, qt (.ifCond .eq 48) 3 211, qn, qn, qe (.aload_n 0) 1, qe (.bipush 44) 2, qn, qf (.invokevirtual 37) 64 1 0, qn, qn, qt (.ifCond .eq 39) 3 211, qn, qn, qe (.aload_n 0) 1],
  [qe (.iload_n 2) 1, qe (.iconst 1) 1, qe .iadd 1, qf (.invokevirtual 68) 53 1 0, qn, qn, qt (.ifCond .eq 29) 3 211, qn, qn, qe (.aload_n 0) 1, qe (.bipush 41) 2, qn, qf (.invokevirtual 37) 64 1 0, qn, qn, qt (.ifCond .eq 20) 3 211],
  [qn, qn, qe (.aload_n 0) 1, qf (.getfield 15) 4 1 2, qn, qn, qe (.bipush 15) 2, qn, qe (.iconst 0) 1, qf (.invokevirtual 77) 33 2 0, qn, qn, qt (.ifCond .eq 7) 3 211, qn, qn, qe (.iconst 1) 1],
  [qt (.goto 4) 3 212, qn, qn, qe (.iconst 0) 1, some (.ireturn, 1, 0, 0, 3), qe (.aload_n 0) 1, qe .dup 1, qf (.getfield 19) 4 2 0, qn, qn, qe (.iconst 1) 1, qe .iadd 1, qf (.putfield 19) 4 2 0, qn, qn, qe (.aload_n 0) 1],
  [qe (.iload_n 2) 1, qf (.invokevirtual 101) 63 1 0, qn, qn, qt (.ifCond .eq 17) 3 245, qn, qn, qe (.aload_n 0) 1, qe (.iload_n 2) 1, qe (.iconst 1) 1, qe .iadd 1, qf (.invokevirtual 104) 61 1 0, qn, qn, qt (.ifCond .eq 7) 3 245],
  [qn, qe (.iconst 1) 1, qt (.goto 4) 3 246, qn, qn, qe (.iconst 0) 1, some (.ireturn, 1, 0, 0, 3), qe (.iconst 0) 1, some (.ireturn, 1, 0, 0, 3)]]
def qp58 : List (List (Option qE)) := [[qe (.aload_n 0) 1, qe .dup 1, qf (.getfield 19) 4 2 0, qn, qn, qe (.iconst 1) 1, qe .iadd 1, qf (.putfield 19) 4 2 0, qn, qn, qe (.aload_n 0) 1, qe (.iload_n 1) 1, qf (.invokevirtual 86) 62 1 0, qn, qn, qt (.ifCond .eq 19) 3 34],
  [qn, qn, qe (.aload_n 0) 1, qf (.getfield 15) 4 1 2, qn, qn, qe (.iload_n 2) 1, qe (.iconst 0) 1, qf (.invokevirtual 77) 33 2 0, qn, qn, qt (.ifCond .eq 7) 3 34, qn, qn, qe (.iconst 1) 1, qt (.goto 4) 3 35],
  [qn, qn, qe (.iconst 0) 1, some (.ireturn, 1, 0, 0, 3)]]
def qp59 : List (List (Option qE)) := [[qe (.aload_n 0) 1, qe .dup 1, qf (.getfield 19) 4 2 0, qn, qn, qe (.iconst 1) 1, qe .iadd 1, qf (.putfield 19) 4 2 0, qn, qn, qe (.aload_n 0) 1, qt (.invokevirtual 40) 3 67, qn, qn, qe (.istore_n 2) 1, qe (.iload_n 2) 1],
  [qe (.bipush 50) 2, qn, qt (.if_icmp .lt 9) 3 27, qn, qn, qe (.iload_n 2) 1, qe (.bipush 57) 2, qn, qt (.if_icmp .le 5) 3 29, qn, qn, qe (.iconst 0) 1, some (.ireturn, 1, 0, 0, 3), qe (.aload_n 0) 1, qe .dup 1, qf (.getfield 19) 4 2 0],
  [qn, qn, qe (.iconst 1) 1, qe .iadd 1, qf (.putfield 19) 4 2 0, qn, qn, qe (.aload_n 0) 1, qe (.iload_n 1) 1, qf (.invokevirtual 86) 62 1 0, qn, qn, qt (.ifCond .eq 23) 3 67, qn, qn, qe (.aload_n 0) 1],
  [qf (.getfield 15) 4 1 2, qn, qn, qe (.bipush 9) 2, qn, qe (.iload_n 2) 1, qe (.bipush 48) 2, qn, qe .isub 1, qf (.invokevirtual 77) 33 2 0, qn, qn, qt (.ifCond .eq 7) 3 67, qn, qn, qe (.iconst 1) 1],
  [qt (.goto 4) 3 68, qn, qn, qe (.iconst 0) 1, some (.ireturn, 1, 0, 0, 3)]]
def qp60 : List (List (Option qE)) := [[qe (.aload_n 0) 1, qe .dup 1, qf (.getfield 19) 4 2 0, qn, qn, qe (.iconst 1) 1, qe .iadd 1, qf (.putfield 19) 4 2 0, qn, qn, qe (.aload_n 0) 1, qe (.iconst 1) 1, qe (.bipush 24) 2, qn, qf (.invokevirtual 50) 65 2 0],
  [qn, qt (.ifCond .ne 5) 3 22, qn, qn, qe (.iconst 0) 1, some (.ireturn, 1, 0, 0, 3), qe (.aload_n 0) 1, qf (.getfield 47) 4 4 0, qn, qn, qe (.istore_n 2) 1, qe (.aload_n 0) 1, qe (.iload_n 1) 1, qf (.invokevirtual 86) 62 1 0],
  [qt (.ifCond .eq 20) 3 52, qn, qn, qe (.aload_n 0) 1, qf (.getfield 15) 4 1 2, qn, qn, qe (.bipush 10) 2, qn, qe (.iload_n 2) 1, qf (.invokevirtual 77) 33 2 0, qn, qn, qt (.ifCond .eq 7) 3 52],
  [qe (.iconst 1) 1, qt (.goto 4) 3 53, qn, qn, qe (.iconst 0) 1, some (.ireturn, 1, 0, 0, 3)]]
def qp61 : List (List (Option qE)) := [[qe (.aload_n 0) 1, qe (.iload_n 1) 1, qf (.invokevirtual 68) 53 1 0, qn, qn, qt (.ifCond .ne 5) 3 10, qn, qn, qe (.iconst 0) 1, some (.ireturn, 1, 0, 0, 3), qe (.iconst 1) 1, qe (.istore_n 2) 1, qe (.iload_n 2) 1, qe (.bipush 6) 2, qn, qt (.if_icmp .ge 57) 3 72],
  [qn, qn, qe (.iload_n 2) 1, qe (.iconst 2) 1, qt (.if_icmp .lt 14) 3 34, qn, qn, qe (.aload_n 0) 1, qe (.bipush 41) 2, qn, qf (.invokevirtual 37) 64 1 0, qn, qn, qt (.ifCond .eq 5) 3 34],
  [qe (.iconst 1) 1, some (.ireturn, 1, 0, 0, 3), qe (.aload_n 0) 1, qe (.bipush 44) 2, qn, qf (.invokevirtual 37) 64 1 0, qn, qn, qt (.ifCond .eq 24) 3 64, qn, qn, qe (.aload_n 0) 1, qe (.iload_n 1) 1, qf (.invokevirtual 68) 53 1 0],
  [qt (.ifCond .eq 16) 3 64, qn, qn, qe (.aload_n 0) 1, qf (.getfield 15) 4 1 2, qn, qn, qe (.bipush 16) 2, qn, qe (.iconst 0) 1, qf (.invokevirtual 77) 33 2 0, qn, qn, qt (.ifCond .ne 5) 3 66],
  [qe (.iconst 0) 1, some (.ireturn, 1, 0, 0, 3), qe (.iinc 2 1) 3, qn, qn, qt (.goto (-57)) 3 12, qn, qn, qe (.aload_n 0) 1, qe (.bipush 41) 2, qn, qf (.invokevirtual 37) 64 1 0, qn, qn, some (.ireturn, 1, 0, 0, 3)]]
def qp62 : List (List (Option qE)) := [[qe (.aload_n 0) 1, qe (.iload_n 1) 1, qf (.invokevirtual 101) 63 1 0, qn, qn, qt (.ifCond .eq 26) 3 31, qn, qn, qe (.aload_n 0) 1, qe (.iload_n 1) 1, qe (.iconst 1) 1, qe .iadd 1, qf (.invokevirtual 68) 53 1 0, qn, qn, qt (.ifCond .eq 16) 3 31],
  [qn, qn, qe (.aload_n 0) 1, qe (.bipush 41) 2, qn, qf (.invokevirtual 37) 64 1 0, qn, qn, qt (.ifCond .eq 7) 3 31, qn, qn, qe (.iconst 1) 1, qt (.goto 4) 3 32, qn, qn, qe (.iconst 0) 1],
  [some (.ireturn, 1, 0, 0, 3)]]
def qp63 : List (List (Option qE)) := [[qe (.aload_n 0) 1, qt (.invokevirtual 40) 3 67, qn, qn, qe (.bipush 40) 2, qn, qt (.if_icmp .ne 9) 3 15, qn, qn, qe (.iload_n 1) 1, qe (.bipush 8) 2, qn, qt (.if_icmp .lt 5) 3 17, qn, qn, qe (.iconst 0) 1],
  [some (.ireturn, 1, 0, 0, 3), qe (.aload_n 0) 1, qe .dup 1, qf (.getfield 19) 4 2 0, qn, qn, qe (.iconst 1) 1, qe .iadd 1, qf (.putfield 19) 4 2 0, qn, qn, qe (.iconst 1) 1, some (.ireturn, 1, 0, 0, 3)]]
def qp64 : List (List (Option qE)) := [[qe (.aload_n 0) 1, qt (.invokevirtual 40) 3 67, qn, qn, qe (.iload_n 1) 1, qt (.if_icmp .eq 5) 3 10, qn, qn, qe (.iconst 0) 1, some (.ireturn, 1, 0, 0, 3), qe (.aload_n 0) 1, qe .dup 1, qf (.getfield 19) 4 2 0, qn, qn, qe (.iconst 1) 1],
  [qe .iadd 1, qf (.putfield 19) 4 2 0, qn, qn, qe (.iconst 1) 1, some (.ireturn, 1, 0, 0, 3)]]
def qp65 : List (List (Option qE)) := [[qe (.aload_n 0) 1, qt (.invokevirtual 40) 3 67, qn, qn, qe .pop 1, qe (.aload_n 0) 1, qe (.iconst 0) 1, qf (.putfield 47) 4 4 0, qn, qn, qe (.iconst 0) 1, qe (.istore_n 3) 1, qe (.iload_n 3) 1, qe (.iconst 3) 1, qt (.if_icmp .ge 57) 3 71],
  [qn, qe (.aload_n 0) 1, qe (.aload_n 0) 1, qf (.getfield 19) 4 2 0, qn, qn, qf (.invokevirtual 107) 66 1 0, qn, qn, qt (.ifCond .eq 46) 3 71, qn, qn, qe (.aload_n 0) 1, qe (.aload_n 0) 1, qf (.getfield 47) 4 4 0],
  [qn, qe (.bipush 10) 2, qn, qe .imul 1, qe (.aload_n 0) 1, qf (.getfield 9) 4 0 2, qn, qn, qf (.getfield 110) 8 0 2, qn, qn, qe (.aload_n 0) 1, qf (.getfield 19) 4 2 0, qn, qn, qe .iaload 1],
  [qe .iadd 1, qe (.bipush 48) 2, qn, qe .isub 1, qf (.putfield 47) 4 4 0, qn, qn, qe (.aload_n 0) 1, qe .dup 1, qf (.getfield 19) 4 2 0, qn, qn, qe (.iconst 1) 1, qe .iadd 1, qf (.putfield 19) 4 2 0],
  [qn, qe (.iinc 3 1) 3, qn, qn, qt (.goto (-56)) 3 12, qn, qn, qe (.iload_n 3) 1, qt (.ifCond .eq 14) 3 86, qn, qn, qe (.aload_n 0) 1, qe (.aload_n 0) 1, qf (.getfield 19) 4 2 0],
  [qf (.invokevirtual 107) 66 1 0, qn, qn, qt (.ifCond .eq 5) 3 88, qn, qn, qe (.iconst 0) 1, some (.ireturn, 1, 0, 0, 3), qe (.aload_n 0) 1, qf (.getfield 47) 4 4 0, qn, qn, qe (.iload_n 1) 1, qt (.if_icmp .lt 11) 3 104],
  [qe (.aload_n 0) 1, qf (.getfield 47) 4 4 0, qn, qn, qe (.iload_n 2) 1, qt (.if_icmp .le 15) 3 116, qn, qn, qe (.aload_n 0) 1, qe .dup 1, qf (.getfield 19) 4 2 0, qn, qn, qe (.iconst 1) 1, qe .isub 1, qf (.putfield 19) 4 2 0],
  [qn, qn, qe (.iconst 0) 1, some (.ireturn, 1, 0, 0, 3), qe (.iconst 1) 1, some (.ireturn, 1, 0, 0, 3)]]
def qp66 : List (List (Option qE)) := [[qe (.iload_n 1) 1, qt (.ifCond .lt 46) 3 47, qn, qn, qe (.iload_n 1) 1, qe (.aload_n 0) 1, qf (.getfield 9) 4 0 2, qn, qn, qf (.getfield 116) 8 1 0, qn, qn, qt (.if_icmp .ge 35) 3 47, qn, qn, qe (.aload_n 0) 1],
  [qf (.getfield 9) 4 0 2, qn, qn, qf (.getfield 110) 8 0 2, qn, qn, qe (.iload_n 1) 1, qe .iaload 1, qe (.bipush 48) 2, qn, qt (.if_icmp .lt 21) 3 47, qn, qn, qe (.aload_n 0) 1, qf (.getfield 9) 4 0 2],
  [qn, qf (.getfield 110) 8 0 2, qn, qn, qe (.iload_n 1) 1, qe .iaload 1, qe (.bipush 57) 2, qn, qt (.if_icmp .gt 7) 3 47, qn, qn, qe (.iconst 1) 1, qt (.goto 4) 3 48, qn, qn, qe (.iconst 0) 1],
  [some (.ireturn, 1, 0, 0, 3)]]
def qp67 : List (List (Option qE)) := [[qe (.aload_n 0) 1, qf (.getfield 19) 4 2 0, qn, qn, qe (.aload_n 0) 1, qf (.getfield 9) 4 0 2, qn, qn, qf (.getfield 116) 8 1 0, qn, qn, qt (.if_icmp .ge 33) 3 44, qn, qn, qe (.aload_n 0) 1, qf (.getfield 9) 4 0 2],
  [qn, qn, qf (.getfield 110) 8 0 2, qn, qn, qe (.aload_n 0) 1, qf (.getfield 19) 4 2 0, qn, qn, qe .iaload 1, qe (.bipush 32) 2, qn, qt (.if_icmp .ne 16) 3 44, qn, qn, qe (.aload_n 0) 1],
  [qe .dup 1, qf (.getfield 19) 4 2 0, qn, qn, qe (.iconst 1) 1, qe .iadd 1, qf (.putfield 19) 4 2 0, qn, qn, qe (.goto (-41)) 3, qn, qn, qe (.aload_n 0) 1, qf (.getfield 19) 4 2 0],
  [qe (.aload_n 0) 1, qf (.getfield 9) 4 0 2, qn, qn, qf (.getfield 116) 8 1 0, qn, qn, qt (.if_icmp .ge 18) 3 73, qn, qn, qe (.aload_n 0) 1, qf (.getfield 9) 4 0 2, qn, qn, qf (.getfield 110) 8 0 2],
  [qn, qe (.aload_n 0) 1, qf (.getfield 19) 4 2 0, qn, qn, qe .iaload 1, qt (.goto 4) 3 74, qn, qn, qe (.iconst 0) 1, qe .ireturn 1]]
def qp68 : List (List (Option qE)) := [[qe (.aload_n 0) 1, qf (.invokespecial 3) 1000 0 2, qn, qn, qe (.aload_n 0) 1, qe (.bipush 25) 2, qn, qe (.newarray .int) 2, qn, qf (.putfield 11) 5 0 2, qn, qn, qe (.aload_n 0) 1, qe (.bipush 25) 2, qn, qe (.newarray .int) 2],
  [qn, qf (.putfield 15) 5 1 2, qn, qn, qe (.aload_n 0) 1, qe (.bipush 25) 2, qn, qe (.newarray .int) 2, qn, qf (.putfield 18) 5 2 2, qn, qn, qe .return_ 1]]
def qp69 : List (List (Option qE)) := [[qe (.aload_n 2) 1, qf (.getfield 21) 0 7 0, qn, qn, qe (.istore_n 3) 1, qe (.aload_n 0) 1, qf (.getfield 11) 5 0 2, qn, qn, qe (.iconst 0) 1, qf (.invokestatic 27) 268 2 1, qn, qn, qe (.aload_n 0) 1, qf (.getfield 15) 5 1 2],
  [qn, qe (.iconst 0) 1, qf (.invokestatic 27) 268 2 1, qn, qn, qe (.aload_n 0) 1, qf (.getfield 11) 5 0 2, qn, qn, qe (.iconst 0) 1, qe (.iconst 1) 1, qe .iastore 1, qe (.aload_n 0) 1, qf (.getfield 15) 5 1 2],
  [qe (.iconst 0) 1, qe (.iconst 1) 1, qe .iastore 1, qe (.iconst 0) 1, qe (.istore 4) 2, qn, qe (.iconst 1) 1, qe (.istore 5) 2, qn, qe (.iconst 1) 1, qe (.istore 6) 2, qn, qe (.iconst 0) 1, qe (.istore 7) 2, qn, qe (.iload 7) 2],
  [qn, qe (.aload_n 1) 1, qf (.getfield 33) 6 1 0, qn, qn, qt (.if_icmp .ge 175) 3 228, qn, qn, qe (.aload_n 0) 1, qe (.aload_n 1) 1, qe (.iload 7) 2, qn, qe (.iload 4) 2, qn, qf (.invokevirtual 38) 70 3 0],
  [qn, qe (.iload_n 3) 1, qe .irem 1, qe (.istore 8) 2, qn, qe (.iload 8) 2, qn, qt (.ifCond .ne 9) 3 80, qn, qn, qe (.iinc 5 1) 3, qn, qn, qt (.goto 145) 3 222],
  [qe (.iload 8) 2, qn, qe (.aload_n 2) 1, qe (.iload 6) 2, qn, qf (.invokevirtual 42) 3 1 0, qn, qn, qe .imul 1, qe (.iload_n 3) 1, qe .irem 1, qe (.istore 9) 2, qn, qe (.iconst 2) 1, qe (.iload 4) 2],
  [qe .imul 1, qe (.iload 7) 2, qn, qt (.if_icmp .gt 7) 3 106, qn, qn, qe (.iconst 1) 1, qt (.goto 4) 3 107, qn, qn, qe (.iconst 0) 1, qe (.istore 10) 2, qn, qe (.iload 10) 2, qn, qt (.ifCond .eq 18) 3 129],
  [qn, qn, qe (.aload_n 0) 1, qf (.getfield 11) 5 0 2, qn, qn, qe (.iconst 0) 1, qe (.aload_n 0) 1, qf (.getfield 18) 5 2 2, qn, qn, qe (.iconst 0) 1, qe (.bipush 25) 2, qn, qf (.invokestatic 46) 1003 5 1],
  [qn, qe (.iload 5) 2, qn, qe (.istore 11) 2, qn, qe (.iload 11) 2, qn, qe (.bipush 25) 2, qn, qt (.if_icmp .ge 41) 3 178, qn, qn, qe (.aload_n 0) 1, qf (.getfield 11) 5 0 2],
  [qe (.iload 11) 2, qn, qe (.aload_n 0) 1, qf (.getfield 11) 5 0 2, qn, qn, qe (.iload 11) 2, qn, qe .iaload 1, qe (.iload_n 3) 1, qe (.iload 9) 2, qn, qe .isub 1, qe (.aload_n 0) 1, qf (.getfield 15) 5 1 2],
  [qn, qe (.iload 11) 2, qn, qe (.iload 5) 2, qn, qe .isub 1, qe .iaload 1, qe .imul 1, qe .iadd 1, qe (.iload_n 3) 1, qe .irem 1, qe .iastore 1, qe (.iinc 11 1) 3, qn, qn, qt (.goto (-42)) 3 133],
  [qn, qn, qe (.iinc 5 1) 3, qn, qn, qe (.iload 10) 2, qn, qt (.ifCond .eq 39) 3 222, qn, qn, qe (.iload 7) 2, qn, qe (.iconst 1) 1, qe .iadd 1, qe (.iload 4) 2],
  [qe .isub 1, qe (.istore 4) 2, qn, qe (.iload 8) 2, qn, qe (.istore 6) 2, qn, qe (.iconst 1) 1, qe (.istore 5) 2, qn, qe (.aload_n 0) 1, qf (.getfield 15) 5 1 2, qn, qn, qe (.astore 11) 2],
  [qe (.aload_n 0) 1, qe (.aload_n 0) 1, qf (.getfield 18) 5 2 2, qn, qn, qf (.putfield 15) 5 1 2, qn, qn, qe (.aload_n 0) 1, qe (.aload 11) 2, qn, qf (.putfield 18) 5 2 2, qn, qn, qe (.iinc 7 1) 3],
  [qn, qt (.goto (-178)) 3 47, qn, qn, qe (.iload 4) 2, qn, qe .ireturn 1]]
def qp70 : List (List (Option qE)) := [[qe (.iconst 0) 1, qe (.istore 4) 2, qn, qe (.iconst 0) 1, qe (.istore 5) 2, qn, qe (.iload 5) 2, qn, qe (.iload_n 3) 1, qt (.if_icmp .gt 37) 3 46, qn, qn, qe (.iload 5) 2, qn, qe (.iload_n 2) 1, qt (.if_icmp .gt 31) 3 46],
  [qn, qn, qe (.iload 4) 2, qn, qe (.aload_n 0) 1, qf (.getfield 11) 5 0 2, qn, qn, qe (.iload 5) 2, qn, qe .iaload 1, qe (.aload_n 1) 1, qf (.getfield 52) 6 0 2, qn, qn, qe (.iload_n 2) 1],
  [qe (.iload 5) 2, qn, qe .isub 1, qe .iaload 1, qe .imul 1, qe .iadd 1, qe (.istore 4) 2, qn, qe (.iinc 5 1) 3, qn, qn, qt (.goto (-37)) 3 6, qn, qn, qe (.iload 4) 2],
  [qe .ireturn 1]]
def qp71 : List (List (Option qE)) := [[qe (.iload_n 1) 1, qe (.iconst 1) 1, qt (.if_icmp .lt 18) 3 20, qn, qn, qe (.iload_n 1) 1, qe (.bipush 25) 2, qn, qt (.if_icmp .ge 12) 3 20, qn, qn, qe (.aload_n 0) 1, qf (.getfield 11) 5 0 2, qn, qn, qe (.iload_n 1) 1],
  [qe .iaload 1, qt (.ifCond .ne 7) 3 24, qn, qn, qe (.iconst 0) 1, qt (.goto 11) 3 32, qn, qn, qe (.iload_n 2) 1, qe (.aload_n 0) 1, qf (.getfield 11) 5 0 2, qn, qn, qe (.iload_n 1) 1, qe .iaload 1, qe .isub 1],
  [qe .ireturn 1]]
def qp72 : List (List (Option qE)) := [[qe (.aload_n 0) 1, qf (.invokespecial 3) 1000 0 2, qn, qn, qe (.aload_n 0) 1, qe (.bipush 24) 2, qn, qe (.newarray .int) 2, qn, qf (.putfield 9) 6 0 2, qn, qn, qe .return_ 1]]
def qp73 : List (List (Option qE)) := [[qe (.iconst 0) 1, qe (.istore_n 1) 1, qe (.iload_n 1) 1, qe (.aload_n 0) 1, qf (.getfield 15) 6 1 0, qn, qn, qt (.if_icmp .ge 20) 3 27, qn, qn, qe (.aload_n 0) 1, qf (.getfield 9) 6 0 2, qn, qn, qe (.iload_n 1) 1, qe .iaload 1],
  [qt (.ifCond .eq 5) 3 21, qn, qn, qe (.iload_n 1) 1, qe .ireturn 1, qe (.iinc 1 1) 3, qn, qn, qt (.goto (-22)) 3 2, qn, qn, qe (.aload_n 0) 1, qf (.getfield 15) 6 1 0, qn, qn, qe .ireturn 1]]
def qp74 : List (List (Option qE)) := [[qe (.aload_n 1) 1, qf (.getfield 9) 6 0 2, qn, qn, qe (.iconst 0) 1, qe (.aload_n 0) 1, qf (.getfield 9) 6 0 2, qn, qn, qe (.iconst 0) 1, qe (.bipush 24) 2, qn, qf (.invokestatic 19) 1003 5 1, qn, qn, qe (.aload_n 0) 1],
  [qe (.aload_n 1) 1, qf (.getfield 15) 6 1 0, qn, qn, qf (.putfield 15) 6 1 0, qn, qn, qe .return_ 1]]
def qp75 : List (List (Option qE)) := [[qe (.aload_n 0) 1, qe (.aload_n 0) 1, qf (.getfield 15) 6 1 0, qn, qn, qe (.iload_n 1) 1, qf (.invokestatic 25) 1001 2 1, qn, qn, qf (.putfield 15) 6 1 0, qn, qn, qe .return_ 1]]
def qp76 : List (List (Option qE)) := [[qe (.iload_n 1) 1, qe (.bipush 24) 2, qn, qf (.invokestatic 25) 1001 2 1, qn, qn, qe (.istore_n 2) 1, qe (.aload_n 0) 1, qf (.getfield 15) 6 1 0, qn, qn, qe (.istore_n 3) 1, qe (.iload_n 3) 1, qe (.iload_n 2) 1, qt (.if_icmp .ge 16) 3 30],
  [qn, qe (.aload_n 0) 1, qf (.getfield 9) 6 0 2, qn, qn, qe (.iload_n 3) 1, qe (.iconst 0) 1, qe .iastore 1, qe (.iinc 3 1) 3, qn, qn, qt (.goto (-15)) 3 12, qn, qn, qe (.aload_n 0) 1, qe (.iload_n 2) 1],
  [qf (.putfield 15) 6 1 0, qn, qn, qe .return_ 1]]
def qp77 : List (List (Option qE)) := [[qe (.iload_n 1) 1, qt (.ifCond .le 40) 3 41, qn, qn, qe (.iload_n 1) 1, qe (.aload_n 0) 1, qf (.getfield 15) 6 1 0, qn, qn, qt (.if_icmp .gt 32) 3 41, qn, qn, qe (.aload_n 0) 1, qf (.getfield 9) 6 0 2],
  [qe (.iload_n 1) 1, qe (.aload_n 0) 1, qf (.getfield 9) 6 0 2, qn, qn, qe (.iconst 0) 1, qe (.aload_n 0) 1, qf (.getfield 15) 6 1 0, qn, qn, qe (.iload_n 1) 1, qe .isub 1, qf (.invokestatic 19) 1003 5 1, qn, qn, qe (.aload_n 0) 1],
  [qe .dup 1, qf (.getfield 15) 6 1 0, qn, qn, qe (.iload_n 1) 1, qe .isub 1, qf (.putfield 15) 6 1 0, qn, qn, qe .return_ 1]]
def qp78 : List (List (Option qE)) := [[qe (.aload_n 0) 1, qf (.invokespecial 3) 1000 0 2, qn, qn, qe (.aload_n 0) 1, qe (.bipush 8) 2, qn, qe (.newarray .int) 2, qn, qf (.putfield 9) 7 0 2, qn, qn, qe (.aload_n 0) 1, qe (.sipush 192) 3],
  [qe (.newarray .int) 2, qn, qf (.putfield 15) 7 1 2, qn, qn, qe (.aload_n 0) 1, qe (.bipush 60) 2, qn, qe (.newarray .int) 2, qn, qf (.putfield 18) 7 2 2, qn, qn, qe .return_ 1]]
def qp79 : List (List (Option qE)) := [[qe (.aload_n 0) 1, qf (.getfield 9) 7 0 2, qn, qn, qe (.iconst 0) 1, qf (.invokestatic 21) 268 2 1, qn, qn, qe (.aload_n 0) 1, qe (.iconst 0) 1, qf (.putfield 27) 7 3 0, qn, qn, qe .return_ 1]]
def qp80 : List (List (Option qE)) := [[qe (.aload_n 1) 1, qf (.getfield 9) 7 0 2, qn, qn, qe (.iconst 0) 1, qe (.aload_n 0) 1, qf (.getfield 9) 7 0 2, qn, qn, qe (.iconst 0) 1, qe (.bipush 8) 2, qn, qf (.invokestatic 31) 1003 5 1, qn, qn, qe (.aload_n 1) 1],
  [qf (.getfield 15) 7 1 2, qn, qn, qe (.iconst 0) 1, qe (.aload_n 0) 1, qf (.getfield 15) 7 1 2, qn, qn, qe (.iconst 0) 1, qe (.sipush 192) 3, qn, qn, qf (.invokestatic 31) 1003 5 1, qn, qn, qe (.aload_n 1) 1],
  [qf (.getfield 18) 7 2 2, qn, qn, qe (.iconst 0) 1, qe (.aload_n 0) 1, qf (.getfield 18) 7 2 2, qn, qn, qe (.iconst 0) 1, qe (.bipush 60) 2, qn, qf (.invokestatic 31) 1003 5 1, qn, qn, qe (.aload_n 0) 1, qe (.aload_n 1) 1],
  [qf (.getfield 27) 7 3 0, qn, qn, qf (.putfield 27) 7 3 0, qn, qn, qe .return_ 1]]
def qp81 : List (List (Option qE)) := [[qe (.iload_n 1) 1, qe (.bipush 24) 2, qn, qe .imul 1, qe (.iload_n 2) 1, qe .iadd 1, qe (.istore_n 3) 1, qe (.iload_n 3) 1, qt (.ifCond .lt 12) 3 20, qn, qn, qe (.iload_n 3) 1, qe (.aload_n 0) 1, qf (.getfield 15) 7 1 2],
  [qe .arraylength 1, qt (.if_icmp .lt 7) 3 24, qn, qn, qe (.iconst 0) 1, qt (.goto 9) 3 30, qn, qn, qe (.aload_n 0) 1, qf (.getfield 15) 7 1 2, qn, qn, qe (.iload_n 3) 1, qe .iaload 1, qe .ireturn 1]]
def qp82 : List (List (Option qE)) := [[qe (.iload_n 1) 1, qt (.ifCond .lt 9) 3 10, qn, qn, qe (.iload_n 1) 1, qe (.bipush 8) 2, qn, qt (.if_icmp .lt 9) 3 16, qn, qn, qe (.aload_n 2) 1, qe (.iconst 0) 1, qf (.putfield 37) 6 1 0, qn, qn, qe .return_ 1],
  [qe (.aload_n 0) 1, qf (.getfield 15) 7 1 2, qn, qn, qe (.iload_n 1) 1, qe (.bipush 24) 2, qn, qe .imul 1, qe (.aload_n 2) 1, qf (.getfield 42) 6 0 2, qn, qn, qe (.iconst 0) 1, qe (.bipush 24) 2, qn, qf (.invokestatic 31) 1003 5 1],
  [qn, qn, qe (.aload_n 2) 1, qe (.aload_n 0) 1, qf (.getfield 9) 7 0 2, qn, qn, qe (.iload_n 1) 1, qe .iaload 1, qf (.putfield 37) 6 1 0, qn, qn, qe .return_ 1]]
def qp83 : List (List (Option qE)) := [[qe (.iload_n 1) 1, qt (.ifCond .lt 37) 3 38, qn, qn, qe (.iload_n 1) 1, qe (.bipush 8) 2, qn, qt (.if_icmp .ge 31) 3 38, qn, qn, qe (.aload_n 2) 1, qf (.getfield 42) 6 0 2, qn, qn, qe (.iconst 0) 1, qe (.aload_n 0) 1],
  [qf (.getfield 15) 7 1 2, qn, qn, qe (.iload_n 1) 1, qe (.bipush 24) 2, qn, qe .imul 1, qe (.bipush 24) 2, qn, qf (.invokestatic 31) 1003 5 1, qn, qn, qe (.aload_n 0) 1, qf (.getfield 9) 7 0 2],
  [qe (.iload_n 1) 1, qe (.aload_n 2) 1, qf (.getfield 37) 6 1 0, qn, qn, qe .iastore 1, qe .return_ 1]]
def qp84 : List (List (Option qE)) := [[qe (.aload_n 0) 1, qf (.getfield 9) 7 0 2, qn, qn, qe (.iload_n 1) 1, qe .iaload 1, qe (.istore_n 3) 1, qe (.aload_n 0) 1, qf (.getfield 9) 7 0 2, qn, qn, qe (.iload_n 1) 1, qe (.aload_n 0) 1, qf (.getfield 9) 7 0 2],
  [qe (.iload_n 2) 1, qe .iaload 1, qe .iastore 1, qe (.aload_n 0) 1, qf (.getfield 9) 7 0 2, qn, qn, qe (.iload_n 2) 1, qe (.iload_n 3) 1, qe .iastore 1, qe (.iconst 0) 1, qe (.istore 4) 2, qn, qe (.iload 4) 2, qn, qe (.bipush 24) 2],
  [qn, qt (.if_icmp .ge 61) 3 94, qn, qn, qe (.aload_n 0) 1, qf (.getfield 15) 7 1 2, qn, qn, qe (.iload_n 1) 1, qe (.bipush 24) 2, qn, qe .imul 1, qe (.iload 4) 2, qn, qe .iadd 1, qe .iaload 1],
  [qe (.istore 5) 2, qn, qe (.aload_n 0) 1, qf (.getfield 15) 7 1 2, qn, qn, qe (.iload_n 1) 1, qe (.bipush 24) 2, qn, qe .imul 1, qe (.iload 4) 2, qn, qe .iadd 1, qe (.aload_n 0) 1, qf (.getfield 15) 7 1 2],
  [qn, qe (.iload_n 2) 1, qe (.bipush 24) 2, qn, qe .imul 1, qe (.iload 4) 2, qn, qe .iadd 1, qe .iaload 1, qe .iastore 1, qe (.aload_n 0) 1, qf (.getfield 15) 7 1 2, qn, qn, qe (.iload_n 2) 1, qe (.bipush 24) 2],
  [qn, qe .imul 1, qe (.iload 4) 2, qn, qe .iadd 1, qe (.iload 5) 2, qn, qe .iastore 1, qe (.iinc 4 1) 3, qn, qn, qt (.goto (-62)) 3 29, qn, qn, qe .return_ 1]]
def qp85 : List (List (Option qE)) := [[qe (.aload_n 0) 1, qf (.getfield 27) 7 3 0, qn, qn, qe (.bipush 60) 2, qn, qt (.if_icmp .ne 28) 3 34, qn, qn, qe (.aload_n 0) 1, qf (.getfield 18) 7 2 2, qn, qn, qe (.iconst 1) 1, qe (.aload_n 0) 1, qf (.getfield 18) 7 2 2],
  [qn, qn, qe (.iconst 0) 1, qe (.bipush 59) 2, qn, qf (.invokestatic 31) 1003 5 1, qn, qn, qe (.aload_n 0) 1, qe .dup 1, qf (.getfield 27) 7 3 0, qn, qn, qe (.iconst 1) 1, qe .isub 1, qf (.putfield 27) 7 3 0],
  [qn, qn, qe (.aload_n 0) 1, qf (.getfield 18) 7 2 2, qn, qn, qe (.aload_n 0) 1, qf (.getfield 27) 7 3 0, qn, qn, qe (.iload_n 1) 1, qe (.sipush 1000) 3, qn, qn, qe .imul 1, qe (.iload_n 2) 1],
  [qe (.bipush 100) 2, qn, qe .imul 1, qe .iadd 1, qe (.aload_n 0) 1, qf (.getfield 9) 7 0 2, qn, qn, qe (.iload_n 2) 1, qe .iaload 1, qe .iadd 1, qe .iastore 1, qe (.aload_n 0) 1, qe .dup 1, qf (.getfield 27) 7 3 0],
  [qn, qe (.iconst 1) 1, qe .iadd 1, qf (.putfield 27) 7 3 0, qn, qn, qe .return_ 1]]
def qp86 : List (List (Option qE)) := [[qe (.iload_n 1) 1, qt (.ifCond .lt 11) 3 12, qn, qn, qe (.iload_n 1) 1, qe (.aload_n 0) 1, qf (.getfield 27) 7 3 0, qn, qn, qt (.if_icmp .lt 6) 3 15, qn, qn, qt (.ldc 45) 2 4293967296, qn, qe .ireturn 1, qe (.aload_n 0) 1],
  [qf (.getfield 18) 7 2 2, qn, qn, qe (.aload_n 0) 1, qf (.getfield 27) 7 3 0, qn, qn, qe (.iconst 1) 1, qe .isub 1, qe (.iload_n 1) 1, qe .isub 1, qe .iaload 1, qe (.istore_n 3) 1, qe (.iload_n 2) 1, qe (.tableswitch 45 0 2 #[26, 32, 40]) 26],
  [],
  [qn, qn, qn, qn, qn, qn, qn, qn, qe (.iload_n 3) 1, qe (.sipush 1000) 3, qn, qn, qe .idiv 1, qe .ireturn 1, qe (.iload_n 3) 1, qe (.bipush 100) 2],
  [qn, qe .idiv 1, qe (.bipush 10) 2, qn, qe .irem 1, qe .ireturn 1, qe (.iload_n 3) 1, qe (.bipush 100) 2, qn, qe .irem 1, qe .ireturn 1, qt (.ldc 45) 2 4293967296, qn, qe .ireturn 1]]
def qp87 : List (List (Option qE)) := [[qe (.iconst 0) 1, qe (.istore_n 2) 1, qe (.iload_n 2) 1, qe (.aload_n 0) 1, qf (.getfield 9) 7 0 2, qn, qn, qe (.iload_n 1) 1, qe .iaload 1, qt (.if_icmp .ge 18) 3 27, qn, qn, qe (.aload_n 0) 1, qe (.iload_n 1) 1, qe (.iload_n 2) 1, qf (.invokevirtual 46) 81 2 0],
  [qn, qn, qt (.ifCond .ne 9) 3 27, qn, qn, qe (.iinc 2 1) 3, qn, qn, qt (.goto (-22)) 3 2, qn, qn, qe (.iload_n 2) 1, qe .ireturn 1]]
def qp88 : List (List (Option qE)) := [[qe (.aload_n 0) 1, qt (.invokevirtual 50) 3 89, qn, qn, qf (.invokestatic 54) 267 1 1, qn, qn, qe .ireturn 1]]
def qp89 : List (List (Option qE)) := [[qe (.iconst 0) 1, qe (.istore_n 1) 1, qe (.iconst 0) 1, qe (.istore_n 2) 1, qe (.iload_n 2) 1, qe (.bipush 8) 2, qn, qt (.if_icmp .ge 24) 3 31, qn, qn, qe (.aload_n 0) 1, qf (.getfield 9) 7 0 2, qn, qn, qe (.iload_n 2) 1, qe .iaload 1],
  [qt (.ifCond .le 9) 3 25, qn, qn, qe (.iload_n 1) 1, qe (.iconst 1) 1, qe (.iload_n 2) 1, qe .ishl 1, qe .ior 1, qe (.istore_n 1) 1, qe (.iinc 2 1) 3, qn, qn, qt (.goto (-24)) 3 4, qn, qn, qe (.iload_n 1) 1],
  [qe .ireturn 1]]
def qp90 : List (List (Option qE)) := [[qe (.iconst (-1)) 1, qe (.istore_n 1) 1, qe (.iconst 0) 1, qe (.istore_n 2) 1, qe (.iload_n 2) 1, qe (.bipush 8) 2, qn, qt (.if_icmp .ge 40) 3 47, qn, qn, qe (.aload_n 0) 1, qf (.getfield 9) 7 0 2, qn, qn, qe (.iload_n 2) 1, qe .iaload 1],
  [qt (.ifCond .le 25) 3 41, qn, qn, qe (.iload_n 1) 1, qe (.iconst (-1)) 1, qt (.if_icmp .eq 18) 3 39, qn, qn, qe (.aload_n 0) 1, qf (.getfield 9) 7 0 2, qn, qn, qe (.iload_n 2) 1, qe .iaload 1, qe (.aload_n 0) 1, qf (.getfield 9) 7 0 2],
  [qn, qn, qe (.iload_n 1) 1, qe .iaload 1, qt (.if_icmp .le 5) 3 41, qn, qn, qe (.iload_n 2) 1, qe (.istore_n 1) 1, qe (.iinc 2 1) 3, qn, qn, qt (.goto (-40)) 3 4, qn, qn, qe (.iload_n 1) 1],
  [qe .ireturn 1]]
def qp91 : List (List (Option qE)) := [[qe (.iconst (-1)) 1, qe (.istore_n 1) 1, qe (.iconst (-1)) 1, qe (.istore_n 2) 1, qe (.iconst 0) 1, qe (.istore_n 3) 1, qe (.iload_n 3) 1, qe (.bipush 8) 2, qn, qt (.if_icmp .ge 35) 3 44, qn, qn, qe (.aload_n 0) 1, qf (.getfield 9) 7 0 2],
  [qe (.iload_n 3) 1, qe .iaload 1, qt (.ifCond .le 20) 3 38, qn, qn, qe (.aload_n 0) 1, qe (.iload_n 3) 1, qf (.invokevirtual 60) 87 1 0, qn, qn, qe (.iload_n 2) 1, qt (.if_icmp .le 11) 3 38, qn, qn, qe (.iload_n 3) 1, qe (.istore_n 1) 1],
  [qe (.aload_n 0) 1, qe (.iload_n 3) 1, qf (.invokevirtual 60) 87 1 0, qn, qn, qe (.istore_n 2) 1, qe (.iinc 3 1) 3, qn, qn, qt (.goto (-35)) 3 6, qn, qn, qe (.iload_n 1) 1, qe .ireturn 1]]
def qp92 : List (List (Option qE)) := [[qe (.iconst 0) 1, qe (.istore_n 1) 1, qe (.iconst 0) 1, qe (.istore_n 2) 1, qe (.iload_n 2) 1, qe (.bipush 8) 2, qn, qt (.if_icmp .ge 18) 3 25, qn, qn, qe (.iload_n 1) 1, qe (.aload_n 0) 1, qf (.getfield 9) 7 0 2, qn, qn, qe (.iload_n 2) 1],
  [qe .iaload 1, qe .iadd 1, qe (.istore_n 1) 1, qe (.iinc 2 1) 3, qn, qn, qt (.goto (-18)) 3 4, qn, qn, qe (.iload_n 1) 1, qe .ireturn 1]]
def qp93 : List (List (Option qE)) := [[qe (.iconst 0) 1, qe (.istore_n 1) 1, qe (.iconst 0) 1, qe (.istore_n 2) 1, qe (.iload_n 2) 1, qe (.bipush 8) 2, qn, qt (.if_icmp .ge 39) 3 46, qn, qn, qe (.iconst 0) 1, qe (.istore_n 3) 1, qe (.iload_n 3) 1, qe (.aload_n 0) 1, qf (.getfield 9) 7 0 2],
  [qn, qe (.iload_n 2) 1, qe .iaload 1, qt (.if_icmp .ge 21) 3 40, qn, qn, qe (.aload_n 0) 1, qe (.iload_n 2) 1, qe (.iload_n 3) 1, qf (.invokevirtual 46) 81 2 0, qn, qn, qt (.ifCond .eq 6) 3 34, qn, qn, qe (.iinc 1 1) 3],
  [qn, qn, qe (.iinc 3 1) 3, qn, qn, qt (.goto (-25)) 3 12, qn, qn, qe (.iinc 2 1) 3, qn, qn, qt (.goto (-39)) 3 4, qn, qn, qe (.iload_n 1) 1, qe .ireturn 1]]
def qp94 : List (List (Option qE)) := [[qe (.iconst 0) 1, qe (.istore_n 1) 1, qe (.iconst 0) 1, qe (.istore_n 2) 1, qe (.iload_n 2) 1, qe (.bipush 8) 2, qn, qt (.if_icmp .ge 38) 3 45, qn, qn, qe (.iconst 0) 1, qe (.istore_n 3) 1, qe (.iload_n 3) 1, qe (.aload_n 0) 1, qf (.getfield 9) 7 0 2],
  [qn, qe (.iload_n 2) 1, qe .iaload 1, qt (.if_icmp .ge 20) 3 39, qn, qn, qe (.iload_n 1) 1, qe (.aload_n 0) 1, qe (.iload_n 2) 1, qe (.iload_n 3) 1, qf (.invokevirtual 46) 81 2 0, qn, qn, qf (.invokestatic 63) 1002 2 1],
  [qe (.istore_n 1) 1, qe (.iinc 3 1) 3, qn, qn, qt (.goto (-24)) 3 12, qn, qn, qe (.iinc 2 1) 3, qn, qn, qt (.goto (-38)) 3 4, qn, qn, qe (.iload_n 1) 1, qe .ireturn 1]]
def qp95 : List (List (Option qE)) := [[qe (.iconst 0) 1, qe (.istore_n 1) 1, qe (.iconst 0) 1, qe (.istore_n 2) 1, qe (.iload_n 2) 1, qe (.bipush 8) 2, qn, qt (.if_icmp .ge 33) 3 40, qn, qn, qe (.aload_n 0) 1, qf (.getfield 9) 7 0 2, qn, qn, qe (.iload_n 2) 1, qe .iaload 1],
  [qt (.ifCond .le 18) 3 34, qn, qn, qe (.aload_n 0) 1, qe (.iload_n 2) 1, qe (.iconst 0) 1, qf (.invokevirtual 46) 81 2 0, qn, qn, qt (.ifCond .ne 9) 3 34, qn, qn, qe (.iload_n 1) 1, qe (.iconst 1) 1, qe (.iload_n 2) 1, qe .ishl 1],
  [qe .ior 1, qe (.istore_n 1) 1, qe (.iinc 2 1) 3, qn, qn, qt (.goto (-33)) 3 4, qn, qn, qe (.iload_n 1) 1, qe .ireturn 1]]
def qp96 : List (List (Option qE)) := [[qe (.aload_n 0) 1, qf (.invokespecial 3) 1000 0 2, qn, qn, qe (.aload_n 0) 1, qe (.sipush 320) 3, qn, qn, qe (.newarray .int) 2, qn, qf (.putfield 9) 8 0 2, qn, qn, qe .return_ 1]]
def qp97 : List (List (Option qE)) := [[qe (.bipush 24) 2, qn, qe (.istore_n 2) 1, qe (.iload_n 2) 1, qt (.ifCond .lt 51) 3 55, qn, qn, qe (.iload_n 1) 1, qe (.iload_n 2) 1, qe .iushr 1, qe (.sipush 255) 3, qn, qn, qe .iand 1, qe (.istore_n 3) 1, qe (.iload_n 3) 1],
  [qt (.ifCond .eq 33) 3 49, qn, qn, qe (.aload_n 0) 1, qf (.getfield 15) 8 1 0, qn, qn, qe (.sipush 320) 3, qn, qn, qt (.if_icmp .ge 23) 3 49, qn, qn, qe (.aload_n 0) 1, qf (.getfield 9) 8 0 2],
  [qn, qe (.aload_n 0) 1, qf (.getfield 15) 8 1 0, qn, qn, qe (.iload_n 3) 1, qe .iastore 1, qe (.aload_n 0) 1, qe .dup 1, qf (.getfield 15) 8 1 0, qn, qn, qe (.iconst 1) 1, qe .iadd 1, qf (.putfield 15) 8 1 0],
  [qn, qe (.iinc 2 (-8)) 3, qn, qn, qt (.goto (-49)) 3 3, qn, qn, qe .return_ 1]]
def qp98 : List (List (Option qE)) := [[qe (.aload_n 0) 1, qf (.invokespecial 1) 1000 0 2, qn, qn, qe (.aload_n 0) 1, qf (.new 7) 8 2 0, qn, qn, qe .dup 1, qf (.invokespecial 9) 96 0 2, qn, qn, qf (.putfield 10) 9 0 2, qn, qn, qe (.aload_n 0) 1],
  [qf (.new 16) 1 5 0, qn, qn, qe .dup 1, qe (.sipush 320) 3, qn, qn, qf (.invokespecial 18) 29 1 2, qn, qn, qf (.putfield 21) 9 1 2, qn, qn, qe (.aload_n 0) 1, qf (.new 25) 4 7 0],
  [qn, qe .dup 1, qe (.aload_n 0) 1, qf (.getfield 10) 9 0 2, qn, qn, qe (.aload_n 0) 1, qf (.getfield 21) 9 1 2, qn, qn, qf (.invokespecial 27) 47 2 2, qn, qn, qf (.putfield 30) 9 2 2],
  [qe (.aload_n 0) 1, qf (.new 34) 0 9 0, qn, qn, qe .dup 1, qf (.invokespecial 36) 0 0 2, qn, qn, qf (.putfield 37) 9 3 2, qn, qn, qe (.aload_n 0) 1, qf (.new 41) 3 3 0, qn, qn, qe .dup 1],
  [qe (.aload_n 0) 1, qf (.getfield 37) 9 3 2, qn, qn, qf (.invokespecial 43) 41 1 2, qn, qn, qf (.putfield 46) 9 4 2, qn, qn, qe (.aload_n 0) 1, qf (.new 50) 5 3 0, qn, qn, qe .dup 1, qf (.invokespecial 52) 68 0 2],
  [qn, qn, qf (.putfield 53) 9 5 2, qn, qn, qe (.aload_n 0) 1, qf (.new 57) 6 2 0, qn, qn, qe .dup 1, qf (.invokespecial 59) 72 0 2, qn, qn, qf (.putfield 60) 9 6 2],
  [qe (.aload_n 0) 1, qf (.new 64) 7 4 0, qn, qn, qe .dup 1, qf (.invokespecial 66) 78 0 2, qn, qn, qf (.putfield 67) 9 7 2, qn, qn, qe (.aload_n 0) 1, qf (.new 64) 7 4 0, qn, qn, qe .dup 1],
  [qf (.invokespecial 66) 78 0 2, qn, qn, qf (.putfield 71) 9 8 2, qn, qn, qe (.aload_n 0) 1, qf (.new 64) 7 4 0, qn, qn, qe .dup 1, qf (.invokespecial 66) 78 0 2, qn, qn, qf (.putfield 74) 9 9 2],
  [qn, qe (.aload_n 0) 1, qf (.new 77) 2 3 0, qn, qn, qe .dup 1, qf (.invokespecial 79) 37 0 2, qn, qn, qf (.putfield 80) 9 10 2, qn, qn, qe (.aload_n 0) 1, qe (.iconst 4) 1, qt (.anewarray 16) 3 105],
  [qn, qf (.putfield 84) 9 11 2, qn, qn, qe (.aload_n 0) 1, qe (.bipush 6) 2, qn, qe (.newarray .int) 2, qn, qf (.putfield 88) 9 12 2, qn, qn, qe .return_ 1]]
def qp99 : List (List (Option qE)) := [[qe (.iload_n 1) 1, qf (.invokestatic 92) 132 1 1, qn, qn, qe (.iload_n 2) 1, qf (.invokestatic 92) 132 1 1, qn, qn, qe .iadd 1, qe (.iload_n 3) 1, qf (.invokestatic 92) 132 1 1, qn, qn, qe .iadd 1, qe (.iload 4) 2],
  [qf (.invokestatic 92) 132 1 1, qn, qn, qe .iadd 1, qe (.iload 5) 2, qn, qf (.invokestatic 92) 132 1 1, qn, qn, qe .iadd 1, qe (.istore 6) 2, qn, qe (.aload_n 0) 1, qf (.getfield 10) 9 0 2],
  [qf (.getfield 96) 8 1 0, qn, qn, qe (.iload 6) 2, qn, qe .iadd 1, qe (.sipush 320) 3, qn, qn, qt (.if_icmp .le 5) 3 46, qn, qn, qe (.iconst (-1)) 1, qe .ireturn 1, qe (.aload_n 0) 1, qf (.getfield 10) 9 0 2],
  [qn, qn, qe (.iload_n 1) 1, qf (.invokevirtual 100) 97 1 0, qn, qn, qe (.aload_n 0) 1, qf (.getfield 10) 9 0 2, qn, qn, qe (.iload_n 2) 1, qf (.invokevirtual 100) 97 1 0, qn, qn, qe (.aload_n 0) 1, qf (.getfield 10) 9 0 2],
  [qn, qn, qe (.iload_n 3) 1, qf (.invokevirtual 100) 97 1 0, qn, qn, qe (.aload_n 0) 1, qf (.getfield 10) 9 0 2, qn, qn, qe (.iload 4) 2, qn, qf (.invokevirtual 100) 97 1 0, qn, qn, qe (.aload_n 0) 1],
  [qf (.getfield 10) 9 0 2, qn, qn, qe (.iload 5) 2, qn, qf (.invokevirtual 100) 97 1 0, qn, qn, qe (.aload_n 0) 1, qf (.getfield 10) 9 0 2, qn, qn, qf (.getfield 96) 8 1 0, qn, qn, qe .ireturn 1]]
def qp100 : List (List (Option qE)) := [[qe (.iload_n 1) 1, qt (.ifCond .lt 14) 3 15, qn, qn, qe (.iload_n 1) 1, qe (.aload_n 0) 1, qf (.getfield 10) 9 0 2, qn, qn, qf (.getfield 96) 8 1 0, qn, qn, qt (.if_icmp .le 5) 3 17, qn, qn, qe (.iconst 0) 1],
  [some (.ireturn, 1, 0, 0, 3), qe (.aload_n 0) 1, qf (.getfield 10) 9 0 2, qn, qn, qe (.iload_n 1) 1, qf (.putfield 96) 8 1 0, qn, qn, qe (.iconst 1) 1, some (.ireturn, 1, 0, 0, 3)]]
def qp101 : List (List (Option qE)) := [[qe (.iload_n 1) 1, qt (.ifCond .lt 8) 3 9, qn, qn, qe (.iload_n 1) 1, qe (.iconst 2) 1, qt (.if_icmp .le 8) 3 14, qn, qn, qe (.bipush (-2)) 2, qn, qt (.goto 11) 3 22, qn, qn, qe (.aload_n 0) 1, qf (.getfield 30) 9 2 2],
  [qn, qn, qe (.iload_n 1) 1, qf (.invokevirtual 103) 48 1 0, qn, qn, qe .ireturn 1]]
def qp102 : List (List (Option qE)) := [[qe (.iload_n 1) 1, qt (.ifCond .eq 10) 3 11, qn, qn, qe (.iload_n 1) 1, qe (.iconst 1) 1, qt (.if_icmp .eq 5) 3 11, qn, qn, qe (.iconst (-1)) 1, qe .ireturn 1, qe (.iload_n 1) 1, qe (.iconst 1) 1, qt (.if_icmp .ne 13) 3 26],
  [qe (.aload_n 0) 1, qf (.getfield 106) 9 13 0, qn, qn, qe (.iconst 4) 1, qt (.if_icmp .lt 5) 3 26, qn, qn, qe (.iconst (-1)) 1, qe .ireturn 1, qe (.aload_n 0) 1, qf (.getfield 30) 9 2 2, qn, qn, qe (.iload_n 1) 1, qf (.invokevirtual 103) 48 1 0],
  [qn, qn, qe (.iconst (-1)) 1, qt (.if_icmp .eq 5) 3 40, qn, qn, qe (.iconst (-1)) 1, qe .ireturn 1, qe (.aload_n 0) 1, qf (.getfield 10) 9 0 2, qn, qn, qe (.iconst 0) 1, qf (.putfield 96) 8 1 0],
  [qe (.iload_n 1) 1, qt (.ifCond .ne 10) 3 59, qn, qn, qe (.aload_n 0) 1, qt (.invokevirtual 109) 3 133, qn, qn, qt (.goto 7) 3 63, qn, qn, qe (.aload_n 0) 1, qt (.invokevirtual 113) 3 134, qn, qn, qe .ireturn 1]]
def qp103 : List (List (Option qE)) := [[qe (.aload_n 0) 1, qf (.getfield 116) 9 14 3, qn, qn, qt (.ifCond .eq 12) 3 16, qn, qn, qe (.iload_n 1) 1, qt (.ifCond .lt 8) 3 16, qn, qn, qe (.iload_n 1) 1, qe (.iconst 1) 1, qt (.if_icmp .le 5) 3 18],
  [qe (.iconst (-1)) 1, qe .ireturn 1, qe (.iload_n 1) 1, qt (.ifCond .ne 13) 3 32, qn, qn, qe (.aload_n 0) 1, qf (.getfield 37) 9 3 2, qn, qn, qf (.getfield 120) 0 7 0, qn, qn, qt (.goto 10) 3 39],
  [qe (.aload_n 0) 1, qf (.getfield 37) 9 3 2, qn, qn, qf (.getfield 123) 0 8 0, qn, qn, qe .ireturn 1]]
def qp104 : List (List (Option qE)) := [[qe (.aload_n 0) 1, qt (.invokevirtual 126) 3 138, qn, qn, qe (.istore_n 1) 1, qe (.iload_n 1) 1, qe (.iconst (-1)) 1, qt (.if_icmp .eq 9) 3 16, qn, qn, qe (.aload_n 0) 1, qe (.iload_n 1) 1, qf (.invokevirtual 129) 137 1 0, qn, qn, qe .ireturn 1],
  [qe (.aload_n 0) 1, qf (.getfield 10) 9 0 2, qn, qn, qe (.iconst 0) 1, qf (.putfield 96) 8 1 0, qn, qn, qe (.aload_n 0) 1, qe (.aload_n 0) 1, qf (.getfield 21) 9 1 2, qn, qn, qf (.getfield 132) 1 2 2],
  [qe (.iconst 0) 1, qe .iaload 1, qf (.invokevirtual 135) 139 1 0, qn, qn, qe .ireturn 1]]
def qp105 : List (List (Option qE)) := [[qe (.aload_n 0) 1, qt (.invokevirtual 126) 3 138, qn, qn, qe (.iconst (-1)) 1, qt (.if_icmp .eq 6) 3 11, qn, qn, qt (.ldc 138) 2 4293967296, qn, qe .ireturn 1, qe (.aload_n 0) 1, qf (.getfield 46) 9 4 2, qn, qn, qt (.invokevirtual 139) 3 42],
  [qn, qn, qe (.astore_n 2) 1, qe (.iload_n 1) 1, qe (.iconst (-1)) 1, qt (.if_icmp .ne 8) 3 29, qn, qn, qe (.aload_n 2) 1, qf (.getfield 143) 6 1 0, qn, qn, qe .ireturn 1, qe (.iload_n 1) 1, qt (.ifCond .lt 11) 3 41],
  [qn, qe (.iload_n 1) 1, qe (.aload_n 2) 1, qf (.getfield 143) 6 1 0, qn, qn, qt (.if_icmp .lt 8) 3 46, qn, qn, qt (.ldc 138) 2 4293967296, qn, qt (.goto 9) 3 52, qn, qn, qe (.aload_n 2) 1, qf (.getfield 144) 6 0 2],
  [qn, qn, qe (.iload_n 1) 1, qe .iaload 1, qe .ireturn 1]]
def qp106 : List (List (Option qE)) := [[qe (.aload_n 0) 1, qt (.invokevirtual 126) 3 138, qn, qn, qe .ireturn 1]]
def qp107 : List (List (Option qE)) := [[qe (.aload_n 0) 1, qf (.getfield 116) 9 14 3, qn, qn, qt (.ifCond .eq 13) 3 17, qn, qn, qe (.iload_n 1) 1, qt (.ifCond .lt 9) 3 17, qn, qn, qe (.iload_n 1) 1, qe (.bipush 8) 2, qn, qt (.if_icmp .lt 7) 3 21],
  [qn, qe (.iconst (-1)) 1, qt (.goto 12) 3 30, qn, qn, qe (.aload_n 0) 1, qf (.getfield 67) 9 7 2, qn, qn, qf (.getfield 147) 7 0 2, qn, qn, qe (.iload_n 1) 1, qe .iaload 1, qe .ireturn 1]]
def qp108 : List (List (Option qE)) := [[qe (.iload_n 2) 1, qt (.ifCond .lt 12) 3 13, qn, qn, qe (.iload_n 2) 1, qe (.aload_n 0) 1, qe (.iload_n 1) 1, qf (.invokevirtual 150) 135 1 0, qn, qn, qt (.if_icmp .lt 13) 3 23, qn, qn, qf (.new 153) 99 6 0],
  [qn, qn, qn, qn, qn, qn, qn, qe (.aload_n 0) 1, qf (.getfield 67) 9 7 2, qn, qn, qe (.iload_n 1) 1, qe (.iload_n 2) 1, qf (.invokevirtual 160) 81 2 0],
  [qe .ireturn 1]]
def qp109 : List (List (Option qE)) := [[qe (.aload_n 0) 1, qe (.iload_n 1) 1, qf (.invokevirtual 150) 135 1 0, qn, qn, qt (.ifCond .ne 7) 3 12, qn, qn, qe (.iconst (-1)) 1, qt (.goto 11) 3 20, qn, qn, qe (.aload_n 0) 1, qf (.getfield 67) 9 7 2],
  [qe (.iload_n 1) 1, qf (.invokevirtual 164) 87 1 0, qn, qn, qe .ireturn 1]]
def qp110 : List (List (Option qE)) := [[qe (.aload_n 0) 1, qe (.iload_n 1) 1, qf (.invokevirtual 150) 135 1 0, qn, qn, qe (.istore_n 3) 1, qe (.iload_n 3) 1, qt (.ifCond .ne 9) 3 16, qn, qn, qe (.aload_n 0) 1, qe (.iconst 0) 1, qf (.invokevirtual 129) 137 1 0, qn, qn, qe .ireturn 1],
  [qe (.iload_n 2) 1, qe (.iconst 1) 1, qt (.if_icmp .ge 9) 3 27, qn, qn, qe (.aload_n 0) 1, qe (.iconst 1) 1, qf (.invokevirtual 129) 137 1 0, qn, qn, qe .ireturn 1, qe (.iload_n 2) 1, qe (.iload_n 3) 1, qt (.if_icmp .lt 9) 3 38],
  [qe (.aload_n 0) 1, qe (.iconst 2) 1, qf (.invokevirtual 129) 137 1 0, qn, qn, qe .ireturn 1, qe (.aload_n 0) 1, qf (.getfield 80) 9 10 2, qn, qn, qe (.aload_n 0) 1, qf (.getfield 67) 9 7 2, qn, qn, qf (.invokevirtual 167) 39 1 0],
  [qn, qe (.aload_n 0) 1, qf (.getfield 67) 9 7 2, qn, qn, qf (.getfield 147) 7 0 2, qn, qn, qe (.iload_n 1) 1, qe (.iload_n 2) 1, qe .iastore 1, qe (.aload_n 0) 1, qf (.getfield 67) 9 7 2, qn, qn, qe (.iconst 1) 1],
  [qe (.iload_n 1) 1, qf (.invokevirtual 171) 85 2 0, qn, qn, qe (.iload_n 3) 1, qe .ireturn 1]]
def qp111 : List (List (Option qE)) := [[qe (.aload_n 0) 1, qe (.iload_n 1) 1, qf (.invokevirtual 150) 135 1 0, qn, qn, qe (.istore_n 2) 1, qe (.iload_n 2) 1, qt (.ifCond .ne 9) 3 16, qn, qn, qe (.aload_n 0) 1, qe (.iconst 0) 1, qf (.invokevirtual 129) 137 1 0, qn, qn, qe .ireturn 1],
  [qe (.aload_n 0) 1, qf (.getfield 80) 9 10 2, qn, qn, qe (.aload_n 0) 1, qf (.getfield 67) 9 7 2, qn, qn, qf (.invokevirtual 167) 39 1 0, qn, qn, qe (.aload_n 0) 1, qf (.getfield 67) 9 7 2, qn, qn, qf (.getfield 147) 7 0 2],
  [qn, qn, qe (.iload_n 1) 1, qe (.iconst 0) 1, qe .iastore 1, qe (.aload_n 0) 1, qf (.getfield 67) 9 7 2, qn, qn, qe (.iconst 2) 1, qe (.iload_n 1) 1, qf (.invokevirtual 171) 85 2 0, qn, qn, qe (.iload_n 2) 1, qe .ireturn 1]]
def qp112 : List (List (Option qE)) := [[qe (.iload_n 1) 1, qt (.ifCond .lt 19) 3 20, qn, qn, qe (.iload_n 1) 1, qe (.bipush 8) 2, qn, qt (.if_icmp .ge 13) 3 20, qn, qn, qe (.iload_n 2) 1, qt (.ifCond .lt 9) 3 20, qn, qn, qe (.iload_n 2) 1, qe (.bipush 8) 2],
  [qn, qt (.if_icmp .lt 9) 3 26, qn, qn, qe (.aload_n 0) 1, qe (.iconst 0) 1, qf (.invokevirtual 129) 137 1 0, qn, qn, qe .ireturn 1, qe (.aload_n 0) 1, qe (.iload_n 1) 1, qf (.invokevirtual 150) 135 1 0, qn, qn, qt (.ifCond .ne 17) 3 48],
  [qn, qn, qe (.aload_n 0) 1, qe (.iload_n 2) 1, qf (.invokevirtual 150) 135 1 0, qn, qn, qt (.ifCond .ne 9) 3 48, qn, qn, qe (.aload_n 0) 1, qe (.iconst 0) 1, qf (.invokevirtual 129) 137 1 0, qn, qn, qe .ireturn 1],
  [qe (.iload_n 1) 1, qe (.iload_n 2) 1, qt (.if_icmp .ne 9) 3 59, qn, qn, qe (.aload_n 0) 1, qe (.iconst 2) 1, qf (.invokevirtual 129) 137 1 0, qn, qn, qe .ireturn 1, qe (.aload_n 0) 1, qf (.getfield 80) 9 10 2, qn, qn, qe (.aload_n 0) 1],
  [qf (.getfield 67) 9 7 2, qn, qn, qf (.invokevirtual 167) 39 1 0, qn, qn, qe (.aload_n 0) 1, qf (.getfield 67) 9 7 2, qn, qn, qe (.iload_n 1) 1, qe (.iload_n 2) 1, qf (.invokevirtual 175) 84 2 0, qn, qn, qe (.aload_n 0) 1],
  [qf (.getfield 67) 9 7 2, qn, qn, qe (.iconst 3) 1, qe (.iload_n 1) 1, qf (.invokevirtual 171) 85 2 0, qn, qn, qe (.aload_n 0) 1, qf (.getfield 67) 9 7 2, qn, qn, qf (.getfield 147) 7 0 2, qn, qn, qe (.iload_n 1) 1],
  [qe .iaload 1, qe .ireturn 1]]
def qp113 : List (List (Option qE)) := [[qe (.aload_n 0) 1, qe (.iload_n 1) 1, qf (.invokevirtual 178) 136 1 0, qn, qn, qe (.astore_n 2) 1, qe (.aload_n 2) 1, qt (.ifnull 10) 3 17, qn, qn, qe (.aload_n 0) 1, qf (.getfield 116) 9 14 3, qn, qn, qt (.ifCond .ne 9) 3 23],
  [qn, qe (.aload_n 0) 1, qe (.iconst 0) 1, qf (.invokevirtual 129) 137 1 0, qn, qn, qe .ireturn 1, qe (.aload_n 0) 1, qe (.aload_n 2) 1, qf (.invokevirtual 182) 140 1 0, qn, qn, qe (.istore_n 3) 1, qe (.iload_n 3) 1, qe (.iconst (-1)) 1, qt (.if_icmp .eq 9) 3 40],
  [qn, qn, qe (.aload_n 0) 1, qe (.iload_n 3) 1, qf (.invokevirtual 129) 137 1 0, qn, qn, qe .ireturn 1, qe (.aload_n 0) 1, qf (.getfield 80) 9 10 2, qn, qn, qe (.aload_n 0) 1, qf (.getfield 67) 9 7 2],
  [qf (.invokevirtual 167) 39 1 0, qn, qn, qe (.aload_n 0) 1, qf (.getfield 67) 9 7 2, qn, qn, qe (.aload_n 0) 1, qf (.getfield 71) 9 8 2, qn, qn, qf (.invokevirtual 186) 80 1 0, qn, qn, qe (.aload_n 2) 1, qf (.getfield 189) 1 3 0],
  [qn, qn, qe .ireturn 1]]
def qp114 : List (List (Option qE)) := [[qe (.aload_n 0) 1, qf (.getfield 116) 9 14 3, qn, qn, qt (.ifCond .eq 14) 3 18, qn, qn, qe (.iload_n 1) 1, qe (.iconst 1) 1, qt (.if_icmp .lt 9) 3 18, qn, qn, qe (.iload_n 1) 1, qe (.bipush 40) 2, qn, qt (.if_icmp .le 5) 3 20],
  [qn, qn, qe (.iconst (-1)) 1, qe .ireturn 1, qe (.aload_n 0) 1, qe (.lload_n 2) 1, qf (.putfield 192) 9 17 1, qn, qn, qe (.iconst 0) 1, qe (.istore 4) 2, qn, qe (.iload 4) 2, qn, qe (.iload_n 1) 1, qt (.if_icmp .ge 47) 3 78],
  [qn, qn, qe (.aload_n 0) 1, qt (.invokevirtual 196) 3 142, qn, qn, qe (.aload_n 0) 1, qf (.getfield 46) 9 4 2, qn, qn, qe (.aload_n 0) 1, qf (.getfield 21) 9 1 2, qn, qn, qe (.iconst 0) 1, qe (.aload_n 0) 1],
  [qf (.getfield 67) 9 7 2, qn, qn, qf (.invokevirtual 199) 43 3 0, qn, qn, qe (.iconst (-1)) 1, qt (.if_icmp .ne 17) 3 72, qn, qn, qe (.aload_n 0) 1, qe (.aload_n 0) 1, qf (.getfield 21) 9 1 2, qn, qn, qf (.getfield 132) 1 2 2],
  [qn, qn, qe (.iconst 0) 1, qe .iaload 1, qf (.invokevirtual 135) 139 1 0, qn, qn, qe .pop 1, qe (.iinc 4 1) 3, qn, qn, qt (.goto (-47)) 3 28, qn, qn, qe (.aload_n 0) 1, qf (.getfield 67) 9 7 2],
  [qn, qn, qt (.invokevirtual 203) 3 88, qn, qn, qe .ireturn 1]]
def qp115 : List (List (Option qE)) := [[qe (.iload_n 1) 1, qt (.ifCond .lt 9) 3 10, qn, qn, qe (.iload_n 1) 1, qe (.bipush 6) 2, qn, qt (.if_icmp .lt 7) 3 14, qn, qn, qe (.iconst (-1)) 1, qt (.goto 9) 3 20, qn, qn, qe (.aload_n 0) 1, qf (.getfield 88) 9 12 2],
  [qn, qn, qe (.iload_n 1) 1, qe .iaload 1, qe .ireturn 1]]
def qp116 : List (List (Option qE)) := [[qe (.aload_n 0) 1, qf (.getfield 80) 9 10 2, qn, qn, qe (.aload_n 0) 1, qf (.getfield 67) 9 7 2, qn, qn, qf (.invokevirtual 206) 40 1 0, qn, qn, qe .ireturn 1]]
def qp117 : List (List (Option qE)) := [[qe (.aload_n 0) 1, qf (.getfield 67) 9 7 2, qn, qn, qe (.iload_n 1) 1, qe (.iload_n 2) 1, qf (.invokevirtual 210) 86 2 0, qn, qn, qe .ireturn 1]]
def qp118 : List (List (Option qE)) := [[qe (.aload_n 0) 1, qe (.iload_n 1) 1, qf (.invokevirtual 150) 135 1 0, qn, qn, qe (.aload_n 0) 1, qe (.iload_n 2) 1, qf (.invokevirtual 150) 135 1 0, qn, qn, qf (.invokestatic 213) 1001 2 1, qn, qn, qe (.istore_n 3) 1, qe (.iload_n 3) 1, qt (.ifCond .ne 5) 3 20],
  [qn, qn, qe (.iconst (-1)) 1, qe .ireturn 1, qe (.iconst 0) 1, qe (.istore 4) 2, qn, qe (.iload 4) 2, qn, qe (.iload_n 3) 1, qt (.if_icmp .ge 32) 3 58, qn, qn, qe (.aload_n 0) 1, qf (.getfield 67) 9 7 2],
  [qn, qe (.iload_n 1) 1, qe (.iload 4) 2, qn, qf (.invokevirtual 160) 81 2 0, qn, qn, qe (.aload_n 0) 1, qf (.getfield 67) 9 7 2, qn, qn, qe (.iload_n 2) 1, qe (.iload 4) 2, qn, qf (.invokevirtual 160) 81 2 0],
  [qn, qt (.if_icmp .ne 9) 3 58, qn, qn, qe (.iinc 4 1) 3, qn, qn, qt (.goto (-32)) 3 23, qn, qn, qe (.iload 4) 2, qn, qe .ireturn 1]]
def qp119 : List (List (Option qE)) := [[qe (.aload_n 0) 1, qe (.iload_n 1) 1, qf (.invokevirtual 150) 135 1 0, qn, qn, qt (.ifCond .eq 14) 3 19, qn, qn, qe (.iload_n 2) 1, qt (.ifCond .lt 10) 3 19, qn, qn, qe (.iload_n 2) 1, qe (.sipush 996) 3],
  [qt (.if_icmp .le 5) 3 21, qn, qn, qe (.iconst (-1)) 1, qe .ireturn 1, qe (.aload_n 0) 1, qf (.getfield 67) 9 7 2, qn, qn, qe (.iload_n 1) 1, qe (.aload_n 0) 1, qf (.getfield 60) 9 6 2, qn, qn, qf (.invokevirtual 218) 82 2 0],
  [qn, qe (.aload_n 0) 1, qf (.getfield 37) 9 3 2, qn, qn, qe (.aload_n 0) 1, qf (.getfield 60) 9 6 2, qn, qn, qe (.iload_n 2) 1, qf (.invokevirtual 222) 23 2 0, qn, qn, qe .ireturn 1]]
def qp120 : List (List (Option qE)) := [[qe (.aload_n 0) 1, qe (.iload_n 1) 1, qf (.invokevirtual 150) 135 1 0, qn, qn, qt (.ifCond .eq 24) 3 29, qn, qn, qe (.iload_n 2) 1, qt (.ifCond .lt 20) 3 29, qn, qn, qe (.iload_n 2) 1, qe (.iconst 4) 1, qt (.if_icmp .gt 15) 3 29],
  [qn, qe (.aload_n 0) 1, qf (.getfield 67) 9 7 2, qn, qn, qe (.iload_n 1) 1, qe (.iconst 0) 1, qf (.invokevirtual 160) 81 2 0, qn, qn, qt (.ifCond .ne 5) 3 31, qn, qn, qe (.iconst (-1)) 1, qe .ireturn 1, qe (.iconst 1) 1],
  [qe (.iload_n 2) 1, qe .ishl 1, qe (.aload_n 0) 1, qf (.getfield 67) 9 7 2, qn, qn, qf (.getfield 147) 7 0 2, qn, qn, qe (.iload_n 1) 1, qe .iaload 1, qf (.invokestatic 213) 1001 2 1, qn, qn, qe (.istore 4) 2],
  [qe (.iload_n 3) 1, qe (.iconst (-1)) 1, qt (.if_icmp .ne 6) 3 56, qn, qn, qe (.iload 4) 2, qn, qe .ireturn 1, qe (.iload_n 3) 1, qt (.ifCond .lt 9) 3 66, qn, qn, qe (.iload_n 3) 1, qe (.iload 4) 2, qn, qt (.if_icmp .lt 5) 3 68],
  [qn, qn, qe (.iconst (-1)) 1, qe .ireturn 1, qe (.aload_n 0) 1, qf (.getfield 67) 9 7 2, qn, qn, qe (.iload_n 1) 1, qe (.aload_n 0) 1, qf (.getfield 60) 9 6 2, qn, qn, qf (.invokevirtual 218) 82 2 0],
  [qe (.aload_n 0) 1, qf (.getfield 60) 9 6 2, qn, qn, qe (.iload 4) 2, qn, qf (.putfield 143) 6 1 0, qn, qn, qe (.aload_n 0) 1, qf (.getfield 37) 9 3 2, qn, qn, qe (.aload_n 0) 1, qf (.getfield 60) 9 6 2],
  [qn, qf (.invokevirtual 226) 11 1 0, qn, qn, qe (.aload_n 0) 1, qf (.getfield 60) 9 6 2, qn, qn, qf (.getfield 144) 6 0 2, qn, qn, qe (.iload_n 3) 1, qe .iaload 1, qe .ireturn 1]]
def qp121 : List (List (Option qE)) := [[qe (.aload_n 0) 1, qe (.iload_n 1) 1, qe (.iload_n 2) 1, qe (.iload_n 3) 1, qe (.iload 4) 2, qn, qf (.invokevirtual 230) 143 4 0, qn, qn, qt (.ifCond .eq 20) 3 29, qn, qn, qe (.iload 5) 2, qn, qt (.ifCond .lt 15) 3 29],
  [qn, qe (.iload 5) 2, qn, qe (.aload_n 0) 1, qf (.getfield 37) 9 3 2, qn, qn, qf (.getfield 120) 0 7 0, qn, qn, qt (.if_icmp .lt 5) 3 31, qn, qn, qe (.iconst (-1)) 1, qe .ireturn 1, qe (.aload_n 0) 1],
  [qf (.getfield 37) 9 3 2, qn, qn, qe (.iload 5) 2, qn, qf (.invokevirtual 234) 27 1 0, qn, qn, qt (.ifCond .ne 5) 3 45, qn, qn, qe (.iconst (-1)) 1, qe .ireturn 1, qe (.aload_n 0) 1, qf (.getfield 37) 9 3 2],
  [qn, qt (.invokevirtual 238) 3 26, qn, qn, qe (.istore 7) 2, qn, qe (.iload 6) 2, qn, qe (.iconst (-1)) 1, qt (.if_icmp .ne 6) 3 63, qn, qn, qe (.iload 7) 2, qn, qe .ireturn 1, qe (.iload 6) 2],
  [qn, qt (.ifCond .lt 10) 3 75, qn, qn, qe (.iload 6) 2, qn, qe (.iload 7) 2, qn, qt (.if_icmp .lt 5) 3 77, qn, qn, qe (.iconst (-1)) 1, qe .ireturn 1, qe (.aload_n 0) 1, qf (.getfield 37) 9 3 2],
  [qn, qe (.iload 5) 2, qn, qe (.iload 7) 2, qn, qf (.invokevirtual 241) 28 2 0, qn, qn, qf (.getfield 144) 6 0 2, qn, qn, qe (.iload 6) 2, qn, qe .iaload 1, qe .ireturn 1]]
def qp122 : List (List (Option qE)) := [[qe (.iload 5) 2, qn, qt (.ifCond .lt 21) 3 23, qn, qn, qe (.iload 5) 2, qn, qe (.iconst 1) 1, qt (.if_icmp .gt 15) 3 23, qn, qn, qe (.aload_n 0) 1, qe (.iload_n 1) 1, qe (.iload_n 2) 1, qe (.iload_n 3) 1, qe (.iload 4) 2],
  [qn, qf (.invokevirtual 230) 143 4 0, qn, qn, qt (.ifCond .ne 6) 3 26, qn, qn, qt (.ldc 138) 2 4293967296, qn, qe .ireturn 1, qe (.iconst 0) 1, qe (.istore 6) 2, qn, qe (.iconst (-1)) 1, qe (.istore 7) 2],
  [qe (.aload_n 0) 1, qf (.getfield 37) 9 3 2, qn, qn, qf (.getfield 120) 0 7 0, qn, qn, qe (.iconst 1) 1, qe .isub 1, qe (.istore 8) 2, qn, qe (.iload 8) 2, qn, qt (.ifCond .lt 28) 3 73],
  [qe (.aload_n 0) 1, qf (.getfield 37) 9 3 2, qn, qn, qe (.iload 8) 2, qn, qf (.invokevirtual 234) 27 1 0, qn, qn, qt (.ifCond .eq 10) 3 67, qn, qn, qe (.iinc 6 1) 3, qn, qn, qe (.iload 8) 2],
  [qn, qe (.istore 7) 2, qn, qe (.iinc 8 (-1)) 3, qn, qn, qt (.goto (-27)) 3 43, qn, qn, qe (.iload 5) 2, qn, qt (.ifCond .ne 8) 3 83, qn, qn, qe (.iload 6) 2],
  [qt (.goto 5) 3 85, qn, qn, qe (.iload 7) 2, qn, qe .ireturn 1]]
def qp123 : List (List (Option qE)) := [[qe (.aload_n 0) 1, qe (.iload_n 1) 1, qf (.invokevirtual 150) 135 1 0, qn, qn, qe (.istore_n 3) 1, qe (.iload_n 3) 1, qt (.ifCond .eq 7) 3 14, qn, qn, qe (.iload_n 2) 1, qt (.ifCond .ge 5) 3 16, qn, qn, qe (.iconst (-1)) 1, qe .ireturn 1],
  [qe (.aload_n 0) 1, qf (.getfield 67) 9 7 2, qn, qn, qe (.iload_n 1) 1, qe (.aload_n 0) 1, qf (.getfield 60) 9 6 2, qn, qn, qf (.invokevirtual 218) 82 2 0, qn, qn, qe (.aload_n 0) 1, qf (.getfield 53) 9 5 2],
  [qe (.aload_n 0) 1, qf (.getfield 60) 9 6 2, qn, qn, qe (.aload_n 0) 1, qf (.getfield 37) 9 3 2, qn, qn, qf (.invokevirtual 245) 69 2 0, qn, qn, qe (.istore 4) 2, qn, qe (.iload_n 3) 1, qe (.iconst 2) 1, qe (.iload 4) 2],
  [qn, qe .imul 1, qt (.if_icmp .lt 9) 3 59, qn, qn, qe (.iload_n 2) 1, qe (.iload 4) 2, qn, qt (.if_icmp .le 5) 3 61, qn, qn, qe (.iconst (-1)) 1, qe .ireturn 1, qe (.iload_n 2) 1, qt (.ifCond .ne 8) 3 70],
  [qn, qe (.iload 4) 2, qn, qt (.goto 18) 3 85, qn, qn, qe (.aload_n 0) 1, qf (.getfield 53) 9 5 2, qn, qn, qe (.iload_n 2) 1, qe (.aload_n 0) 1, qf (.getfield 37) 9 3 2, qn, qn, qf (.getfield 120) 0 7 0],
  [qn, qn, qf (.invokevirtual 249) 71 2 0, qn, qn, qe .ireturn 1]]
def qp124 : List (List (Option qE)) := [[qe (.aload_n 0) 1, qe (.iload_n 1) 1, qf (.invokevirtual 150) 135 1 0, qn, qn, qt (.ifCond .ne 5) 3 10, qn, qn, qe (.iconst (-1)) 1, qe .ireturn 1, qe (.aload_n 0) 1, qf (.getfield 67) 9 7 2, qn, qn, qe (.iload_n 1) 1, qe (.aload_n 0) 1],
  [qf (.getfield 60) 9 6 2, qn, qn, qf (.invokevirtual 218) 82 2 0, qn, qn, qe (.aload_n 0) 1, qf (.getfield 37) 9 3 2, qn, qn, qe (.aload_n 0) 1, qf (.getfield 60) 9 6 2, qn, qn, qf (.invokevirtual 252) 24 1 0],
  [qn, qe .ireturn 1]]
def qp125 : List (List (Option qE)) := [[qe (.iload_n 2) 1, qt (.ifCond .lt 12) 3 13, qn, qn, qe (.iload_n 2) 1, qe (.aload_n 0) 1, qe (.iload_n 1) 1, qf (.invokevirtual 150) 135 1 0, qn, qn, qt (.if_icmp .lt 5) 3 15, qn, qn, qe (.iconst (-1)) 1, qe .ireturn 1, qe (.iconst 0) 1],
  [qe (.istore_n 3) 1, qe (.iconst 0) 1, qe (.istore 4) 2, qn, qe (.iload 4) 2, qn, qe (.iload_n 2) 1, qt (.if_icmp .gt 22) 3 45, qn, qn, qe (.iload_n 3) 1, qe (.aload_n 0) 1, qf (.getfield 67) 9 7 2, qn, qn, qe (.iload_n 1) 1],
  [qe (.iload 4) 2, qn, qf (.invokevirtual 160) 81 2 0, qn, qn, qe .iadd 1, qe (.istore_n 3) 1, qe (.iinc 4 1) 3, qn, qn, qt (.goto (-22)) 3 20, qn, qn, qe (.aload_n 0) 1, qf (.getfield 37) 9 3 2],
  [qn, qe (.iload_n 3) 1, qf (.invokevirtual 256) 2 1 0, qn, qn, qe .ireturn 1]]
def qp126 : List (List (Option qE)) := [[qe (.aload_n 0) 1, qe (.iload_n 1) 1, qf (.invokevirtual 178) 136 1 0, qn, qn, qe (.astore_n 3) 1, qe (.aload_n 3) 1, qt (.ifnull 19) 3 26, qn, qn, qe (.aload_n 0) 1, qf (.getfield 116) 9 14 3, qn, qn, qt (.ifCond .eq 12) 3 26],
  [qn, qe (.iload_n 2) 1, qt (.ifCond .lt 8) 3 26, qn, qn, qe (.iload_n 2) 1, qe (.iconst 2) 1, qt (.if_icmp .le 6) 3 29, qn, qn, qt (.ldc 138) 2 4293967296, qn, qe .ireturn 1, qe (.aload_n 0) 1, qe (.aload_n 3) 1, qf (.invokevirtual 182) 140 1 0],
  [qn, qn, qe (.istore 4) 2, qn, qe (.iload_n 2) 1, qt (.ifCond .ne 18) 3 55, qn, qn, qe (.iload 4) 2, qn, qe (.iconst (-1)) 1, qt (.if_icmp .ne 7) 3 50, qn, qn, qe (.iconst (-1)) 1, qt (.goto 7) 3 54],
  [qn, qn, qe (.aload_n 0) 1, qf (.getfield 259) 9 16 0, qn, qn, qe .ireturn 1, qe (.iload_n 2) 1, qe (.iconst 1) 1, qt (.if_icmp .ne 6) 3 63, qn, qn, qe (.iload 4) 2, qn, qe .ireturn 1, qe (.iload 4) 2],
  [qn, qe (.iconst (-1)) 1, qt (.if_icmp .ne 25) 3 91, qn, qn, qe (.aload_n 0) 1, qf (.getfield 71) 9 8 2, qn, qn, qf (.getfield 147) 7 0 2, qn, qn, qe (.aload_n 3) 1, qf (.getfield 132) 1 2 2],
  [qe (.aload_n 3) 1, qf (.getfield 189) 1 3 0, qn, qn, qe (.iconst 1) 1, qe .isub 1, qe .iaload 1, qe .iaload 1, qt (.goto 4) 3 92, qn, qn, qe (.iconst (-1)) 1, qe .ireturn 1]]
def qp127 : List (List (Option qE)) := [[qe (.aload_n 0) 1, qe (.iload_n 1) 1, qf (.invokevirtual 178) 136 1 0, qn, qn, qe (.astore_n 3) 1, qe (.aload_n 3) 1, qt (.ifnonnull 5) 3 12, qn, qn, qe (.iconst (-1)) 1, qe .ireturn 1, qe (.iload_n 2) 1, qe (.iconst (-1)) 1, qt (.if_icmp .ne 8) 3 22],
  [qn, qe (.aload_n 3) 1, qf (.getfield 189) 1 3 0, qn, qn, qe .ireturn 1, qe (.iload_n 2) 1, qt (.ifCond .lt 11) 3 34, qn, qn, qe (.iload_n 2) 1, qe (.aload_n 3) 1, qf (.getfield 189) 1 3 0, qn, qn, qt (.if_icmp .lt 7) 3 38],
  [qn, qn, qe (.iconst (-1)) 1, qt (.goto 9) 3 44, qn, qn, qe (.aload_n 3) 1, qf (.getfield 132) 1 2 2, qn, qn, qe (.iload_n 2) 1, qe .iaload 1, qe .ireturn 1]]
def qp128 : List (List (Option qE)) := [[qe (.aload_n 0) 1, qf (.getfield 116) 9 14 3, qn, qn, qt (.ifCond .ne 6) 3 10, qn, qn, qt (.ldc 138) 2 4293967296, qn, qe .ireturn 1, qe (.iload_n 1) 1, qe (.tableswitch 97 0 6 #[41, 49, 57, 65, 73, 81, 89]) 41],
  [],
  [],
  [qn, qn, qn, qn, qe (.aload_n 0) 1, qf (.getfield 67) 9 7 2, qn, qn, qt (.invokevirtual 262) 3 89, qn, qn, qe .ireturn 1, qe (.aload_n 0) 1, qf (.getfield 67) 9 7 2],
  [qt (.invokevirtual 265) 3 90, qn, qn, qe .ireturn 1, qe (.aload_n 0) 1, qf (.getfield 67) 9 7 2, qn, qn, qt (.invokevirtual 268) 3 91, qn, qn, qe .ireturn 1, qe (.aload_n 0) 1, qf (.getfield 67) 9 7 2],
  [qt (.invokevirtual 271) 3 92, qn, qn, qe .ireturn 1, qe (.aload_n 0) 1, qf (.getfield 67) 9 7 2, qn, qn, qt (.invokevirtual 274) 3 93, qn, qn, qe .ireturn 1, qe (.aload_n 0) 1, qf (.getfield 67) 9 7 2],
  [qt (.invokevirtual 277) 3 94, qn, qn, qe .ireturn 1, qe (.aload_n 0) 1, qf (.getfield 67) 9 7 2, qn, qn, qt (.invokevirtual 280) 3 95, qn, qn, qe .ireturn 1, qt (.ldc 138) 2 4293967296, qn, qe .ireturn 1]]
def qp129 : List (List (Option qE)) := [[qe (.aload_n 0) 1, qf (.getfield 116) 9 14 3, qn, qn, qt (.ifCond .ne 5) 3 9, qn, qn, qe (.iconst (-1)) 1, qe .ireturn 1, qe (.aload_n 0) 1, qf (.getfield 74) 9 9 2, qn, qn, qe (.aload_n 0) 1, qf (.getfield 67) 9 7 2],
  [qn, qf (.invokevirtual 186) 80 1 0, qn, qn, qe (.aload_n 0) 1, qe (.iconst 1) 1, qf (.putfield 283) 9 15 3, qn, qn, qe (.aload_n 0) 1, qf (.getfield 67) 9 7 2, qn, qn, qt (.invokevirtual 203) 3 88],
  [qe .ireturn 1]]
def qp130 : List (List (Option qE)) := [[qe (.aload_n 0) 1, qf (.getfield 283) 9 15 3, qn, qn, qt (.ifCond .ne 5) 3 9, qn, qn, qe (.iconst (-1)) 1, qe .ireturn 1, qe (.aload_n 0) 1, qf (.getfield 67) 9 7 2, qn, qn, qe (.aload_n 0) 1, qf (.getfield 74) 9 9 2],
  [qn, qf (.invokevirtual 186) 80 1 0, qn, qn, qe (.aload_n 0) 1, qf (.getfield 80) 9 10 2, qn, qn, qt (.invokevirtual 286) 3 38, qn, qn, qe (.aload_n 0) 1, qf (.getfield 67) 9 7 2, qn, qn, qt (.invokevirtual 203) 3 88],
  [qn, qn, qe .ireturn 1]]
def qp131 : List (List (Option qE)) := [[qe (.iload_n 1) 1, qe (.tableswitch 72 0 4 #[35, 43, 48, 56, 64]) 35],
  [],
  [qn, qn, qn, qn, qe (.aload_n 0) 1, qf (.getfield 67) 9 7 2, qn, qn, qt (.invokevirtual 203) 3 88, qn, qn, qe .ireturn 1, qe (.aload_n 0) 1, qf (.getfield 106) 9 13 0],
  [qe .ireturn 1, qe (.aload_n 0) 1, qf (.getfield 10) 9 0 2, qn, qn, qf (.getfield 96) 8 1 0, qn, qn, qe .ireturn 1, qe (.aload_n 0) 1, qf (.getfield 67) 9 7 2, qn, qn, qf (.getfield 289) 7 3 0],
  [qe .ireturn 1, qe (.aload_n 0) 1, qf (.getfield 80) 9 10 2, qn, qn, qf (.getfield 292) 2 2 0, qn, qn, qe .ireturn 1, qt (.ldc 138) 2 4293967296, qn, qe .ireturn 1]]
def qp132 : List (List (Option qE)) := [[qe (.iconst 0) 1, qe (.istore_n 1) 1, qe (.bipush 24) 2, qn, qe (.istore_n 2) 1, qe (.iload_n 2) 1, qt (.ifCond .lt 22) 3 28, qn, qn, qe (.iload_n 0) 1, qe (.iload_n 2) 1, qe .iushr 1, qe (.sipush 255) 3, qn, qn, qe .iand 1],
  [qt (.ifCond .eq 6) 3 22, qn, qn, qe (.iinc 1 1) 3, qn, qn, qe (.iinc 2 (-8)) 3, qn, qn, qt (.goto (-20)) 3 5, qn, qn, qe (.iload_n 1) 1, qe .ireturn 1]]
def qp133 : List (List (Option qE)) := [[qe (.aload_n 0) 1, qf (.getfield 37) 9 3 2, qn, qn, qe (.aload_n 0) 1, qf (.getfield 30) 9 2 2, qn, qn, qf (.getfield 295) 4 5 0, qn, qn, qe (.aload_n 0) 1, qf (.getfield 30) 9 2 2, qn, qn, qf (.getfield 296) 4 6 0],
  [qn, qn, qf (.invokevirtual 297) 1 2 0, qn, qn, qe (.aload_n 0) 1, qf (.getfield 67) 9 7 2, qn, qn, qt (.invokevirtual 300) 3 79, qn, qn, qe (.aload_n 0) 1, qf (.getfield 80) 9 10 2],
  [qt (.invokevirtual 286) 3 38, qn, qn, qe (.aload_n 0) 1, qe (.iconst 1) 1, qf (.putfield 116) 9 14 3, qn, qn, qe (.aload_n 0) 1, qe (.iconst 0) 1, qf (.putfield 283) 9 15 3, qn, qn, qe (.aload_n 0) 1, qf (.getfield 37) 9 3 2],
  [qn, qf (.getfield 120) 0 7 0, qn, qn, qe .ireturn 1]]
def qp134 : List (List (Option qE)) := [[qe (.aload_n 0) 1, qf (.getfield 84) 9 11 2, qn, qn, qe (.aload_n 0) 1, qf (.getfield 106) 9 13 0, qn, qn, qe (.aload_n 0) 1, qf (.getfield 21) 9 1 2, qn, qn, qt (.invokevirtual 301) 3 36, qn, qn, qe .aastore 1],
  [qe (.aload_n 0) 1, qe .dup 1, qf (.getfield 106) 9 13 0, qn, qn, qe (.iconst 1) 1, qe .iadd 1, qf (.putfield 106) 9 13 0, qn, qn, qe (.aload_n 0) 1, qf (.getfield 106) 9 13 0, qn, qn, qe (.iconst 1) 1, qe .isub 1],
  [qe .ireturn 1]]
def qp135 : List (List (Option qE)) := [[qe (.iload_n 1) 1, qt (.ifCond .lt 9) 3 10, qn, qn, qe (.iload_n 1) 1, qe (.bipush 8) 2, qn, qt (.if_icmp .lt 7) 3 14, qn, qn, qe (.iconst 0) 1, qt (.goto 12) 3 23, qn, qn, qe (.aload_n 0) 1, qf (.getfield 67) 9 7 2],
  [qn, qn, qf (.getfield 147) 7 0 2, qn, qn, qe (.iload_n 1) 1, qe .iaload 1, qe .ireturn 1]]
def qp136 : List (List (Option qE)) := [[qe (.iload_n 1) 1, qt (.ifCond .lt 11) 3 12, qn, qn, qe (.iload_n 1) 1, qe (.aload_n 0) 1, qf (.getfield 106) 9 13 0, qn, qn, qt (.if_icmp .lt 7) 3 16, qn, qn, qe .aconst_null 1, qt (.goto 9) 3 22],
  [qe (.aload_n 0) 1, qf (.getfield 84) 9 11 2, qn, qn, qe (.iload_n 1) 1, qe .aaload 1, qe .areturn 1]]
def qp137 : List (List (Option qE)) := [[qe (.iload_n 1) 1, qt (.ifCond .lt 19) 3 20, qn, qn, qe (.iload_n 1) 1, qe (.bipush 6) 2, qn, qt (.if_icmp .ge 13) 3 20, qn, qn, qe (.aload_n 0) 1, qf (.getfield 88) 9 12 2, qn, qn, qe (.iload_n 1) 1, qe .dup2 1],
  [qe .iaload 1, qe (.iconst 1) 1, qe .iadd 1, qe .iastore 1, qe (.iconst (-1)) 1, qe .ireturn 1]]
def qp138 : List (List (Option qE)) := [[qe (.aload_n 0) 1, qf (.getfield 116) 9 14 3, qn, qn, qt (.ifCond .ne 5) 3 9, qn, qn, qe (.iconst 0) 1, qe .ireturn 1, qe (.aload_n 0) 1, qf (.getfield 30) 9 2 2, qn, qn, qe (.iconst 2) 1, qf (.invokevirtual 103) 48 1 0],
  [qn, qe (.iconst (-1)) 1, qt (.if_icmp .eq 5) 3 23, qn, qn, qe (.iconst 1) 1, qe .ireturn 1, qe (.aload_n 0) 1, qf (.getfield 46) 9 4 2, qn, qn, qe (.aload_n 0) 1, qf (.getfield 21) 9 1 2, qn, qn, qe (.iconst 0) 1],
  [qe (.aload_n 0) 1, qf (.getfield 67) 9 7 2, qn, qn, qf (.invokevirtual 199) 43 3 0, qn, qn, qe .ireturn 1]]
def qp139 : List (List (Option qE)) := [[qe (.aload_n 0) 1, qf (.getfield 80) 9 10 2, qn, qn, qe (.aload_n 0) 1, qf (.getfield 67) 9 7 2, qn, qn, qf (.invokevirtual 167) 39 1 0, qn, qn, qe (.aload_n 0) 1, qf (.getfield 67) 9 7 2, qn, qn, qe (.iload_n 1) 1],
  [qe (.aload_n 0) 1, qf (.getfield 46) 9 4 2, qn, qn, qt (.invokevirtual 139) 3 42, qn, qn, qf (.invokevirtual 305) 83 2 0, qn, qn, qe (.aload_n 0) 1, qf (.getfield 67) 9 7 2, qn, qn, qe (.iconst 0) 1, qe (.iload_n 1) 1],
  [qf (.invokevirtual 171) 85 2 0, qn, qn, qe (.aload_n 0) 1, qf (.getfield 67) 9 7 2, qn, qn, qf (.getfield 147) 7 0 2, qn, qn, qe (.iload_n 1) 1, qe .iaload 1, qe .ireturn 1]]
def qp140 : List (List (Option qE)) := [[qe (.aload_n 0) 1, qf (.getfield 71) 9 8 2, qn, qn, qe (.aload_n 0) 1, qf (.getfield 67) 9 7 2, qn, qn, qf (.invokevirtual 186) 80 1 0, qn, qn, qe (.iconst 0) 1, qe (.istore_n 2) 1, qe (.iload_n 2) 1, qe (.aload_n 1) 1, qf (.getfield 189) 1 3 0],
  [qn, qn, qt (.if_icmp .ge 69) 3 87, qn, qn, qe (.aload_n 0) 1, qf (.getfield 46) 9 4 2, qn, qn, qe (.aload_n 1) 1, qe (.iload_n 2) 1, qe (.aload_n 0) 1, qf (.getfield 71) 9 8 2, qn, qn, qf (.invokevirtual 199) 43 3 0],
  [qn, qn, qe (.istore_n 3) 1, qe (.iload_n 3) 1, qe (.iconst (-1)) 1, qt (.if_icmp .eq 10) 3 47, qn, qn, qe (.aload_n 0) 1, qe (.iload_n 2) 1, qf (.putfield 259) 9 16 0, qn, qn, qe (.iload_n 3) 1, qe .ireturn 1, qe (.aload_n 0) 1],
  [qf (.getfield 71) 9 8 2, qn, qn, qe (.aload_n 1) 1, qf (.getfield 132) 1 2 2, qn, qn, qe (.iload_n 2) 1, qe .iaload 1, qe (.aload_n 0) 1, qf (.getfield 46) 9 4 2, qn, qn, qt (.invokevirtual 139) 3 42],
  [qf (.invokevirtual 305) 83 2 0, qn, qn, qe (.aload_n 0) 1, qf (.getfield 71) 9 8 2, qn, qn, qe (.iconst 0) 1, qe (.aload_n 1) 1, qf (.getfield 132) 1 2 2, qn, qn, qe (.iload_n 2) 1, qe .iaload 1, qf (.invokevirtual 171) 85 2 0],
  [qn, qe (.iinc 2 1) 3, qn, qn, qt (.goto (-71)) 3 13, qn, qn, qe (.iconst (-1)) 1, qe .ireturn 1]]
def qp141 : List (List (Option qE)) := [[qe (.aload_n 0) 1, qe (.aload_n 0) 1, qf (.getfield 192) 9 17 1, qn, qn, qt (.ldc2_w 308) 3 6364136223846793005, qn, qn, qe .lmul 1, qt (.ldc2_w 310) 3 1442695040888963407, qn, qn, qe .ladd 1, qf (.putfield 192) 9 17 1],
  [qe (.iload_n 1) 1, qe (.iconst 1) 1, qt (.if_icmp .ge 7) 3 25, qn, qn, qe (.iconst 0) 1, qt (.goto 14) 3 36, qn, qn, qe (.aload_n 0) 1, qf (.getfield 192) 9 17 1, qn, qn, qe (.bipush 33) 2, qn, qe .lushr 1],
  [qe (.iload_n 1) 1, qe .i2l 1, qe .lrem 1, qe .l2i 1, qe .ireturn 1]]
def qp142 : List (List (Option qE)) := [[qe (.aload_n 0) 1, qf (.getfield 21) 9 1 2, qn, qn, qt (.invokevirtual 312) 3 30, qn, qn, qe (.aload_n 0) 1, qf (.getfield 21) 9 1 2, qn, qn, qe (.aload_n 0) 1, qe (.bipush 8) 2, qn, qf (.invokevirtual 313) 141 1 0],
  [qn, qf (.invokevirtual 316) 31 1 0, qn, qn, qe .pop 1, qe (.aload_n 0) 1, qe (.bipush 6) 2, qn, qf (.invokevirtual 313) 141 1 0, qn, qn, qe (.istore_n 1) 1, qe (.iload_n 1) 1, qt (.ifCond .ne 78) 3 107],
  [qe (.aload_n 0) 1, qf (.getfield 21) 9 1 2, qn, qn, qe (.iconst 0) 1, qe (.aload_n 0) 1, qe (.aload_n 0) 1, qf (.getfield 37) 9 3 2, qn, qn, qf (.getfield 120) 0 7 0, qn, qn, qf (.invokevirtual 313) 141 1 0],
  [qf (.invokevirtual 319) 33 2 0, qn, qn, qe .pop 1, qe (.aload_n 0) 1, qf (.getfield 21) 9 1 2, qn, qn, qe (.iconst 0) 1, qe (.aload_n 0) 1, qe (.aload_n 0) 1, qf (.getfield 37) 9 3 2, qn, qn, qf (.getfield 120) 0 7 0],
  [qn, qf (.invokevirtual 313) 141 1 0, qn, qn, qf (.invokevirtual 319) 33 2 0, qn, qn, qe .pop 1, qe (.aload_n 0) 1, qf (.getfield 21) 9 1 2, qn, qn, qe (.iconst 1) 1, qe (.iconst 0) 1, qf (.invokevirtual 319) 33 2 0],
  [qn, qe .pop 1, qe (.aload_n 0) 1, qf (.getfield 21) 9 1 2, qn, qn, qe (.bipush 13) 2, qn, qe (.iconst 0) 1, qf (.invokevirtual 319) 33 2 0, qn, qn, qe .pop 1, qe (.aload_n 0) 1, qf (.getfield 21) 9 1 2],
  [qn, qe (.bipush 11) 2, qn, qe (.iconst 0) 1, qf (.invokevirtual 319) 33 2 0, qn, qn, qe .pop 1, qt (.goto 182) 3 286, qn, qn, qe (.iload_n 1) 1, qe (.iconst 1) 1, qt (.if_icmp .eq 8) 3 117],
  [qe (.iload_n 1) 1, qe (.iconst 2) 1, qt (.if_icmp .ne 57) 3 171, qn, qn, qe (.aload_n 0) 1, qf (.getfield 21) 9 1 2, qn, qn, qe (.iconst 2) 1, qe (.aload_n 0) 1, qe (.bipush 8) 2, qn, qf (.invokevirtual 313) 141 1 0],
  [qf (.invokevirtual 319) 33 2 0, qn, qn, qe .pop 1, qe (.aload_n 0) 1, qf (.getfield 21) 9 1 2, qn, qn, qe (.iconst 2) 1, qe (.aload_n 0) 1, qe (.bipush 8) 2, qn, qf (.invokevirtual 313) 141 1 0, qn, qn, qf (.invokevirtual 319) 33 2 0],
  [qn, qn, qe .pop 1, qe (.aload_n 0) 1, qf (.getfield 21) 9 1 2, qn, qn, qe (.iload_n 1) 1, qe (.iconst 1) 1, qt (.if_icmp .ne 8) 3 161, qn, qn, qe (.bipush 11) 2, qn, qt (.goto 5) 3 163],
  [qn, qe (.bipush 13) 2, qn, qe (.iconst 0) 1, qf (.invokevirtual 319) 33 2 0, qn, qn, qe .pop 1, qt (.goto 118) 3 286, qn, qn, qe (.iload_n 1) 1, qe (.iconst 3) 1, qt (.if_icmp .ne 31) 3 204],
  [qe (.aload_n 0) 1, qf (.getfield 21) 9 1 2, qn, qn, qe (.iconst 2) 1, qe (.aload_n 0) 1, qe (.bipush 8) 2, qn, qf (.invokevirtual 313) 141 1 0, qn, qn, qf (.invokevirtual 319) 33 2 0, qn, qn, qe .pop 1, qe (.aload_n 0) 1],
  [qf (.getfield 21) 9 1 2, qn, qn, qe (.iconst 4) 1, qe (.iconst 0) 1, qf (.invokevirtual 319) 33 2 0, qn, qn, qe .pop 1, qt (.goto 85) 3 286, qn, qn, qe (.iload_n 1) 1, qe (.iconst 4) 1, qt (.if_icmp .ne 42) 3 248],
  [qn, qe (.aload_n 0) 1, qf (.getfield 21) 9 1 2, qn, qn, qe (.iconst 0) 1, qe (.iconst 1) 1, qf (.invokevirtual 319) 33 2 0, qn, qn, qe .pop 1, qe (.aload_n 0) 1, qf (.getfield 21) 9 1 2, qn, qn, qe (.iconst 2) 1],
  [qe (.aload_n 0) 1, qe (.bipush 8) 2, qn, qf (.invokevirtual 313) 141 1 0, qn, qn, qf (.invokevirtual 319) 33 2 0, qn, qn, qe .pop 1, qe (.aload_n 0) 1, qf (.getfield 21) 9 1 2, qn, qn, qe (.bipush 14) 2],
  [qe (.iconst 0) 1, qf (.invokevirtual 319) 33 2 0, qn, qn, qe .pop 1, qt (.goto 41) 3 286, qn, qn, qe (.aload_n 0) 1, qf (.getfield 21) 9 1 2, qn, qn, qe (.iconst 2) 1, qe (.aload_n 0) 1, qe (.bipush 8) 2],
  [qf (.invokevirtual 313) 141 1 0, qn, qn, qf (.invokevirtual 319) 33 2 0, qn, qn, qe .pop 1, qe (.aload_n 0) 1, qf (.getfield 21) 9 1 2, qn, qn, qe (.bipush 10) 2, qn, qe (.aload_n 0) 1, qe (.aload_n 0) 1, qf (.getfield 37) 9 3 2],
  [qn, qn, qf (.getfield 123) 0 8 0, qn, qn, qf (.invokevirtual 313) 141 1 0, qn, qn, qe (.iconst 1) 1, qe .iadd 1, qf (.invokevirtual 319) 33 2 0, qn, qn, qe .pop 1, qe (.aload_n 0) 1, qf (.getfield 21) 9 1 2],
  [qn, qn, qt (.invokevirtual 323) 3 32, qn, qn, qe .pop 1, qe .return_ 1]]
def qp143 : List (List (Option qE)) := [[qe (.aload_n 0) 1, qf (.getfield 116) 9 14 3, qn, qn, qt (.ifCond .eq 44) 3 48, qn, qn, qe (.aload_n 0) 1, qe (.iconst 0) 1, qe (.iload_n 1) 1, qf (.invokevirtual 327) 144 2 0, qn, qn, qt (.ifCond .eq 35) 3 48],
  [qe (.aload_n 0) 1, qe (.iconst 1) 1, qe (.iload_n 2) 1, qf (.invokevirtual 327) 144 2 0, qn, qn, qt (.ifCond .eq 26) 3 48, qn, qn, qe (.aload_n 0) 1, qe (.iconst 2) 1, qe (.iload_n 3) 1, qf (.invokevirtual 327) 144 2 0, qn, qn, qt (.ifCond .eq 17) 3 48],
  [qn, qn, qe (.aload_n 0) 1, qe (.iconst 3) 1, qe (.iload 4) 2, qn, qf (.invokevirtual 327) 144 2 0, qn, qn, qt (.ifCond .eq 7) 3 48, qn, qn, qe (.iconst 1) 1, qt (.goto 4) 3 49],
  [qe (.iconst 0) 1, some (.ireturn, 1, 0, 0, 3)]]
def qp144 : List (List (Option qE)) := [[qe (.iload_n 2) 1, qe (.iconst (-1)) 1, qt (.if_icmp .ne 22) 3 24, qn, qn, qe (.aload_n 0) 1, qf (.getfield 37) 9 3 2, qn, qn, qe (.aload_n 0) 1, qf (.getfield 37) 9 3 2, qn, qn, qf (.getfield 330) 0 6 2],
  [qe (.iload_n 1) 1, qe .aaload 1, qe (.iconst 0) 1, qf (.invokevirtual 334) 5 2 0, qn, qn, qe (.iconst 1) 1, some (.ireturn, 1, 0, 0, 3), qe (.aload_n 0) 1, qe (.iload_n 2) 1, qf (.invokevirtual 150) 135 1 0, qn, qn, qt (.ifCond .ne 5) 3 34],
  [qe (.iconst 0) 1, some (.ireturn, 1, 0, 0, 3), qe (.aload_n 0) 1, qf (.getfield 67) 9 7 2, qn, qn, qe (.iload_n 2) 1, qe (.aload_n 0) 1, qf (.getfield 37) 9 3 2, qn, qn, qf (.getfield 330) 0 6 2, qn, qn, qe (.iload_n 1) 1, qe .aaload 1],
  [qf (.invokevirtual 218) 82 2 0, qn, qn, qe (.iconst 1) 1, some (.ireturn, 1, 0, 0, 3)]]
def qp145 : List (List (Option qE)) := [[qe (.aload_n 0) 1, qf (.invokespecial 3) 1000 0 2, qn, qn, qe (.aload_n 0) 1, qe (.sipush 320) 3, qn, qn, qe (.newarray .byte) 2, qn, qf (.putfield 9) 10 1 2, qn, qn, qe (.aload_n 0) 1, qe (.bipush 41) 2],
  [qe (.newarray .int) 2, qn, qf (.putfield 13) 10 9 2, qn, qn, qe (.aload_n 0) 1, qe (.bipush 41) 2, qn, qe (.newarray .int) 2, qn, qf (.putfield 17) 10 10 2, qn, qn, qe (.aload_n 0) 1, qe (.sipush 11480) 3],
  [qn, qe (.newarray .int) 2, qn, qf (.putfield 20) 10 11 2, qn, qn, qe (.aload_n 0) 1, qe (.iconst 5) 1, qe (.newarray .int) 2, qn, qf (.putfield 23) 10 12 2, qn, qn, qe (.aload_n 0) 1, qe (.sipush 381) 3],
  [qn, qe (.newarray .int) 2, qn, qf (.putfield 26) 10 17 2, qn, qn, qe (.aload_n 0) 1, qe (.sipush 381) 3, qn, qn, qe (.newarray .int) 2, qn, qf (.putfield 29) 10 18 2, qn, qn, qe (.aload_n 0) 1],
  [qe (.sipush 381) 3, qn, qn, qe (.newarray .int) 2, qn, qf (.putfield 32) 10 19 2, qn, qn, qe (.aload_n 0) 1, qe (.sipush 15240) 3, qn, qn, qe (.newarray .int) 2, qn, qf (.putfield 35) 10 20 2],
  [qn, qe (.aload_n 0) 1, qe (.sipush 1200) 3, qn, qn, qe (.newarray .int) 2, qn, qf (.putfield 38) 10 24 2, qn, qn, qe (.aload_n 0) 1, qe (.bipush 6) 2, qn, qe (.newarray .int) 2, qn, qf (.putfield 41) 10 26 2],
  [qn, qn, qe (.aload_n 0) 1, qe (.sipush 600) 3, qn, qn, qe (.newarray .int) 2, qn, qf (.putfield 44) 10 29 2, qn, qn, qe (.aload_n 0) 1, qe (.bipush 24) 2, qn, qe (.newarray .int) 2],
  [qf (.putfield 47) 10 30 2, qn, qn, qe .return_ 1]]
def qp146 : List (List (Option qE)) := [[qe (.aload_n 0) 1, qt (.getfield 50) 3 10, qn, qn, qe .ireturn 1]]
def qp147 : List (List (Option qE)) := [[qe (.lload_n 0) 1, qe (.lload_n 2) 1, qe .lcmp 1, qt (.ifCond .lt 14) 3 17, qn, qn, qe (.lload_n 0) 1, qe (.lload 4) 2, qn, qe .lcmp 1, qt (.ifCond .gt 7) 3 17, qn, qn, qe (.iconst 1) 1, qt (.goto 4) 3 18],
  [qn, qe (.iconst 0) 1, some (.ireturn, 1, 0, 0, 3)]]
def qp148 : List (List (Option qE)) := [[qe (.iload_n 0) 1, qe (.iload_n 1) 1, qe .ishr 1, qe (.iconst 1) 1, qe .iand 1, qe (.iconst 1) 1, qt (.if_icmp .ne 7) 3 13, qn, qn, qe (.iconst 1) 1, qt (.goto 4) 3 14, qn, qn, qe (.iconst 0) 1, some (.ireturn, 1, 0, 0, 3)]]
def qp149 : List (List (Option qE)) := [[qe (.iconst 0) 1, qe (.istore_n 1) 1, qe (.iconst 0) 1, qe (.istore_n 2) 1, qe (.iload_n 2) 1, qe (.iconst 4) 1, qt (.if_icmp .ge 30) 3 36, qn, qn, qe (.iload_n 1) 1, qe (.iload_n 0) 1, qe (.bipush 8) 2, qn, qe (.iload_n 2) 1, qe .imul 1, qe .ishr 1],
  [qe (.sipush 255) 3, qn, qn, qe .iand 1, qt (.ifCond .ne 7) 3 27, qn, qn, qe (.iconst 0) 1, qt (.goto 4) 3 28, qn, qn, qe (.iconst 1) 1, qe .iadd 1, qe (.istore_n 1) 1, qe (.iinc 2 1) 3],
  [qn, qt (.goto (-29)) 3 4, qn, qn, qe (.iload_n 1) 1, qe .ireturn 1]]
def qp150 : List (List (Option qE)) := [[qe (.bipush 24) 2, qn, qe (.istore_n 2) 1, qe (.iload_n 2) 1, qt (.ifCond .lt 45) 3 49, qn, qn, qe (.iload_n 1) 1, qe (.iload_n 2) 1, qe .ishr 1, qe (.sipush 255) 3, qn, qn, qe .iand 1, qe (.istore_n 3) 1, qe (.iload_n 3) 1],
  [qt (.ifCond .ne 6) 3 22, qn, qn, qt (.goto 24) 3 43, qn, qn, qe (.aload_n 0) 1, qf (.getfield 9) 10 1 2, qn, qn, qe (.aload_n 0) 1, qf (.getfield 54) 10 2 0, qn, qn, qe (.iload_n 3) 1, qe .i2b 1],
  [qe .bastore 1, qe (.aload_n 0) 1, qe .dup 1, qf (.getfield 54) 10 2 0, qn, qn, qe (.iconst 1) 1, qe .iadd 1, qf (.putfield 54) 10 2 0, qn, qn, qe (.iinc 2 (-8)) 3, qn, qn, qt (.goto (-43)) 3 3],
  [qn, qe .return_ 1]]
def qp151 : List (List (Option qE)) := [[qe (.aload_n 0) 1, qe (.iconst 0) 1, qt (.putfield 50) 3 10, qn, qn, qe (.aload_n 0) 1, qf (.getfield 54) 10 2 0, qn, qn, qe (.iload_n 1) 1, qf (.invokestatic 57) 149 1 1, qn, qn, qe .iadd 1, qe (.iload_n 2) 1, qf (.invokestatic 57) 149 1 1],
  [qn, qn, qe .iadd 1, qe (.iload_n 3) 1, qf (.invokestatic 57) 149 1 1, qn, qn, qe .iadd 1, qe (.iload 4) 2, qn, qf (.invokestatic 57) 149 1 1, qn, qn, qe .iadd 1, qe (.iload 5) 2],
  [qf (.invokestatic 57) 149 1 1, qn, qn, qe .iadd 1, qe (.sipush 320) 3, qn, qn, qt (.if_icmp .le 5) 3 44, qn, qn, qe (.iconst (-1)) 1, qe .ireturn 1, qe (.aload_n 0) 1, qe (.iload_n 1) 1, qf (.invokevirtual 61) 150 1 0],
  [qn, qe (.aload_n 0) 1, qe (.iload_n 2) 1, qf (.invokevirtual 61) 150 1 0, qn, qn, qe (.aload_n 0) 1, qe (.iload_n 3) 1, qf (.invokevirtual 61) 150 1 0, qn, qn, qe (.aload_n 0) 1, qe (.iload 4) 2, qn, qf (.invokevirtual 61) 150 1 0],
  [qn, qe (.aload_n 0) 1, qe (.iload 5) 2, qn, qf (.invokevirtual 61) 150 1 0, qn, qn, qe (.aload_n 0) 1, qf (.getfield 54) 10 2 0, qn, qn, qe .ireturn 1]]
def qp152 : List (List (Option qE)) := [[qe (.aload_n 0) 1, qe (.iconst 0) 1, qt (.putfield 50) 3 10, qn, qn, qe (.iload_n 1) 1, qt (.ifCond .lt 11) 3 17, qn, qn, qe (.iload_n 1) 1, qe (.aload_n 0) 1, qf (.getfield 54) 10 2 0, qn, qn, qt (.if_icmp .le 5) 3 19],
  [qn, qe (.iconst 0) 1, some (.ireturn, 1, 0, 0, 3), qe (.aload_n 0) 1, qe (.iload_n 1) 1, qf (.putfield 54) 10 2 0, qn, qn, qe (.iconst 1) 1, some (.ireturn, 1, 0, 0, 3)]]
def qp153 : List (List (Option qE)) := [[qe (.aload_n 0) 1, qf (.getfield 65) 10 3 0, qn, qn, qe (.aload_n 0) 1, qf (.getfield 54) 10 2 0, qn, qn, qt (.if_icmp .ge 19) 3 27, qn, qn, qe (.aload_n 0) 1, qf (.getfield 9) 10 1 2, qn, qn, qe (.aload_n 0) 1],
  [qf (.getfield 65) 10 3 0, qn, qn, qe .baload 1, qe (.sipush 255) 3, qn, qn, qe .iand 1, qt (.goto 4) 3 28, qn, qn, qe (.iconst (-1)) 1, qe .ireturn 1]]
def qp154 : List (List (Option qE)) := [[qe (.aload_n 0) 1, qt (.invokevirtual 68) 3 153, qn, qn, qe (.bipush 32) 2, qn, qt (.if_icmp .ne 16) 3 22, qn, qn, qe (.aload_n 0) 1, qe .dup 1, qf (.getfield 65) 10 3 0, qn, qn, qe (.iconst 1) 1, qe .iadd 1],
  [qf (.putfield 65) 10 3 0, qn, qn, qe (.goto (-19)) 3, qn, qn, qe (.aload_n 0) 1, qt (.invokevirtual 68) 3 153, qn, qn, qe .ireturn 1]]
def qp155 : List (List (Option qE)) := [[qe (.aload_n 0) 1, qf (.getfield 72) 10 4 0, qn, qn, qe (.iconst (-1)) 1, qt (.if_icmp .ne 11) 3 16, qn, qn, qe (.aload_n 0) 1, qe (.aload_n 0) 1, qf (.getfield 65) 10 3 0, qn, qn, qf (.putfield 72) 10 4 0],
  [qe .return_ 1]]
def qp156 : List (List (Option qE)) := [[qe (.aload_n 0) 1, qt (.invokevirtual 68) 3 153, qn, qn, qe (.bipush 48) 2, qn, qt (.if_icmp .lt 16) 3 22, qn, qn, qe (.aload_n 0) 1, qt (.invokevirtual 68) 3 153, qn, qn, qe (.bipush 57) 2, qn, qt (.if_icmp .gt 7) 3 22],
  [qn, qn, qe (.iconst 1) 1, qt (.goto 4) 3 23, qn, qn, qe (.iconst 0) 1, some (.ireturn, 1, 0, 0, 3)]]
def qp157 : List (List (Option qE)) := [[qe (.iconst 0) 1, qe (.istore_n 2) 1, qe (.iload_n 2) 1, qe (.aload_n 0) 1, qt (.invokevirtual 75) 3 1004, qn, qn, qt (.if_icmp .ge 20) 3 27, qn, qn, qe (.aload_n 0) 1, qe (.iload_n 2) 1, qf (.invokevirtual 79) 1005 1 0, qn, qn, qe (.iload_n 1) 1],
  [qt (.if_icmp .ne 5) 3 21, qn, qn, qe (.iload_n 2) 1, qe .ireturn 1, qe (.iinc 2 1) 3, qn, qn, qt (.goto (-22)) 3 2, qn, qn, qe (.iconst (-1)) 1, qe .ireturn 1]]
def qp158 : List (List (Option qE)) := [[qe (.iconst 2) 1, qe (.istore_n 1) 1, qe (.iload_n 1) 1, qe (.iload_n 1) 1, qe .imul 1, qe (.iload_n 0) 1, qt (.if_icmp .gt 17) 3 23, qn, qn, qe (.iload_n 0) 1, qe (.iload_n 1) 1, qe .irem 1, qt (.ifCond .ne 5) 3 17, qn, qn, qe (.iconst 0) 1],
  [some (.ireturn, 1, 0, 0, 3), qe (.iinc 1 1) 3, qn, qn, qt (.goto (-18)) 3 2, qn, qn, qe (.iload_n 0) 1, qe (.iconst 1) 1, qt (.if_icmp .le 7) 3 32, qn, qn, qe (.iconst 1) 1, qt (.goto 4) 3 33],
  [qe (.iconst 0) 1, some (.ireturn, 1, 0, 0, 3)]]
def qp159 : List (List (Option qE)) := [[qe (.aload_n 0) 1, qt (.invokevirtual 83) 3 154, qn, qn, qe (.istore 4) 2, qn, qe (.aload_n 0) 1, qt (.invokevirtual 86) 3 156, qn, qn, qt (.ifCond .ne 9) 3 19, qn, qn, qe (.aload_n 0) 1, qt (.invokevirtual 90) 3 155],
  [qn, qe (.iload_n 1) 1, qe .ireturn 1, qe (.iconst 0) 1, qe (.istore 5) 2, qn, qe (.iconst 0) 1, qe (.istore 6) 2, qn, qe (.iload 6) 2, qn, qe (.iconst 3) 1, qt (.if_icmp .ge 41) 3 69, qn, qn, qe (.aload_n 0) 1],
  [qt (.invokevirtual 86) 3 156, qn, qn, qt (.ifCond .eq 34) 3 69, qn, qn, qe (.bipush 10) 2, qn, qe (.iload 5) 2, qn, qe .imul 1, qe (.aload_n 0) 1, qt (.invokevirtual 68) 3 153, qn, qn, qe .iadd 1],
  [qe (.bipush 48) 2, qn, qe .isub 1, qe (.istore 5) 2, qn, qe (.aload_n 0) 1, qe .dup 1, qf (.getfield 65) 10 3 0, qn, qn, qe (.iconst 1) 1, qe .iadd 1, qf (.putfield 65) 10 3 0, qn, qn, qe (.iinc 6 1) 3],
  [qn, qn, qt (.goto (-41)) 3 25, qn, qn, qe (.aload_n 0) 1, qt (.invokevirtual 86) 3 156, qn, qn, qt (.ifCond .eq 10) 3 83, qn, qn, qe (.aload_n 0) 1, qt (.invokevirtual 90) 3 155],
  [qt (.goto 42) 3 122, qn, qn, qe (.iload 5) 2, qn, qe .i2l 1, qe (.iload_n 1) 1, qe .i2l 1, qe (.iload_n 2) 1, qe .i2l 1, qf (.invokestatic 93) 147 3 1, qn, qn, qt (.ifCond .eq 15) 3 108],
  [qe (.iload_n 3) 1, qt (.ifCond .eq 25) 3 122, qn, qn, qe (.iload 5) 2, qn, qf (.invokestatic 97) 158 1 1, qn, qn, qt (.ifCond .ne 17) 3 122, qn, qn, qe (.aload_n 0) 1, qe .dup 1, qf (.getfield 65) 10 3 0],
  [qn, qe (.iconst 1) 1, qe .isub 1, qf (.putfield 65) 10 3 0, qn, qn, qe (.aload_n 0) 1, qt (.invokevirtual 90) 3 155, qn, qn, qe (.aload_n 0) 1, qf (.getfield 72) 10 4 0, qn, qn, qe (.iconst (-1)) 1, qt (.if_icmp .ne 8) 3 135],
  [qn, qn, qe (.iload 5) 2, qn, qt (.goto 4) 3 136, qn, qn, qe (.iload_n 1) 1, qe .ireturn 1]]
def qp160 : List (List (Option qE)) := [[qe (.aload_n 0) 1, qf (.getfield 72) 10 4 0, qn, qn, qe (.iconst (-1)) 1, qt (.if_icmp .eq 4) 3 9, qn, qn, qe .return_ 1, qe (.aload_n 0) 1, qt (.invokevirtual 83) 3 154, qn, qn, qe (.iload_n 1) 1, qt (.if_icmp .ne 16) 3 30],
  [qn, qe (.aload_n 0) 1, qe .dup 1, qf (.getfield 65) 10 3 0, qn, qn, qe (.iconst 1) 1, qe .iadd 1, qf (.putfield 65) 10 3 0, qn, qn, qt (.goto 7) 3 34, qn, qn, qe (.aload_n 0) 1, qt (.invokevirtual 90) 3 155],
  [qn, qn, qe .return_ 1]]
def qp161 : List (List (Option qE)) := [[qe (.aload_n 0) 1, qe (.bipush 7) 2, qn, qf (.putfield 101) 10 5 0, qn, qn, qe (.aload_n 0) 1, qe (.bipush 12) 2, qn, qf (.putfield 104) 10 6 0, qn, qn, qe (.aload_n 0) 1, qe (.bipush 115) 2, qn, qf (.invokevirtual 107) 160 1 0],
  [qn, qn, qe (.iconst 0) 1, qe (.istore_n 1) 1, qe (.aload_n 0) 1, qf (.getfield 72) 10 4 0, qn, qn, qe (.iconst (-1)) 1, qt (.if_icmp .ne 15) 3 40, qn, qn, some (.ldc 110, 2, 1, 0, 2), qn, qe (.aload_n 0) 1, qt (.invokevirtual 83) 3 154],
  [qn, qn, qf (.invokestatic 112) 157 2 1, qn, qn, qt (.goto 4) 3 41, qn, qn, qe (.iconst (-1)) 1, qe (.istore_n 2) 1, qe (.iload_n 2) 1, qe (.iconst (-1)) 1, qt (.if_icmp .eq 89) 3 133, qn, qn, qe (.iload_n 1) 1],
  [qe (.iload_n 2) 1, qf (.invokestatic 116) 148 2 1, qn, qn, qt (.ifCond .eq 8) 3 60, qn, qn, qe (.aload_n 0) 1, qt (.invokevirtual 90) 3 155, qn, qn, qe .return_ 1, qe (.iload_n 1) 1, qe (.iconst 1) 1, qe (.iload_n 2) 1, qe .ishl 1],
  [qe .ior 1, qe (.istore_n 1) 1, qe (.aload_n 0) 1, qe .dup 1, qf (.getfield 65) 10 3 0, qn, qn, qe (.iconst 1) 1, qe .iadd 1, qf (.putfield 65) 10 3 0, qn, qn, qe (.iload_n 2) 1, qt (.ifCond .ne 19) 3 96],
  [qe (.aload_n 0) 1, qe (.aload_n 0) 1, qe (.iconst 2) 1, qe (.sipush 997) 3, qn, qn, qe (.iconst 1) 1, qf (.invokevirtual 120) 159 3 0, qn, qn, qf (.putfield 101) 10 5 0, qn, qn, qt (.goto 15) 3 108],
  [qe (.aload_n 0) 1, qe (.aload_n 0) 1, qe (.iconst 2) 1, qe (.bipush 24) 2, qn, qe (.iconst 0) 1, qf (.invokevirtual 120) 159 3 0, qn, qn, qf (.putfield 104) 10 6 0, qn, qn, qe (.aload_n 0) 1, qf (.getfield 72) 10 4 0],
  [qe (.iconst (-1)) 1, qt (.if_icmp .ne 15) 3 128, qn, qn, some (.ldc 110, 2, 1, 0, 2), qn, qe (.aload_n 0) 1, qt (.invokevirtual 83) 3 154, qn, qn, qf (.invokestatic 112) 157 2 1, qn, qn, qt (.goto 4) 3 129],
  [qe (.iconst (-1)) 1, qe (.istore_n 2) 1, qt (.goto (-88)) 3 42, qn, qn, qe (.aload_n 0) 1, qf (.getfield 72) 10 4 0, qn, qn, qe (.iconst (-1)) 1, qt (.if_icmp .ne 15) 3 153, qn, qn, qe (.aload_n 0) 1, qt (.invokevirtual 83) 3 154],
  [qn, qe (.iconst (-1)) 1, qt (.if_icmp .eq 7) 3 153, qn, qn, qe (.aload_n 0) 1, qt (.invokevirtual 90) 3 155, qn, qn, qe .return_ 1]]
def qp162 : List (List (Option qE)) := [[qe (.sipush 280) 3, qn, qn, qe (.aload_n 0) 1, qf (.getfield 124) 10 14 0, qn, qn, qe .imul 1, qe (.iconst 2) 1, qe (.aload_n 0) 1, qf (.getfield 17) 10 10 2, qn, qn, qe (.aload_n 0) 1, qf (.getfield 124) 10 14 0],
  [qn, qe .iaload 1, qe .imul 1, qe .iadd 1, qe (.istore_n 3) 1, qe (.aload_n 0) 1, qf (.getfield 20) 10 11 2, qn, qn, qe (.iload_n 3) 1, qe (.iload_n 1) 1, qe .iastore 1, qe (.aload_n 0) 1, qf (.getfield 20) 10 11 2],
  [qe (.iload_n 3) 1, qe (.iconst 1) 1, qe .iadd 1, qe (.iload_n 2) 1, qe .iastore 1, qe (.aload_n 0) 1, qf (.getfield 17) 10 10 2, qn, qn, qe (.aload_n 0) 1, qf (.getfield 124) 10 14 0, qn, qn, qe .dup2 1, qe .iaload 1, qe (.iconst 1) 1],
  [qe .iadd 1, qe .iastore 1, qe .return_ 1]]
def qp163 : List (List (Option qE)) := [[qe (.aload_n 0) 1, qf (.getfield 72) 10 4 0, qn, qn, qe (.iconst (-1)) 1, qt (.if_icmp .eq 4) 3 9, qn, qn, qe .return_ 1, qe (.aload_n 0) 1, qt (.invokevirtual 83) 3 154, qn, qn, qe (.bipush 40) 2, qn, qt (.if_icmp .ne 12) 3 27],
  [qn, qn, qe (.aload_n 0) 1, qf (.getfield 127) 10 15 0, qn, qn, qe (.bipush 8) 2, qn, qt (.if_icmp .ne 8) 3 32, qn, qn, qe (.aload_n 0) 1, qt (.invokevirtual 90) 3 155, qn, qn, qe .return_ 1],
  [qe (.aload_n 0) 1, qe .dup 1, qf (.getfield 127) 10 15 0, qn, qn, qe (.iconst 1) 1, qe .iadd 1, qf (.putfield 127) 10 15 0, qn, qn, qe (.aload_n 0) 1, qe .dup 1, qf (.getfield 65) 10 3 0, qn, qn, qe (.iconst 1) 1],
  [qe .iadd 1, qf (.putfield 65) 10 3 0, qn, qn, qe .return_ 1]]
def qp164 : List (List (Option qE)) := [[qe (.aload_n 0) 1, qe (.bipush 41) 2, qn, qf (.invokevirtual 107) 160 1 0, qn, qn, qe (.aload_n 0) 1, qe .dup 1, qf (.getfield 127) 10 15 0, qn, qn, qe (.iconst 1) 1, qe .isub 1, qf (.putfield 127) 10 15 0],
  [qe .return_ 1]]
def qp165 : List (List (Option qE)) := [[qe (.aload_n 0) 1, qt (.invokevirtual 130) 3 166, qn, qn, qe (.aload_n 0) 1, qf (.getfield 72) 10 4 0, qn, qn, qe (.iconst (-1)) 1, qt (.if_icmp .ne 59) 3 68, qn, qn, qe (.aload_n 0) 1, qt (.invokevirtual 83) 3 154],
  [qe (.bipush 43) 2, qn, qt (.if_icmp .eq 12) 3 30, qn, qn, qe (.aload_n 0) 1, qt (.invokevirtual 83) 3 154, qn, qn, qe (.bipush 45) 2, qn, qt (.if_icmp .ne 41) 3 68, qn, qn, qe (.aload_n 0) 1, qt (.invokevirtual 83) 3 154],
  [qn, qn, qe (.bipush 43) 2, qn, qt (.if_icmp .ne 7) 3 43, qn, qn, qe (.iconst 3) 1, qt (.goto 4) 3 44, qn, qn, qe (.iconst 4) 1, qe (.istore_n 1) 1, qe (.aload_n 0) 1, qe .dup 1, qf (.getfield 65) 10 3 0],
  [qn, qn, qe (.iconst 1) 1, qe .iadd 1, qf (.putfield 65) 10 3 0, qn, qn, qe (.aload_n 0) 1, qt (.invokevirtual 130) 3 166, qn, qn, qe (.aload_n 0) 1, qe (.iload_n 1) 1, qe (.iconst 0) 1, qf (.invokevirtual 133) 162 2 0],
  [qn, qt (.goto (-61)) 3 4, qn, qn, qe .return_ 1]]
def qp166 : List (List (Option qE)) := [[qe (.aload_n 0) 1, qt (.invokevirtual 137) 3 167, qn, qn, qe (.aload_n 0) 1, qf (.getfield 72) 10 4 0, qn, qn, qe (.iconst (-1)) 1, qt (.if_icmp .ne 60) 3 69, qn, qn, qe (.aload_n 0) 1, qt (.invokevirtual 83) 3 154],
  [qe (.bipush 42) 2, qn, qt (.if_icmp .eq 12) 3 30, qn, qn, qe (.aload_n 0) 1, qt (.invokevirtual 83) 3 154, qn, qn, qe (.bipush 47) 2, qn, qt (.if_icmp .ne 42) 3 69, qn, qn, qe (.aload_n 0) 1, qt (.invokevirtual 83) 3 154],
  [qn, qn, qe (.bipush 42) 2, qn, qt (.if_icmp .ne 7) 3 43, qn, qn, qe (.iconst 5) 1, qt (.goto 5) 3 45, qn, qn, qe (.bipush 6) 2, qn, qe (.istore_n 1) 1, qe (.aload_n 0) 1, qe .dup 1],
  [qf (.getfield 65) 10 3 0, qn, qn, qe (.iconst 1) 1, qe .iadd 1, qf (.putfield 65) 10 3 0, qn, qn, qe (.aload_n 0) 1, qt (.invokevirtual 137) 3 167, qn, qn, qe (.aload_n 0) 1, qe (.iload_n 1) 1, qe (.iconst 0) 1, qf (.invokevirtual 133) 162 2 0],
  [qn, qn, qt (.goto (-62)) 3 4, qn, qn, qe .return_ 1]]
def qp167 : List (List (Option qE)) := [[qe (.aload_n 0) 1, qt (.invokevirtual 140) 3 168, qn, qn, qe (.aload_n 0) 1, qf (.getfield 72) 10 4 0, qn, qn, qe (.iconst (-1)) 1, qt (.if_icmp .ne 12) 3 21, qn, qn, qe (.aload_n 0) 1, qt (.invokevirtual 83) 3 154],
  [qe (.bipush 94) 2, qn, qt (.if_icmp .eq 4) 3 22, qn, qn, qe .return_ 1, qe (.aload_n 0) 1, qe .dup 1, qf (.getfield 65) 10 3 0, qn, qn, qe (.iconst 1) 1, qe .iadd 1, qf (.putfield 65) 10 3 0],
  [qe (.aload_n 0) 1, qe (.bipush 7) 2, qn, qe (.aload_n 0) 1, qe (.iconst 0) 1, qe (.bipush 99) 2, qn, qe (.iconst 0) 1, qf (.invokevirtual 120) 159 3 0, qn, qn, qf (.invokevirtual 133) 162 2 0, qn, qn, qe .return_ 1]]
def qp168 : List (List (Option qE)) := [[qe (.aload_n 0) 1, qf (.getfield 72) 10 4 0, qn, qn, qe (.iconst (-1)) 1, qt (.if_icmp .eq 4) 3 9, qn, qn, qe .return_ 1, qe (.aload_n 0) 1, qt (.invokevirtual 83) 3 154, qn, qn, qe (.istore_n 1) 1, qe (.iload_n 1) 1, qe (.bipush 40) 2],
  [qn, qt (.if_icmp .ne 24) 3 41, qn, qn, qe (.aload_n 0) 1, qt (.invokevirtual 143) 3 163, qn, qn, qe (.aload_n 0) 1, qf (.getfield 72) 10 4 0, qn, qn, qe (.iconst (-1)) 1, qt (.if_icmp .ne 7) 3 36],
  [qe (.aload_n 0) 1, qt (.invokevirtual 146) 3 165, qn, qn, qe (.aload_n 0) 1, qt (.invokevirtual 149) 3 164, qn, qn, qe .return_ 1, some (.ldc 152, 2, 2, 0, 2), qn, qe (.iload_n 1) 1, qf (.invokestatic 112) 157 2 1, qn, qn, qe (.istore_n 2) 1],
  [some (.ldc 154, 2, 3, 0, 2), qn, qe (.iload_n 1) 1, qf (.invokestatic 112) 157 2 1, qn, qn, qe (.istore_n 3) 1, qe (.aload_n 0) 1, qf (.getfield 156) 10 16 0, qn, qn, qe (.bipush 24) 2, qn, qt (.if_icmp .eq 26) 3 87],
  [qe (.aload_n 0) 1, qt (.invokevirtual 86) 3 156, qn, qn, qt (.ifCond .ne 24) 3 92, qn, qn, qe (.iload_n 1) 1, qe (.bipush 120) 2, qn, qt (.if_icmp .eq 18) 3 92, qn, qn, qe (.iload_n 2) 1, qe (.iconst (-1)) 1, qt (.if_icmp .ne 13) 3 92],
  [qn, qn, qe (.iload_n 3) 1, qe (.iconst (-1)) 1, qt (.if_icmp .ne 8) 3 92, qn, qn, qe (.aload_n 0) 1, qt (.invokevirtual 90) 3 155, qn, qn, qe .return_ 1, qe (.aload_n 0) 1, qe .dup 1, qf (.getfield 156) 10 16 0],
  [qn, qe (.iconst 1) 1, qe .iadd 1, qf (.putfield 156) 10 16 0, qn, qn, qe (.aload_n 0) 1, qt (.invokevirtual 86) 3 156, qn, qn, qt (.ifCond .eq 18) 3 124, qn, qn, qe (.aload_n 0) 1, qe (.iconst 0) 1, qe (.aload_n 0) 1],
  [qe (.iconst 0) 1, qe (.sipush 999) 3, qn, qn, qe (.iconst 0) 1, qf (.invokevirtual 120) 159 3 0, qn, qn, qf (.invokevirtual 133) 162 2 0, qn, qn, qe .return_ 1, qe (.aload_n 0) 1, qe .dup 1, qf (.getfield 65) 10 3 0],
  [qn, qe (.iconst 1) 1, qe .iadd 1, qf (.putfield 65) 10 3 0, qn, qn, qe (.iload_n 3) 1, qe (.iconst (-1)) 1, qt (.if_icmp .eq 14) 3 150, qn, qn, qe (.aload_n 0) 1, qe (.bipush 8) 2, qn, qe (.iload_n 3) 1, qe .iadd 1],
  [qf (.invokevirtual 159) 169 1 0, qn, qn, qt (.goto 18) 3 165, qn, qn, qe (.aload_n 0) 1, qe (.iload_n 2) 1, qe (.iconst (-1)) 1, qt (.if_icmp .ne 7) 3 160, qn, qn, qe (.iconst 1) 1, qt (.goto 4) 3 161],
  [qe (.iconst 2) 1, qe (.iload_n 2) 1, qf (.invokevirtual 133) 162 2 0, qn, qn, qe .return_ 1]]
def qp169 : List (List (Option qE)) := [[qe (.iconst 0) 1, qe (.istore_n 2) 1, qe (.iload_n 1) 1, qe (.bipush 13) 2, qn, qt (.if_icmp .ne 42) 3 47, qn, qn, qe (.aload_n 0) 1, qt (.invokevirtual 83) 3 154, qn, qn, qe (.bipush 48) 2, qn, qe .isub 1, qe (.istore_n 2) 1],
  [qe (.iload_n 2) 1, qe .i2l 1, qt (.ldc2_w 162) 3 2, qn, qn, qt (.ldc2_w 164) 3 9, qn, qn, qf (.invokestatic 93) 147 3 1, qn, qn, qt (.ifCond .eq 16) 3 43, qn, qn, qe (.aload_n 0) 1, qe .dup 1],
  [qf (.getfield 65) 10 3 0, qn, qn, qe (.iconst 1) 1, qe .iadd 1, qf (.putfield 65) 10 3 0, qn, qn, qt (.goto 7) 3 47, qn, qn, qe (.aload_n 0) 1, qt (.invokevirtual 90) 3 155, qn, qn, qe (.iload_n 1) 1],
  [qe (.bipush 14) 2, qn, qt (.if_icmp .ne 12) 3 62, qn, qn, qe (.aload_n 0) 1, qe (.iconst 1) 1, qe (.bipush 24) 2, qn, qe (.iconst 0) 1, qf (.invokevirtual 120) 159 3 0, qn, qn, qe (.istore_n 2) 1, qe (.aload_n 0) 1, qt (.invokevirtual 143) 3 163],
  [qn, qn, qe (.aload_n 0) 1, qf (.getfield 72) 10 4 0, qn, qn, qe (.iconst (-1)) 1, qt (.if_icmp .ne 7) 3 78, qn, qn, qe (.aload_n 0) 1, qt (.invokevirtual 146) 3 165, qn, qn, qe (.iload_n 1) 1, qe (.bipush 15) 2],
  [qn, qt (.if_icmp .ne 21) 3 102, qn, qn, qe (.aload_n 0) 1, qe (.bipush 44) 2, qn, qf (.invokevirtual 107) 160 1 0, qn, qn, qe (.aload_n 0) 1, qf (.getfield 72) 10 4 0, qn, qn, qe (.iconst (-1)) 1, qt (.if_icmp .ne 7) 3 102],
  [qn, qn, qe (.aload_n 0) 1, qt (.invokevirtual 146) 3 165, qn, qn, qe (.iload_n 1) 1, qe (.bipush 16) 2, qn, qt (.if_icmp .ne 10) 3 115, qn, qn, qe (.aload_n 0) 1, qt (.invokevirtual 166) 3 170],
  [qt (.goto 17) 3 129, qn, qn, qe (.aload_n 0) 1, qf (.getfield 72) 10 4 0, qn, qn, qe (.iconst (-1)) 1, qt (.if_icmp .ne 9) 3 129, qn, qn, qe (.aload_n 0) 1, qe (.iload_n 1) 1, qe (.iload_n 2) 1, qf (.invokevirtual 133) 162 2 0],
  [qn, qe (.aload_n 0) 1, qt (.invokevirtual 149) 3 164, qn, qn, qe .return_ 1]]
def qp170 : List (List (Option qE)) := [[qe (.iconst 1) 1, qe (.istore_n 1) 1, qe (.aload_n 0) 1, qf (.getfield 72) 10 4 0, qn, qn, qe (.iconst (-1)) 1, qt (.if_icmp .ne 62) 3 69, qn, qn, qe (.iload_n 1) 1, qe (.iconst 1) 1, qt (.if_icmp .eq 18) 3 30, qn, qn, qe (.iload_n 1) 1],
  [qe (.bipush 6) 2, qn, qt (.if_icmp .ge 51) 3 69, qn, qn, qe (.aload_n 0) 1, qt (.invokevirtual 83) 3 154, qn, qn, qe (.bipush 44) 2, qn, qt (.if_icmp .ne 42) 3 69, qn, qn, qe (.aload_n 0) 1, qe (.bipush 44) 2],
  [qn, qf (.invokevirtual 107) 160 1 0, qn, qn, qe (.aload_n 0) 1, qf (.getfield 72) 10 4 0, qn, qn, qe (.iconst (-1)) 1, qt (.if_icmp .ne 7) 3 48, qn, qn, qe (.aload_n 0) 1, qt (.invokevirtual 146) 3 165],
  [qe (.aload_n 0) 1, qf (.getfield 72) 10 4 0, qn, qn, qe (.iconst (-1)) 1, qt (.if_icmp .ne 10) 3 63, qn, qn, qe (.aload_n 0) 1, qe (.bipush 16) 2, qn, qe (.iconst 0) 1, qf (.invokevirtual 133) 162 2 0, qn, qn, qe (.iinc 1 1) 3],
  [qn, qn, qt (.goto (-64)) 3 2, qn, qn, qe .return_ 1]]
def qp171 : List (List (Option qE)) := [[qe (.aload_n 0) 1, qe (.iload_n 1) 1, qf (.putfield 124) 10 14 0, qn, qn, qe (.aload_n 0) 1, qf (.getfield 17) 10 10 2, qn, qn, qe (.aload_n 0) 1, qf (.getfield 124) 10 14 0, qn, qn, qe (.iconst 0) 1, qe .iastore 1, qe (.aload_n 0) 1],
  [qe (.iconst 0) 1, qf (.putfield 127) 10 15 0, qn, qn, qe (.aload_n 0) 1, qe (.iconst 0) 1, qf (.putfield 156) 10 16 0, qn, qn, some (.ldc 152, 2, 2, 0, 2), qn, qe (.aload_n 0) 1, qt (.invokevirtual 83) 3 154, qn, qn, qf (.invokestatic 112) 157 2 1],
  [qn, qn, qe (.istore_n 2) 1, qe (.iload_n 2) 1, qe (.iconst (-1)) 1, qt (.if_icmp .ne 8) 3 45, qn, qn, qe (.aload_n 0) 1, qt (.invokevirtual 90) 3 155, qn, qn, qe .return_ 1, qe (.aload_n 0) 1, qf (.getfield 13) 10 9 2],
  [qn, qe (.aload_n 0) 1, qf (.getfield 124) 10 14 0, qn, qn, qe (.iload_n 2) 1, qe .iastore 1, qe (.aload_n 0) 1, qe .dup 1, qf (.getfield 65) 10 3 0, qn, qn, qe (.iconst 1) 1, qe .iadd 1, qf (.putfield 65) 10 3 0],
  [qn, qe (.aload_n 0) 1, qe (.bipush 61) 2, qn, qf (.invokevirtual 107) 160 1 0, qn, qn, qe (.aload_n 0) 1, qf (.getfield 72) 10 4 0, qn, qn, qe (.iconst (-1)) 1, qt (.if_icmp .ne 7) 3 83, qn, qn, qe (.aload_n 0) 1],
  [qt (.invokevirtual 146) 3 165, qn, qn, qe .return_ 1]]
def qp172 : List (List (Option qE)) := [[qe (.iconst 0) 1, qe (.istore_n 1) 1, qe (.iconst 1) 1, qe (.istore_n 2) 1, qe (.iload_n 2) 1, qt (.ifCond .eq 70) 3 75, qn, qn, qe (.aload_n 0) 1, qe (.bipush 32) 2, qn, qe (.iload_n 1) 1, qe .iadd 1, qf (.invokevirtual 169) 171 1 0],
  [qe (.aload_n 0) 1, qf (.getfield 72) 10 4 0, qn, qn, qe (.iconst (-1)) 1, qt (.if_icmp .eq 4) 3 25, qn, qn, qe .return_ 1, qe (.iinc 1 1) 3, qn, qn, qe (.aload_n 0) 1, qt (.invokevirtual 83) 3 154],
  [qe (.bipush 59) 2, qn, qt (.if_icmp .ne 7) 3 41, qn, qn, qe (.iconst 1) 1, qt (.goto 4) 3 42, qn, qn, qe (.iconst 0) 1, qe (.istore_n 2) 1, qe (.iload_n 2) 1, qt (.ifCond .eq 14) 3 58, qn, qn, qe (.iload_n 1) 1],
  [qe (.bipush 8) 2, qn, qt (.if_icmp .ne 8) 3 58, qn, qn, qe (.aload_n 0) 1, qt (.invokevirtual 90) 3 155, qn, qn, qe .return_ 1, qe (.iload_n 2) 1, qt (.ifCond .eq (-55)) 3 4, qn, qn, qe (.aload_n 0) 1, qe .dup 1],
  [qf (.getfield 65) 10 3 0, qn, qn, qe (.iconst 1) 1, qe .iadd 1, qf (.putfield 65) 10 3 0, qn, qn, qt (.goto (-68)) 3 4, qn, qn, qe (.aload_n 0) 1, qf (.getfield 23) 10 12 2, qn, qn, qe (.iconst 4) 1],
  [qe (.iload_n 1) 1, qe .iastore 1, qe (.aload_n 0) 1, qt (.invokevirtual 83) 3 154, qn, qn, qe (.iconst (-1)) 1, qt (.if_icmp .eq 7) 3 94, qn, qn, qe (.aload_n 0) 1, qt (.invokevirtual 90) 3 155, qn, qn, qe .return_ 1]]
def qp173 : List (List (Option qE)) := [[qe (.aload_n 0) 1, qe (.bipush 40) 2, qn, qf (.invokevirtual 169) 171 1 0, qn, qn, qe (.aload_n 0) 1, qf (.getfield 72) 10 4 0, qn, qn, qe (.iconst (-1)) 1, qt (.if_icmp .ne 15) 3 26, qn, qn, qe (.aload_n 0) 1, qt (.invokevirtual 83) 3 154],
  [qn, qn, qe (.iconst (-1)) 1, qt (.if_icmp .eq 7) 3 26, qn, qn, qe (.aload_n 0) 1, qt (.invokevirtual 90) 3 155, qn, qn, qe .return_ 1]]
def qp174 : List (List (Option qE)) := [[qe (.aload_n 0) 1, qe (.iconst 0) 1, qt (.putfield 50) 3 10, qn, qn, qe (.iload_n 1) 1, qe .i2l 1, qe (.lconst 0) 1, qt (.ldc2_w 162) 3 2, qn, qn, qf (.invokestatic 93) 147 3 1, qn, qn, qt (.ifCond .ne 6) 3 20],
  [qn, qe (.bipush (-2)) 2, qn, qe .ireturn 1, qe (.aload_n 0) 1, qe (.iconst 0) 1, qf (.putfield 65) 10 3 0, qn, qn, qe (.aload_n 0) 1, qe (.iconst (-1)) 1, qf (.putfield 72) 10 4 0, qn, qn, qe (.iload_n 1) 1, qt (.ifCond .ne 10) 3 41],
  [qn, qn, qe (.aload_n 0) 1, qt (.invokevirtual 172) 3 161, qn, qn, qt (.goto 19) 3 57, qn, qn, qe (.iload_n 1) 1, qe (.iconst 1) 1, qt (.if_icmp .ne 10) 3 53, qn, qn, qe (.aload_n 0) 1, qt (.invokevirtual 175) 3 172],
  [qn, qn, qt (.goto 7) 3 57, qn, qn, qe (.aload_n 0) 1, qt (.invokevirtual 178) 3 173, qn, qn, qe (.aload_n 0) 1, qf (.getfield 72) 10 4 0, qn, qn, qe .ireturn 1]]
def qp175 : List (List (Option qE)) := [[qe (.aload_n 0) 1, qf (.getfield 13) 10 9 2, qn, qn, qe (.iload_n 2) 1, qe (.aload_n 0) 1, qf (.getfield 13) 10 9 2, qn, qn, qe (.iload_n 1) 1, qe .iaload 1, qe .iastore 1, qe (.aload_n 0) 1, qf (.getfield 17) 10 10 2],
  [qe (.iload_n 2) 1, qe (.aload_n 0) 1, qf (.getfield 17) 10 10 2, qn, qn, qe (.iload_n 1) 1, qe .iaload 1, qe .iastore 1, qe (.iconst 0) 1, qe (.istore_n 3) 1, qe (.iload_n 3) 1, qe (.sipush 280) 3, qn, qn, qt (.if_icmp .ge 33) 3 63],
  [qn, qe (.aload_n 0) 1, qf (.getfield 20) 10 11 2, qn, qn, qe (.sipush 280) 3, qn, qn, qe (.iload_n 2) 1, qe .imul 1, qe (.iload_n 3) 1, qe .iadd 1, qe (.aload_n 0) 1, qf (.getfield 20) 10 11 2],
  [qe (.sipush 280) 3, qn, qn, qe (.iload_n 1) 1, qe .imul 1, qe (.iload_n 3) 1, qe .iadd 1, qe .iaload 1, qe .iastore 1, qe (.iinc 3 1) 3, qn, qn, qt (.goto (-34)) 3 26, qn, qn, qe .return_ 1]]
def qp176 : List (List (Option qE)) := [[qe (.aload_n 0) 1, qe (.iconst 0) 1, qt (.putfield 50) 3 10, qn, qn, qe (.iload_n 1) 1, qe .i2l 1, qe (.lconst 0) 1, qe (.lconst 1) 1, qf (.invokestatic 93) 147 3 1, qn, qn, qt (.ifCond .eq 25) 3 37, qn, qn, qe (.iload_n 1) 1],
  [qe (.iconst 1) 1, qt (.if_icmp .ne 11) 3 28, qn, qn, qe (.aload_n 0) 1, qf (.getfield 181) 10 13 0, qn, qn, qe (.iconst 4) 1, qt (.if_icmp .eq 12) 3 37, qn, qn, qe (.aload_n 0) 1, qe (.iload_n 1) 1, qf (.invokevirtual 184) 174 1 0],
  [qn, qe (.iconst (-1)) 1, qt (.if_icmp .eq 5) 3 39, qn, qn, qe (.iconst (-1)) 1, qe .ireturn 1, qe (.aload_n 0) 1, qe (.iconst 0) 1, qf (.putfield 54) 10 2 0, qn, qn, qe (.iload_n 1) 1, qe (.iconst 1) 1, qt (.if_icmp .ne 70) 3 116],
  [qn, qe (.iconst 0) 1, qe (.istore_n 2) 1, qe (.iload_n 2) 1, qe (.aload_n 0) 1, qf (.getfield 23) 10 12 2, qn, qn, qe (.iconst 4) 1, qe .iaload 1, qt (.if_icmp .ge 26) 3 84, qn, qn, qe (.aload_n 0) 1, qe (.bipush 32) 2],
  [qe (.iload_n 2) 1, qe .iadd 1, qe (.bipush 8) 2, qn, qe (.aload_n 0) 1, qf (.getfield 181) 10 13 0, qn, qn, qe .imul 1, qe (.iload_n 2) 1, qe .iadd 1, qf (.invokevirtual 186) 175 2 0, qn, qn, qe (.iinc 2 1) 3],
  [qn, qt (.goto (-30)) 3 51, qn, qn, qe (.aload_n 0) 1, qf (.getfield 23) 10 12 2, qn, qn, qe (.aload_n 0) 1, qf (.getfield 181) 10 13 0, qn, qn, qe (.aload_n 0) 1, qf (.getfield 23) 10 12 2],
  [qe (.iconst 4) 1, qe .iaload 1, qe .iastore 1, qe (.aload_n 0) 1, qe .dup 1, qf (.getfield 181) 10 13 0, qn, qn, qe (.iconst 1) 1, qe .iadd 1, qf (.putfield 181) 10 13 0, qn, qn, qe (.aload_n 0) 1, qf (.getfield 181) 10 13 0],
  [qn, qe (.iconst 1) 1, qe .isub 1, qe .ireturn 1, qe (.aload_n 0) 1, qe (.aload_n 0) 1, qf (.getfield 101) 10 5 0, qn, qn, qf (.putfield 189) 10 7 0, qn, qn, qe (.aload_n 0) 1, qe (.aload_n 0) 1, qf (.getfield 104) 10 6 0],
  [qn, qf (.putfield 192) 10 8 0, qn, qn, qe (.iconst 0) 1, qe (.istore_n 2) 1, qe (.iload_n 2) 1, qe (.sipush 381) 3, qn, qn, qt (.if_icmp .ge 16) 3 154, qn, qn, qe (.aload_n 0) 1, qf (.getfield 26) 10 17 2],
  [qn, qe (.iload_n 2) 1, qe (.iconst 0) 1, qe .iastore 1, qe (.iinc 2 1) 3, qn, qn, qt (.goto (-17)) 3 134, qn, qn, qe (.aload_n 0) 1, qe (.iconst 0) 1, qf (.putfield 195) 10 22 0, qn, qn, qe (.aload_n 0) 1],
  [qe (.iconst 0) 1, qf (.putfield 198) 10 23 3, qn, qn, qe (.aload_n 0) 1, qf (.getfield 189) 10 7 0, qn, qn, qe .ireturn 1]]
def qp177 : List (List (Option qE)) := [[qe (.iconst 0) 1, qe (.istore 4) 2, qn, qe (.iload 4) 2, qn, qe (.sipush 381) 3, qn, qn, qt (.if_icmp .ge 21) 3 29, qn, qn, qe (.aload_n 2) 1, qe (.iload_n 3) 1, qe (.iload 4) 2, qn, qe .iadd 1],
  [qe (.aload_n 0) 1, qe (.iload_n 1) 1, qe (.iload 4) 2, qn, qe .iadd 1, qe .iaload 1, qe .iastore 1, qe (.iinc 4 1) 3, qn, qn, qt (.goto (-23)) 3 3, qn, qn, qe .return_ 1]]
def qp178 : List (List (Option qE)) := [[qe (.lload_n 1) 1, qe (.aload_n 0) 1, qf (.getfield 189) 10 7 0, qn, qn, qe .i2l 1, qe .lrem 1, qe (.lstore_n 3) 1, qe (.lload_n 3) 1, qe (.lconst 0) 1, qe .lcmp 1, qt (.ifCond .ge 13) 3 24, qn, qn, qe (.lload_n 3) 1, qe (.aload_n 0) 1],
  [qf (.getfield 189) 10 7 0, qn, qn, qe .i2l 1, qe .ladd 1, qt (.goto 4) 3 25, qn, qn, qe (.lload_n 3) 1, qe .l2i 1, qe .ireturn 1]]
def qp179 : List (List (Option qE)) := [[qe (.iconst 1) 1, qe (.istore_n 2) 1, qe (.iconst 0) 1, qe (.istore_n 3) 1, qe (.iload_n 3) 1, qe (.aload_n 0) 1, qf (.getfield 189) 10 7 0, qn, qn, qe (.iconst 2) 1, qe .isub 1, qt (.if_icmp .ge 18) 3 29, qn, qn, qe (.iload_n 2) 1, qe (.iload_n 1) 1],
  [qe .imul 1, qe (.aload_n 0) 1, qf (.getfield 189) 10 7 0, qn, qn, qe .irem 1, qe (.istore_n 2) 1, qe (.iinc 3 1) 3, qn, qn, qt (.goto (-22)) 3 4, qn, qn, qe (.iload_n 2) 1, qe .ireturn 1]]
def qp180 : List (List (Option qE)) := [[qe (.aload_n 0) 1, qf (.getfield 38) 10 24 2, qn, qn, qe (.bipush 25) 2, qn, qe (.iload_n 1) 1, qe .imul 1, qe .iaload 1, qe .ireturn 1]]
def qp181 : List (List (Option qE)) := [[qe (.aload_n 0) 1, qf (.getfield 38) 10 24 2, qn, qn, qe (.bipush 25) 2, qn, qe (.iload_n 1) 1, qe .imul 1, qe (.iload_n 2) 1, qe .iastore 1, qe .return_ 1]]
def qp182 : List (List (Option qE)) := [[qe (.iload_n 2) 1, qe (.aload_n 0) 1, qf (.getfield 38) 10 24 2, qn, qn, qe (.bipush 25) 2, qn, qe (.iload_n 1) 1, qe .imul 1, qe .iaload 1, qt (.if_icmp .ge 19) 3 29, qn, qn, qe (.aload_n 0) 1, qf (.getfield 38) 10 24 2],
  [qn, qe (.bipush 25) 2, qn, qe (.iload_n 1) 1, qe .imul 1, qe (.iconst 1) 1, qe .iadd 1, qe (.iload_n 2) 1, qe .iadd 1, qe .iaload 1, qt (.goto 4) 3 30, qn, qn, qe (.iconst 0) 1, qe .ireturn 1]]
def qp183 : List (List (Option qE)) := [[qe (.aload_n 0) 1, qf (.getfield 38) 10 24 2, qn, qn, qe (.bipush 25) 2, qn, qe (.iload_n 1) 1, qe .imul 1, qe (.iconst 1) 1, qe .iadd 1, qe (.iload_n 2) 1, qe .iadd 1, qe (.iload_n 3) 1, qe .iastore 1, qe .return_ 1]]
def qp184 : List (List (Option qE)) := [[qe (.iconst 0) 1, qe (.istore_n 3) 1, qe (.iload_n 3) 1, qe (.bipush 25) 2, qn, qt (.if_icmp .ge 31) 3 36, qn, qn, qe (.aload_n 0) 1, qf (.getfield 38) 10 24 2, qn, qn, qe (.bipush 25) 2, qn, qe (.iload_n 2) 1, qe .imul 1],
  [qe (.iload_n 3) 1, qe .iadd 1, qe (.aload_n 0) 1, qf (.getfield 38) 10 24 2, qn, qn, qe (.bipush 25) 2, qn, qe (.iload_n 1) 1, qe .imul 1, qe (.iload_n 3) 1, qe .iadd 1, qe .iaload 1, qe .iastore 1, qe (.iinc 3 1) 3],
  [qn, qt (.goto (-31)) 3 2, qn, qn, qe .return_ 1]]
def qp185 : List (List (Option qE)) := [[qe (.iconst 0) 1, qe (.istore_n 2) 1, qe (.iload_n 2) 1, qe (.aload_n 0) 1, qe (.iload_n 1) 1, qf (.invokevirtual 202) 180 1 0, qn, qn, qt (.if_icmp .ge 18) 3 26, qn, qn, qe (.aload_n 0) 1, qe (.iload_n 1) 1, qe (.iload_n 2) 1, qf (.invokevirtual 205) 182 2 0],
  [qn, qt (.ifCond .ne 9) 3 26, qn, qn, qe (.iinc 2 1) 3, qn, qn, qt (.goto (-21)) 3 2, qn, qn, qe (.iload_n 2) 1, qe .ireturn 1]]
def qp186 : List (List (Option qE)) := [[qe (.iload_n 0) 1, qe (.iload_n 1) 1, qt (.if_icmp .ge 7) 3 9, qn, qn, qe (.iload_n 0) 1, qt (.goto 4) 3 10, qn, qn, qe (.iload_n 1) 1, qe .ireturn 1]]
def qp187 : List (List (Option qE)) := [[qe (.aload_n 0) 1, qe (.iload_n 1) 1, qe (.aload_n 0) 1, qf (.getfield 192) 10 8 0, qn, qn, qf (.invokevirtual 209) 181 2 0, qn, qn, qe (.iconst 0) 1, qe (.istore_n 3) 1, qe (.iload_n 3) 1, qe (.aload_n 0) 1, qf (.getfield 192) 10 8 0],
  [qt (.if_icmp .ge 24) 3 40, qn, qn, qe (.aload_n 0) 1, qe (.iload_n 1) 1, qe (.iload_n 3) 1, qe (.iload_n 3) 1, qt (.ifCond .ne 7) 3 30, qn, qn, qe (.iload_n 2) 1, qt (.goto 4) 3 31, qn, qn, qe (.iconst 0) 1, qf (.invokevirtual 212) 183 3 0],
  [qn, qn, qe (.iinc 3 1) 3, qn, qn, qt (.goto (-26)) 3 11, qn, qn, qe .return_ 1]]
def qp188 : List (List (Option qE)) := [[qe (.lconst 0) 1, qe (.lstore 4) 2, qn, qe (.iconst 0) 1, qe (.istore 6) 2, qn, qe (.iload 6) 2, qn, qe (.iload_n 3) 1, qt (.if_icmp .gt 32) 3 41, qn, qn, qe (.lload 4) 2, qn, qe (.aload_n 0) 1, qe (.iload_n 1) 1],
  [qe (.iload 6) 2, qn, qf (.invokevirtual 205) 182 2 0, qn, qn, qe (.aload_n 0) 1, qe (.iload_n 2) 1, qe (.iload_n 3) 1, qe (.iload 6) 2, qn, qe .isub 1, qf (.invokevirtual 205) 182 2 0, qn, qn, qe .imul 1, qe .i2l 1],
  [qe .ladd 1, qe (.lstore 4) 2, qn, qe (.iinc 6 1) 3, qn, qn, qt (.goto (-32)) 3 6, qn, qn, qe (.lload 4) 2, qn, qe .lreturn 1]]
def qp189 : List (List (Option qE)) := [[qe (.aload_n 0) 1, qf (.getfield 192) 10 8 0, qn, qn, qe (.aload_n 0) 1, qe (.iload_n 1) 1, qf (.invokevirtual 216) 185 1 0, qn, qn, qe (.aload_n 0) 1, qe (.iload_n 2) 1, qf (.invokevirtual 202) 180 1 0, qn, qn, qe .iadd 1, qe (.aload_n 0) 1],
  [qe (.iload_n 2) 1, qf (.invokevirtual 216) 185 1 0, qn, qn, qe (.aload_n 0) 1, qe (.iload_n 1) 1, qf (.invokevirtual 202) 180 1 0, qn, qn, qe .iadd 1, qf (.invokestatic 219) 186 2 1, qn, qn, qf (.invokestatic 219) 186 2 1],
  [qe (.istore 4) 2, qn, qe (.aload_n 0) 1, qe (.iload_n 3) 1, qe (.iload 4) 2, qn, qf (.invokevirtual 209) 181 2 0, qn, qn, qe (.iconst 0) 1, qe (.istore 5) 2, qn, qe (.iload 5) 2, qn, qe (.iload 4) 2],
  [qt (.if_icmp .ge 28) 3 76, qn, qn, qe (.aload_n 0) 1, qe (.iload_n 3) 1, qe (.iload 5) 2, qn, qe (.aload_n 0) 1, qe (.aload_n 0) 1, qe (.iload_n 1) 1, qe (.iload_n 2) 1, qe (.iload 5) 2, qn, qf (.invokevirtual 222) 188 3 0],
  [qf (.invokevirtual 226) 178 1 0, qn, qn, qf (.invokevirtual 212) 183 3 0, qn, qn, qe (.iinc 5 1) 3, qn, qn, qt (.goto (-29)) 3 44, qn, qn, qe .return_ 1]]
def qp190 : List (List (Option qE)) := [[qe (.aload_n 0) 1, qe (.iload_n 1) 1, qf (.invokevirtual 202) 180 1 0, qn, qn, qe (.istore_n 3) 1, qe (.aload_n 0) 1, qe (.aload_n 0) 1, qe (.iload_n 1) 1, qe (.iconst 0) 1, qf (.invokevirtual 205) 182 2 0, qn, qn, qf (.invokevirtual 230) 179 1 0],
  [qe (.istore 4) 2, qn, qe (.aload_n 0) 1, qe (.iload_n 2) 1, qe (.iload_n 3) 1, qf (.invokevirtual 209) 181 2 0, qn, qn, qe (.iconst 0) 1, qe (.istore 5) 2, qn, qe (.iload 5) 2, qn, qe (.iload_n 3) 1, qt (.if_icmp .ge 17) 3 47],
  [qn, qe (.aload_n 0) 1, qe (.iload_n 2) 1, qe (.iload 5) 2, qn, qe (.iconst 0) 1, qf (.invokevirtual 212) 183 3 0, qn, qn, qe (.iinc 5 1) 3, qn, qn, qt (.goto (-17)) 3 27, qn, qn, qe (.aload_n 0) 1],
  [qe (.iload_n 2) 1, qe (.iconst 0) 1, qe (.iload 4) 2, qn, qf (.invokevirtual 212) 183 3 0, qn, qn, qe (.iconst 1) 1, qe (.istore 5) 2, qn, qe (.iload 5) 2, qn, qe (.iload_n 3) 1, qt (.if_icmp .ge 33) 3 94],
  [qe (.aload_n 0) 1, qe (.iload_n 2) 1, qe (.iload 5) 2, qn, qe (.aload_n 0) 1, qe (.aload_n 0) 1, qe (.iload_n 1) 1, qe (.iload_n 2) 1, qe (.iload 5) 2, qn, qf (.invokevirtual 222) 188 3 0, qn, qn, qe .lneg 1, qe (.iload 4) 2],
  [qe .i2l 1, qe .lmul 1, qf (.invokevirtual 226) 178 1 0, qn, qn, qf (.invokevirtual 212) 183 3 0, qn, qn, qe (.iinc 5 1) 3, qn, qn, qt (.goto (-33)) 3 58, qn, qn, qe .return_ 1]]
def qp191 : List (List (Option qE)) := [[qe (.aload_n 0) 1, qe (.iload_n 1) 1, qf (.invokevirtual 202) 180 1 0, qn, qn, qe (.iload_n 2) 1, qe .isub 1, qe (.istore_n 3) 1, qe (.iconst 0) 1, qe (.istore 4) 2, qn, qe (.iload 4) 2, qn, qe (.iload_n 3) 1, qt (.if_icmp .ge 25) 3 39],
  [qn, qe (.aload_n 0) 1, qe (.iload_n 1) 1, qe (.iload 4) 2, qn, qe (.aload_n 0) 1, qe (.iload_n 1) 1, qe (.iload 4) 2, qn, qe (.iload_n 2) 1, qe .iadd 1, qf (.invokevirtual 205) 182 2 0, qn, qn, qf (.invokevirtual 212) 183 3 0],
  [qn, qe (.iinc 4 1) 3, qn, qn, qt (.goto (-25)) 3 11, qn, qn, qe (.aload_n 0) 1, qe (.iload_n 1) 1, qe (.iload_n 3) 1, qf (.invokevirtual 209) 181 2 0, qn, qn, qe .return_ 1]]
def qp192 : List (List (Option qE)) := [[qe (.aload_n 0) 1, qe (.iload_n 3) 1, qe (.iload 4) 2, qn, qf (.invokevirtual 209) 181 2 0, qn, qn, qe (.iconst 0) 1, qe (.istore 5) 2, qn, qe (.iload 5) 2, qn, qe (.iload 4) 2, qn, qt (.if_icmp .ge 28) 3 42],
  [qn, qe (.aload_n 0) 1, qe (.iload_n 3) 1, qe (.iload 5) 2, qn, qe (.aload_n 0) 1, qe (.aload_n 0) 1, qe (.iload_n 1) 1, qe (.iload_n 2) 1, qe (.iload 5) 2, qn, qf (.invokevirtual 222) 188 3 0, qn, qn, qf (.invokevirtual 226) 178 1 0],
  [qn, qf (.invokevirtual 212) 183 3 0, qn, qn, qe (.iinc 5 1) 3, qn, qn, qt (.goto (-29)) 3 10, qn, qn, qe .return_ 1]]
def qp193 : List (List (Option qE)) := [[qe (.aload_n 0) 1, qe (.iload_n 1) 1, qe (.iload_n 2) 1, qf (.invokevirtual 209) 181 2 0, qn, qn, qe (.iconst 0) 1, qe (.istore_n 3) 1, qe (.iload_n 3) 1, qe (.iload_n 2) 1, qt (.if_icmp .ge 16) 3 26, qn, qn, qe (.aload_n 0) 1, qe (.iload_n 1) 1, qe (.iload_n 3) 1],
  [qe (.iconst 0) 1, qf (.invokevirtual 212) 183 3 0, qn, qn, qe (.iinc 3 1) 3, qn, qn, qt (.goto (-15)) 3 8, qn, qn, qe .return_ 1]]
def qp194 : List (List (Option qE)) := [[qe (.aload_n 0) 1, qe (.iload_n 1) 1, qe (.bipush 43) 2, qn, qf (.invokevirtual 233) 184 2 0, qn, qn, qe (.aload_n 0) 1, qe (.iload_n 1) 1, qe (.iload 4) 2, qn, qf (.invokevirtual 233) 184 2 0, qn, qn, qe (.aload_n 0) 1, qe (.iload 4) 2],
  [qn, qe (.iload_n 3) 1, qf (.invokevirtual 209) 181 2 0, qn, qn, qe (.iconst 1) 1, qe (.istore 5) 2, qn, qe (.iload 5) 2, qn, qe (.iload_n 2) 1, qt (.if_icmp .ge 28) 3 55, qn, qn, qe (.aload_n 0) 1, qe (.iload 4) 2],
  [qn, qe (.bipush 43) 2, qn, qe (.bipush 44) 2, qn, qe (.iload_n 3) 1, qf (.invokevirtual 236) 192 4 0, qn, qn, qe (.aload_n 0) 1, qe (.bipush 44) 2, qn, qe (.iload 4) 2, qn, qf (.invokevirtual 233) 184 2 0],
  [qn, qe (.iinc 5 1) 3, qn, qn, qt (.goto (-28)) 3 24, qn, qn, qe .return_ 1]]
def qp195 : List (List (Option qE)) := [[qe (.aload_n 0) 1, qe (.iload_n 1) 1, qe (.iconst 1) 1, qe .iadd 1, qf (.invokevirtual 216) 185 1 0, qn, qn, qe (.istore_n 2) 1, qe (.iload_n 2) 1, qe (.aload_n 0) 1, qe (.iload_n 1) 1, qe (.iconst 1) 1, qe .iadd 1, qf (.invokevirtual 202) 180 1 0],
  [qt (.if_icmp .eq 12) 3 28, qn, qn, qe (.iload_n 2) 1, qe (.aload_n 0) 1, qe (.iload_n 1) 1, qf (.invokevirtual 216) 185 1 0, qn, qn, qt (.if_icmp .le 5) 3 30, qn, qn, qe (.iconst 2) 1, qe .ireturn 1, qe (.iload_n 2) 1, qe (.aload_n 0) 1],
  [qe (.iload_n 1) 1, qf (.invokevirtual 202) 180 1 0, qn, qn, qt (.if_icmp .ne 5) 3 41, qn, qn, qe (.iconst 5) 1, qe .ireturn 1, qe (.aload_n 0) 1, qe (.iload_n 1) 1, qe (.iload_n 2) 1, qf (.invokevirtual 240) 191 2 0, qn, qn, qe (.aload_n 0) 1],
  [qe (.iload_n 1) 1, qe (.iconst 1) 1, qe .iadd 1, qe (.iload_n 2) 1, qf (.invokevirtual 240) 191 2 0, qn, qn, qe (.aload_n 0) 1, qe (.iload_n 1) 1, qe (.iconst 1) 1, qe .iadd 1, qe (.bipush 40) 2, qn, qf (.invokevirtual 243) 190 2 0],
  [qe (.aload_n 0) 1, qe (.iload_n 1) 1, qe (.bipush 40) 2, qn, qe (.bipush 41) 2, qn, qf (.invokevirtual 246) 189 3 0, qn, qn, qe (.aload_n 0) 1, qe (.bipush 41) 2, qn, qe (.iload_n 1) 1, qf (.invokevirtual 233) 184 2 0],
  [qe (.iconst (-1)) 1, qe .ireturn 1]]
def qp196 : List (List (Option qE)) := [[qe (.iload_n 2) 1, qt (.ifCond .ne 15) 3 16, qn, qn, qe (.aload_n 0) 1, qe (.iload_n 1) 1, qe (.aload_n 0) 1, qe (.lconst 1) 1, qf (.invokevirtual 226) 178 1 0, qn, qn, qf (.invokevirtual 249) 187 2 0, qn, qn, qe (.iconst (-1)) 1, qe .ireturn 1],
  [qe (.aload_n 0) 1, qe (.iload_n 1) 1, qe (.bipush 40) 2, qn, qf (.invokevirtual 233) 184 2 0, qn, qn, qe (.iconst 1) 1, qe (.istore_n 3) 1, qe (.iload_n 3) 1, qe (.iload_n 2) 1, qt (.if_icmp .ge 25) 3 52, qn, qn, qe (.aload_n 0) 1, qe (.iload_n 1) 1],
  [qe (.bipush 40) 2, qn, qe (.bipush 41) 2, qn, qf (.invokevirtual 246) 189 3 0, qn, qn, qe (.aload_n 0) 1, qe (.bipush 41) 2, qn, qe (.iload_n 1) 1, qf (.invokevirtual 233) 184 2 0, qn, qn, qe (.iinc 3 1) 3],
  [qn, qt (.goto (-24)) 3 25, qn, qn, qe (.iconst (-1)) 1, qe .ireturn 1]]
def qp197 : List (List (Option qE)) := [[qe (.aload_n 0) 1, qe (.iload_n 1) 1, qf (.invokevirtual 202) 180 1 0, qn, qn, qe (.iconst 1) 1, qe .isub 1, qe (.istore_n 2) 1, qe (.iload_n 2) 1, qt (.ifCond .ne 5) 3 14, qn, qn, qe (.iconst 5) 1, qe .ireturn 1, qe (.iconst 0) 1, qe (.istore_n 3) 1],
  [qe (.iload_n 3) 1, qe (.iload_n 2) 1, qt (.if_icmp .ge 33) 3 51, qn, qn, qe (.aload_n 0) 1, qe (.iload_n 1) 1, qe (.iload_n 3) 1, qe (.aload_n 0) 1, qe (.iload_n 3) 1, qe (.iconst 1) 1, qe .iadd 1, qe .i2l 1, qe (.aload_n 0) 1, qe (.iload_n 1) 1, qe (.iload_n 3) 1],
  [qe (.iconst 1) 1, qe .iadd 1, qf (.invokevirtual 205) 182 2 0, qn, qn, qe .i2l 1, qe .lmul 1, qf (.invokevirtual 226) 178 1 0, qn, qn, qf (.invokevirtual 212) 183 3 0, qn, qn, qe (.iinc 3 1) 3],
  [qt (.goto (-32)) 3 16, qn, qn, qe (.aload_n 0) 1, qe (.iload_n 1) 1, qe (.iload_n 2) 1, qf (.invokevirtual 209) 181 2 0, qn, qn, qe (.iconst (-1)) 1, qe .ireturn 1]]
def qp198 : List (List (Option qE)) := [[qe (.aload_n 0) 1, qe (.iload_n 1) 1, qf (.invokevirtual 202) 180 1 0, qn, qn, qe (.iconst 1) 1, qe .iadd 1, qe (.aload_n 0) 1, qf (.getfield 192) 10 8 0, qn, qn, qf (.invokestatic 219) 186 2 1, qn, qn, qe (.istore_n 2) 1, qe (.iload_n 2) 1],
  [qe (.aload_n 0) 1, qf (.getfield 189) 10 7 0, qn, qn, qt (.if_icmp .le 24) 3 44, qn, qn, qe (.aload_n 0) 1, qe (.iload_n 1) 1, qe (.aload_n 0) 1, qf (.getfield 189) 10 7 0, qn, qn, qe (.iconst 1) 1, qe .isub 1, qf (.invokevirtual 205) 182 2 0],
  [qn, qn, qt (.ifCond .eq 5) 3 39, qn, qn, qe (.iconst 3) 1, qe .ireturn 1, qe (.aload_n 0) 1, qf (.getfield 189) 10 7 0, qn, qn, qe (.istore_n 2) 1, qe (.aload_n 0) 1, qe (.iload_n 1) 1, qe (.bipush 40) 2],
  [qf (.invokevirtual 233) 184 2 0, qn, qn, qe (.aload_n 0) 1, qe (.iload_n 1) 1, qe (.iload_n 2) 1, qf (.invokevirtual 209) 181 2 0, qn, qn, qe (.aload_n 0) 1, qe (.iload_n 1) 1, qe (.iconst 0) 1, qe (.iconst 0) 1, qf (.invokevirtual 212) 183 3 0],
  [qe (.iconst 1) 1, qe (.istore_n 3) 1, qe (.iload_n 3) 1, qe (.iload_n 2) 1, qt (.if_icmp .ge 41) 3 109, qn, qn, qe (.aload_n 0) 1, qe (.iload_n 1) 1, qe (.iload_n 3) 1, qe (.aload_n 0) 1, qe (.aload_n 0) 1, qe (.bipush 40) 2, qn, qe (.iload_n 3) 1, qe (.iconst 1) 1],
  [qe .isub 1, qf (.invokevirtual 205) 182 2 0, qn, qn, qe .i2l 1, qe (.aload_n 0) 1, qe (.aload_n 0) 1, qe (.iload_n 3) 1, qe .i2l 1, qf (.invokevirtual 226) 178 1 0, qn, qn, qf (.invokevirtual 230) 179 1 0, qn, qn, qe .i2l 1],
  [qe .lmul 1, qf (.invokevirtual 226) 178 1 0, qn, qn, qf (.invokevirtual 212) 183 3 0, qn, qn, qe (.iinc 3 1) 3, qn, qn, qt (.goto (-40)) 3 66, qn, qn, qe (.iconst (-1)) 1, qe .ireturn 1]]
def qp199 : List (List (Option qE)) := [[qe (.aload_n 0) 1, qe (.iload_n 1) 1, qe (.iconst 0) 1, qf (.invokevirtual 205) 182 2 0, qn, qn, qe (.aload_n 0) 1, qe (.lconst 1) 1, qf (.invokevirtual 226) 178 1 0, qn, qn, qt (.if_icmp .eq 5) 3 16, qn, qn, qe (.iconst 2) 1, qe .ireturn 1],
  [qe (.aload_n 0) 1, qe (.iload_n 1) 1, qf (.invokevirtual 202) 180 1 0, qn, qn, qe (.iconst 1) 1, qt (.if_icmp .ne 12) 3 34, qn, qn, qe (.aload_n 0) 1, qe (.iload_n 1) 1, qe (.iconst 0) 1, qe (.iconst 0) 1, qf (.invokevirtual 212) 183 3 0],
  [qe (.iconst (-1)) 1, qe .ireturn 1, qe (.aload_n 0) 1, qe (.iload_n 1) 1, qe (.bipush 40) 2, qn, qf (.invokevirtual 243) 190 2 0, qn, qn, qe (.aload_n 0) 1, qe (.iload_n 1) 1, qf (.invokevirtual 252) 197 1 0, qn, qn, qe (.istore_n 2) 1, qe (.aload_n 0) 1],
  [qe (.iload_n 1) 1, qe (.bipush 40) 2, qn, qe (.bipush 41) 2, qn, qf (.invokevirtual 246) 189 3 0, qn, qn, qe (.aload_n 0) 1, qe (.bipush 41) 2, qn, qe (.iload_n 1) 1, qf (.invokevirtual 233) 184 2 0, qn, qn, qe (.iload_n 2) 1],
  [qe (.iconst (-1)) 1, qt (.if_icmp .ne 11) 3 76, qn, qn, qe (.aload_n 0) 1, qe (.iload_n 1) 1, qf (.invokevirtual 255) 198 1 0, qn, qn, qt (.goto 4) 3 77, qn, qn, qe (.iload_n 2) 1, qe .ireturn 1]]
def qp200 : List (List (Option qE)) := [[qe (.aload_n 0) 1, qe (.iload_n 1) 1, qe (.iconst 0) 1, qf (.invokevirtual 205) 182 2 0, qn, qn, qt (.ifCond .eq 5) 3 11, qn, qn, qe (.iconst 2) 1, qe .ireturn 1, qe (.aload_n 0) 1, qe (.iload_n 1) 1, qf (.invokevirtual 202) 180 1 0],
  [qe (.aload_n 0) 1, qf (.getfield 189) 10 7 0, qn, qn, qf (.invokestatic 219) 186 2 1, qn, qn, qe (.istore_n 2) 1, qe (.aload_n 0) 1, qe (.bipush 40) 2, qn, qe (.iload_n 2) 1, qf (.invokevirtual 258) 193 2 0, qn, qn, qe (.aload_n 0) 1],
  [qe (.bipush 40) 2, qn, qe (.iconst 0) 1, qe (.aload_n 0) 1, qe (.lconst 1) 1, qf (.invokevirtual 226) 178 1 0, qn, qn, qf (.invokevirtual 212) 183 3 0, qn, qn, qe (.iconst 1) 1, qe (.istore_n 3) 1, qe (.iload_n 3) 1, qe (.iload_n 2) 1, qt (.if_icmp .ge 91) 3 138],
  [qn, qn, qe (.lconst 0) 1, qe (.lstore 4) 2, qn, qe (.iconst 1) 1, qe (.istore 6) 2, qn, qe (.iload 6) 2, qn, qe (.iload_n 3) 1, qt (.if_icmp .gt 43) 3 102, qn, qn, qe (.lload 4) 2],
  [qe (.aload_n 0) 1, qe (.iload 6) 2, qn, qe .i2l 1, qe (.aload_n 0) 1, qe (.iload_n 1) 1, qe (.iload 6) 2, qn, qf (.invokevirtual 205) 182 2 0, qn, qn, qe .i2l 1, qe .lmul 1, qf (.invokevirtual 226) 178 1 0],
  [qe .i2l 1, qe (.aload_n 0) 1, qe (.bipush 40) 2, qn, qe (.iload_n 3) 1, qe (.iload 6) 2, qn, qe .isub 1, qf (.invokevirtual 205) 182 2 0, qn, qn, qe .i2l 1, qe .lmul 1, qe .ladd 1, qe (.lstore 4) 2],
  [qe (.iinc 6 1) 3, qn, qn, qt (.goto (-43)) 3 56, qn, qn, qe (.aload_n 0) 1, qe (.bipush 40) 2, qn, qe (.iload_n 3) 1, qe (.aload_n 0) 1, qe (.aload_n 0) 1, qe (.lload 4) 2, qn, qf (.invokevirtual 226) 178 1 0],
  [qn, qe .i2l 1, qe (.aload_n 0) 1, qe (.aload_n 0) 1, qe (.iload_n 3) 1, qe .i2l 1, qf (.invokevirtual 226) 178 1 0, qn, qn, qf (.invokevirtual 230) 179 1 0, qn, qn, qe .i2l 1, qe .lmul 1, qf (.invokevirtual 226) 178 1 0],
  [qn, qf (.invokevirtual 212) 183 3 0, qn, qn, qe (.iinc 3 1) 3, qn, qn, qt (.goto (-90)) 3 45, qn, qn, qe (.aload_n 0) 1, qe (.bipush 40) 2, qn, qe (.iload_n 1) 1, qf (.invokevirtual 233) 184 2 0],
  [qn, qe (.iconst (-1)) 1, qe .ireturn 1]]
def qp201 : List (List (Option qE)) := [[qe (.lconst 0) 1, qe (.lstore 4) 2, qn, qe (.aload_n 0) 1, qe (.iload_n 2) 1, qe (.bipush 41) 2, qn, qf (.invokevirtual 233) 184 2 0, qn, qn, qe (.aload_n 0) 1, qe (.bipush 41) 2, qn, qe (.iload_n 3) 1, qe (.iconst 1) 1, qe .iadd 1],
  [qf (.invokevirtual 209) 181 2 0, qn, qn, qe (.iconst 1) 1, qe (.istore 6) 2, qn, qe (.iload 6) 2, qn, qe (.iload_n 3) 1, qt (.if_icmp .gt 67) 3 92, qn, qn, qe (.iload 6) 2, qn, qe (.aload_n 0) 1, qe (.iload_n 1) 1],
  [qf (.invokevirtual 202) 180 1 0, qn, qn, qt (.if_icmp .ge 57) 3 92, qn, qn, qe (.iload 6) 2, qn, qe (.iconst 1) 1, qt (.if_icmp .le 23) 3 64, qn, qn, qe (.aload_n 0) 1, qe (.bipush 41) 2, qn, qe (.iload_n 2) 1],
  [qe (.bipush 42) 2, qn, qe (.iload_n 3) 1, qe (.iconst 1) 1, qe .iadd 1, qf (.invokevirtual 236) 192 4 0, qn, qn, qe (.aload_n 0) 1, qe (.bipush 42) 2, qn, qe (.bipush 41) 2, qn, qf (.invokevirtual 233) 184 2 0],
  [qe (.lload 4) 2, qn, qe (.aload_n 0) 1, qe (.iload_n 1) 1, qe (.iload 6) 2, qn, qf (.invokevirtual 205) 182 2 0, qn, qn, qe .i2l 1, qe (.aload_n 0) 1, qe (.bipush 41) 2, qn, qe (.iload_n 3) 1, qf (.invokevirtual 205) 182 2 0],
  [qn, qe .i2l 1, qe .lmul 1, qe .ladd 1, qe (.lstore 4) 2, qn, qe (.iinc 6 1) 3, qn, qn, qt (.goto (-67)) 3 22, qn, qn, qe (.aload_n 0) 1, qe (.lload 4) 2, qn, qf (.invokevirtual 226) 178 1 0],
  [qn, qn, qe .ireturn 1]]
def qp202 : List (List (Option qE)) := [[qe (.aload_n 0) 1, qe (.iload_n 1) 1, qe (.iconst 0) 1, qf (.invokevirtual 205) 182 2 0, qn, qn, qt (.ifCond .ne 21) 3 27, qn, qn, qe (.aload_n 0) 1, qe (.iload_n 1) 1, qf (.invokevirtual 202) 180 1 0, qn, qn, qe (.iconst 2) 1, qt (.if_icmp .lt 12) 3 27],
  [qn, qn, qe (.aload_n 0) 1, qe (.iload_n 1) 1, qe (.iconst 1) 1, qf (.invokevirtual 205) 182 2 0, qn, qn, qt (.ifCond .ne 5) 3 29, qn, qn, qe (.iconst 2) 1, qe .ireturn 1, qe (.aload_n 0) 1, qe (.iload_n 1) 1, qf (.invokevirtual 202) 180 1 0],
  [qn, qn, qe (.istore_n 2) 1, qe (.aload_n 0) 1, qe (.aload_n 0) 1, qe (.iload_n 1) 1, qe (.iconst 1) 1, qf (.invokevirtual 205) 182 2 0, qn, qn, qf (.invokevirtual 230) 179 1 0, qn, qn, qe (.istore_n 3) 1, qe (.aload_n 0) 1, qe (.bipush 40) 2],
  [qn, qe (.iload_n 2) 1, qf (.invokevirtual 258) 193 2 0, qn, qn, qe (.aload_n 0) 1, qe (.bipush 40) 2, qn, qe (.iconst 1) 1, qe (.iload_n 3) 1, qf (.invokevirtual 212) 183 3 0, qn, qn, qe (.iconst 2) 1, qe (.istore 4) 2],
  [qe (.iload 4) 2, qn, qe (.iload_n 2) 1, qt (.if_icmp .ge 35) 3 102, qn, qn, qe (.aload_n 0) 1, qe (.bipush 40) 2, qn, qe (.iload 4) 2, qn, qe (.aload_n 0) 1, qe (.aload_n 0) 1, qe (.iload_n 1) 1, qe (.bipush 40) 2],
  [qe (.iload 4) 2, qn, qf (.invokevirtual 261) 201 3 0, qn, qn, qe .i2l 1, qe .lneg 1, qe (.iload_n 3) 1, qe .i2l 1, qe .lmul 1, qf (.invokevirtual 226) 178 1 0, qn, qn, qf (.invokevirtual 212) 183 3 0],
  [qe (.iinc 4 1) 3, qn, qn, qt (.goto (-35)) 3 64, qn, qn, qe (.aload_n 0) 1, qe (.bipush 40) 2, qn, qe (.iload_n 1) 1, qf (.invokevirtual 233) 184 2 0, qn, qn, qe (.iconst (-1)) 1, qe .ireturn 1]]
def qp203 : List (List (Option qE)) := [[qe (.aload_n 0) 1, qe (.lconst 1) 1, qf (.invokevirtual 226) 178 1 0, qn, qn, qe (.istore_n 3) 1, qe (.iconst 0) 1, qe (.istore 4) 2, qn, qe (.iload 4) 2, qn, qe (.iload_n 2) 1, qt (.if_icmp .ge 18) 3 30, qn, qn, qe (.iload_n 3) 1],
  [qe (.iload_n 1) 1, qe .imul 1, qe (.aload_n 0) 1, qf (.getfield 189) 10 7 0, qn, qn, qe .irem 1, qe (.istore_n 3) 1, qe (.iinc 4 1) 3, qn, qn, qt (.goto (-18)) 3 9, qn, qn, qe (.iload_n 3) 1, qe .ireturn 1]]
def qp204 : List (List (Option qE)) := [[qe (.aload_n 0) 1, qe (.iload_n 1) 1, qe (.iconst 0) 1, qf (.invokevirtual 205) 182 2 0, qn, qn, qt (.ifCond .ne 5) 3 11, qn, qn, qe (.iconst 2) 1, qe .ireturn 1, qe (.iload_n 2) 1, qe (.aload_n 0) 1, qf (.getfield 189) 10 7 0],
  [qe .irem 1, qt (.ifCond .ne 5) 3 22, qn, qn, qe (.iconst 3) 1, qe .ireturn 1, qe (.iconst 1) 1, qe (.istore_n 3) 1, qe (.iload_n 3) 1, qe (.aload_n 0) 1, qf (.getfield 189) 10 7 0, qn, qn, qt (.if_icmp .ge 24) 3 53],
  [qe (.aload_n 0) 1, qe (.iload_n 3) 1, qe (.iload_n 2) 1, qf (.invokevirtual 265) 203 2 0, qn, qn, qe (.aload_n 0) 1, qe (.iload_n 1) 1, qe (.iconst 0) 1, qf (.invokevirtual 205) 182 2 0, qn, qn, qt (.if_icmp .eq 9) 3 53, qn, qn, qe (.iinc 3 1) 3],
  [qn, qn, qt (.goto (-26)) 3 24, qn, qn, qe (.iload_n 3) 1, qe (.aload_n 0) 1, qf (.getfield 189) 10 7 0, qn, qn, qt (.if_icmp .ne 5) 3 63, qn, qn, qe (.iconst 4) 1, qe .ireturn 1, qe (.aload_n 0) 1],
  [qe (.aload_n 0) 1, qe (.iload_n 2) 1, qe .i2l 1, qe (.aload_n 0) 1, qe (.iload_n 3) 1, qe (.iload_n 2) 1, qe (.iconst 1) 1, qe .isub 1, qf (.invokevirtual 265) 203 2 0, qn, qn, qe .i2l 1, qe .lmul 1, qf (.invokevirtual 226) 178 1 0],
  [qf (.invokevirtual 230) 179 1 0, qn, qn, qe (.istore 4) 2, qn, qe (.aload_n 0) 1, qe (.bipush 40) 2, qn, qe (.aload_n 0) 1, qe (.iload_n 1) 1, qf (.invokevirtual 202) 180 1 0, qn, qn, qf (.invokevirtual 258) 193 2 0],
  [qe (.aload_n 0) 1, qe (.bipush 40) 2, qn, qe (.iconst 0) 1, qe (.iload_n 3) 1, qf (.invokevirtual 212) 183 3 0, qn, qn, qe (.iconst 1) 1, qe (.istore 5) 2, qn, qe (.iload 5) 2, qn, qe (.aload_n 0) 1, qe (.iload_n 1) 1, qf (.invokevirtual 202) 180 1 0],
  [qn, qn, qt (.if_icmp .ge 55) 3 169, qn, qn, qe (.aload_n 0) 1, qe (.bipush 40) 2, qn, qe (.iload_n 2) 1, qe (.iload 5) 2, qn, qe (.iconst 1) 1, qe .iadd 1, qe (.bipush 41) 2, qn, qf (.invokevirtual 268) 194 4 0],
  [qn, qn, qe (.aload_n 0) 1, qe (.bipush 40) 2, qn, qe (.iload 5) 2, qn, qe (.aload_n 0) 1, qe (.aload_n 0) 1, qe (.iload_n 1) 1, qe (.iload 5) 2, qn, qf (.invokevirtual 205) 182 2 0, qn, qn, qe (.aload_n 0) 1],
  [qe (.bipush 41) 2, qn, qe (.iload 5) 2, qn, qf (.invokevirtual 205) 182 2 0, qn, qn, qe .isub 1, qe .i2l 1, qe (.iload 4) 2, qn, qe .i2l 1, qe .lmul 1, qf (.invokevirtual 226) 178 1 0],
  [qf (.invokevirtual 212) 183 3 0, qn, qn, qe (.iinc 5 1) 3, qn, qn, qt (.goto (-59)) 3 107, qn, qn, qe (.aload_n 0) 1, qe (.bipush 40) 2, qn, qe (.iload_n 1) 1, qf (.invokevirtual 233) 184 2 0],
  [qe (.iconst (-1)) 1, qe .ireturn 1]]
def qp205 : List (List (Option qE)) := [[qe (.iload_n 1) 1, qe (.iconst 1) 1, qe .iadd 1, qe (.istore_n 2) 1, qe (.aload_n 0) 1, qe (.iload_n 2) 1, qe (.iconst 0) 1, qf (.invokevirtual 205) 182 2 0, qn, qn, qt (.ifCond .eq 5) 3 15, qn, qn, qe (.iconst 2) 1, qe .ireturn 1, qe (.aload_n 0) 1],
  [qf (.getfield 192) 10 8 0, qn, qn, qe (.aload_n 0) 1, qe (.iload_n 1) 1, qf (.invokevirtual 202) 180 1 0, qn, qn, qe (.aload_n 0) 1, qe (.iload_n 2) 1, qf (.invokevirtual 216) 185 1 0, qn, qn, qe .imul 1, qf (.invokestatic 219) 186 2 1],
  [qn, qe (.istore_n 3) 1, qe (.aload_n 0) 1, qe (.bipush 40) 2, qn, qe (.aload_n 0) 1, qe (.lconst 1) 1, qf (.invokevirtual 226) 178 1 0, qn, qn, qf (.invokevirtual 249) 187 2 0, qn, qn, qe (.aload_n 0) 1, qe (.bipush 42) 2],
  [qe (.aload_n 0) 1, qf (.getfield 192) 10 8 0, qn, qn, qf (.invokevirtual 258) 193 2 0, qn, qn, qe (.iconst 0) 1, qe (.istore 4) 2, qn, qe (.iload 4) 2, qn, qe (.aload_n 0) 1, qe (.iload_n 1) 1, qf (.invokevirtual 202) 180 1 0],
  [qn, qt (.if_icmp .ge 113) 3 178, qn, qn, qe (.iload 4) 2, qn, qt (.ifCond .le 20) 3 90, qn, qn, qe (.aload_n 0) 1, qe (.bipush 40) 2, qn, qe (.iload_n 2) 1, qe (.bipush 41) 2, qn, qf (.invokevirtual 246) 189 3 0],
  [qn, qn, qe (.aload_n 0) 1, qe (.bipush 41) 2, qn, qe (.bipush 40) 2, qn, qf (.invokevirtual 233) 184 2 0, qn, qn, qe (.aload_n 0) 1, qe (.iload_n 1) 1, qe (.iload 4) 2, qn, qf (.invokevirtual 205) 182 2 0],
  [qn, qt (.ifCond .ne 6) 3 103, qn, qn, qt (.goto 72) 3 172, qn, qn, qe (.iload_n 3) 1, qe (.aload_n 0) 1, qe (.bipush 40) 2, qn, qf (.invokevirtual 202) 180 1 0, qn, qn, qf (.invokestatic 219) 186 2 1],
  [qn, qe (.istore_n 3) 1, qe (.iconst 0) 1, qe (.istore 5) 2, qn, qe (.iload 5) 2, qn, qe (.aload_n 0) 1, qf (.getfield 192) 10 8 0, qn, qn, qt (.if_icmp .ge 49) 3 172, qn, qn, qe (.aload_n 0) 1, qe (.bipush 42) 2],
  [qn, qe (.iload 5) 2, qn, qe (.aload_n 0) 1, qe (.aload_n 0) 1, qe (.bipush 42) 2, qn, qe (.iload 5) 2, qn, qf (.invokevirtual 205) 182 2 0, qn, qn, qe .i2l 1, qe (.aload_n 0) 1, qe (.iload_n 1) 1, qe (.iload 4) 2],
  [qn, qf (.invokevirtual 205) 182 2 0, qn, qn, qe .i2l 1, qe (.aload_n 0) 1, qe (.bipush 40) 2, qn, qe (.iload 5) 2, qn, qf (.invokevirtual 205) 182 2 0, qn, qn, qe .i2l 1, qe .lmul 1, qe .ladd 1],
  [qf (.invokevirtual 226) 178 1 0, qn, qn, qf (.invokevirtual 212) 183 3 0, qn, qn, qe (.iinc 5 1) 3, qn, qn, qt (.goto (-52)) 3 117, qn, qn, qe (.iinc 4 1) 3, qn, qn, qt (.goto (-117)) 3 58],
  [qn, qn, qe (.aload_n 0) 1, qe (.bipush 42) 2, qn, qe (.iload_n 3) 1, qf (.invokevirtual 209) 181 2 0, qn, qn, qe (.aload_n 0) 1, qe (.bipush 42) 2, qn, qe (.iload_n 1) 1, qf (.invokevirtual 233) 184 2 0],
  [qe (.iconst (-1)) 1, qe .ireturn 1]]
def qp206 : List (List (Option qE)) := [[qe (.aload_n 0) 1, qe (.iload_n 1) 1, qf (.invokevirtual 202) 180 1 0, qn, qn, qe (.aload_n 0) 1, qe (.iload_n 1) 1, qe (.iconst 1) 1, qe .iadd 1, qf (.invokevirtual 202) 180 1 0, qn, qn, qf (.invokestatic 219) 186 2 1, qn, qn, qe (.istore_n 3) 1],
  [qe (.iconst 0) 1, qe (.istore 4) 2, qn, qe (.iload 4) 2, qn, qe (.iload_n 3) 1, qt (.if_icmp .ge 83) 3 105, qn, qn, qe (.aload_n 0) 1, qe (.iload_n 1) 1, qe (.iload 4) 2, qn, qf (.invokevirtual 205) 182 2 0],
  [qe (.istore 5) 2, qn, qe (.aload_n 0) 1, qe (.iload_n 1) 1, qe (.iconst 1) 1, qe .iadd 1, qe (.iload 4) 2, qn, qf (.invokevirtual 205) 182 2 0, qn, qn, qe (.istore 6) 2, qn, qe (.aload_n 0) 1, qe (.iload_n 1) 1, qe (.iload 4) 2],
  [qn, qe (.iload_n 2) 1, qe (.iconst 3) 1, qt (.if_icmp .ne 16) 3 67, qn, qn, qe (.aload_n 0) 1, qe (.iload 5) 2, qn, qe (.iload 6) 2, qn, qe .iadd 1, qe .i2l 1, qf (.invokevirtual 226) 178 1 0],
  [qt (.goto 32) 3 96, qn, qn, qe (.iload_n 2) 1, qe (.iconst 4) 1, qt (.if_icmp .ne 16) 3 85, qn, qn, qe (.aload_n 0) 1, qe (.iload 5) 2, qn, qe (.iload 6) 2, qn, qe .isub 1, qe .i2l 1, qf (.invokevirtual 226) 178 1 0],
  [qn, qn, qt (.goto 14) 3 96, qn, qn, qe (.aload_n 0) 1, qe (.iload 5) 2, qn, qe .i2l 1, qe (.iload 6) 2, qn, qe .i2l 1, qe .lmul 1, qf (.invokevirtual 226) 178 1 0],
  [qf (.invokevirtual 212) 183 3 0, qn, qn, qe (.iinc 4 1) 3, qn, qn, qt (.goto (-83)) 3 19, qn, qn, qe (.aload_n 0) 1, qe (.iload_n 1) 1, qe (.iload_n 3) 1, qf (.invokevirtual 209) 181 2 0, qn, qn, qe (.iconst (-1)) 1],
  [qe .ireturn 1]]
def qp207 : List (List (Option qE)) := [[qe (.iload_n 2) 1, qe (.lookupswitch 66 #[(5, 35), (6, 54), (15, 60)]) 35],
  [],
  [qn, qn, qn, qn, qe (.aload_n 0) 1, qe (.iload_n 1) 1, qe (.iload_n 1) 1, qe (.iconst 1) 1, qe .iadd 1, qe (.bipush 40) 2, qn, qf (.invokevirtual 246) 189 3 0, qn, qn, qe (.aload_n 0) 1, qe (.bipush 40) 2],
  [qn, qe (.iload_n 1) 1, qf (.invokevirtual 233) 184 2 0, qn, qn, qe (.iconst (-1)) 1, qe .ireturn 1, qe (.aload_n 0) 1, qe (.iload_n 1) 1, qf (.invokevirtual 271) 195 1 0, qn, qn, qe .ireturn 1, qe (.aload_n 0) 1, qe (.iload_n 1) 1, qf (.invokevirtual 274) 205 1 0],
  [qn, qn, qe .ireturn 1, qe (.aload_n 0) 1, qe (.iload_n 1) 1, qe (.iload_n 2) 1, qf (.invokevirtual 277) 206 2 0, qn, qn, qe .ireturn 1]]
def qp208 : List (List (Option qE)) := [[qe (.iload_n 2) 1, qe (.tableswitch 87 7 13 #[43, 50, 56, 62, 68, 74, 80]) 43],
  [],
  [qn, qn, qn, qn, qn, qn, qn, qn, qn, qn, qn, qn, qe (.aload_n 0) 1, qe (.iload_n 1) 1, qe (.iload_n 3) 1, qf (.invokevirtual 280) 196 2 0],
  [qn, qn, qe .ireturn 1, qe (.aload_n 0) 1, qe (.iload_n 1) 1, qf (.invokevirtual 252) 197 1 0, qn, qn, qe .ireturn 1, qe (.aload_n 0) 1, qe (.iload_n 1) 1, qf (.invokevirtual 255) 198 1 0, qn, qn, qe .ireturn 1, qe (.aload_n 0) 1],
  [qe (.iload_n 1) 1, qf (.invokevirtual 283) 199 1 0, qn, qn, qe .ireturn 1, qe (.aload_n 0) 1, qe (.iload_n 1) 1, qf (.invokevirtual 286) 200 1 0, qn, qn, qe .ireturn 1, qe (.aload_n 0) 1, qe (.iload_n 1) 1, qf (.invokevirtual 289) 202 1 0],
  [qe .ireturn 1, qe (.aload_n 0) 1, qe (.iload_n 1) 1, qe (.iload_n 3) 1, qf (.invokevirtual 292) 204 2 0, qn, qn, qe .ireturn 1, qe (.aload_n 0) 1, qe (.iload_n 1) 1, qe (.aload_n 0) 1, qe (.iload_n 1) 1, qf (.invokevirtual 202) 180 1 0, qn, qn, qe (.iload_n 3) 1],
  [qf (.invokestatic 219) 186 2 1, qn, qn, qf (.invokevirtual 209) 181 2 0, qn, qn, qe (.iconst (-1)) 1, qe .ireturn 1]]
def qp209 : List (List (Option qE)) := [[qe (.aload_n 0) 1, qf (.getfield 295) 10 25 0, qn, qn, qe (.istore 4) 2, qn, qe (.aload_n 0) 1, qe .dup 1, qf (.getfield 295) 10 25 0, qn, qn, qe (.iconst 1) 1, qe .iadd 1, qf (.putfield 295) 10 25 0],
  [qe (.iload_n 2) 1, qt (.ifCond .ne 18) 3 35, qn, qn, qe (.aload_n 0) 1, qe (.iload 4) 2, qn, qe (.aload_n 0) 1, qe (.iload_n 3) 1, qe .i2l 1, qf (.invokevirtual 226) 178 1 0, qn, qn, qf (.invokevirtual 249) 187 2 0],
  [qt (.goto 79) 3 111, qn, qn, qe (.iload_n 2) 1, qe (.iconst 1) 1, qt (.if_icmp .ne 25) 3 62, qn, qn, qe (.aload_n 0) 1, qe (.iload 4) 2, qn, qe (.iconst 0) 1, qf (.invokevirtual 249) 187 2 0, qn, qn, qe (.aload_n 0) 1],
  [qe (.iload 4) 2, qn, qe (.iconst 1) 1, qe (.aload_n 0) 1, qe (.lconst 1) 1, qf (.invokevirtual 226) 178 1 0, qn, qn, qf (.invokevirtual 212) 183 3 0, qn, qn, qt (.goto 52) 3 111, qn, qn, qe (.aload_n 1) 1, qe (.bipush 25) 2],
  [qn, qe (.iload_n 3) 1, qe .imul 1, qe .iaload 1, qt (.ifCond .ne 5) 3 73, qn, qn, qe (.iconst 0) 1, qe .ireturn 1, qe (.iconst 0) 1, qe (.istore 5) 2, qn, qe (.iload 5) 2, qn, qe (.bipush 25) 2],
  [qt (.if_icmp .ge 31) 3 111, qn, qn, qe (.aload_n 0) 1, qf (.getfield 38) 10 24 2, qn, qn, qe (.bipush 25) 2, qn, qe (.iload 4) 2, qn, qe .imul 1, qe (.iload 5) 2, qn, qe .iadd 1, qe (.aload_n 1) 1],
  [qe (.bipush 25) 2, qn, qe (.iload_n 3) 1, qe .imul 1, qe (.iload 5) 2, qn, qe .iadd 1, qe .iaload 1, qe .iastore 1, qe (.iinc 5 1) 3, qn, qn, qt (.goto (-32)) 3 76, qn, qn, qe (.iconst (-1)) 1],
  [qe .ireturn 1]]
def qp210 : List (List (Option qE)) := [[qe (.aload_n 0) 1, qe (.iconst 0) 1, qf (.putfield 295) 10 25 0, qn, qn, qe (.iconst (-1)) 1, qe (.istore_n 3) 1, qe (.iconst 0) 1, qe (.istore 4) 2, qn, qe (.iload 4) 2, qn, qe (.aload_n 0) 1, qf (.getfield 17) 10 10 2],
  [qe (.iload_n 2) 1, qe .iaload 1, qt (.if_icmp .ge 147) 3 165, qn, qn, qe (.iload_n 3) 1, qe (.iconst (-1)) 1, qt (.if_icmp .ne 142) 3 165, qn, qn, qe (.aload_n 0) 1, qf (.getfield 20) 10 11 2, qn, qn, qe (.sipush 280) 3],
  [qn, qe (.iload_n 2) 1, qe .imul 1, qe (.iconst 2) 1, qe (.iload 4) 2, qn, qe .imul 1, qe .iadd 1, qe .iaload 1, qe (.istore 5) 2, qn, qe (.aload_n 0) 1, qf (.getfield 20) 10 11 2, qn, qn, qe (.sipush 280) 3],
  [qn, qn, qe (.iload_n 2) 1, qe .imul 1, qe (.iconst 2) 1, qe (.iload 4) 2, qn, qe .imul 1, qe .iadd 1, qe (.iconst 1) 1, qe .iadd 1, qe .iaload 1, qe (.istore 6) 2, qn, qe (.iload 5) 2],
  [qe .i2l 1, qt (.ldc2_w 298) 3 3, qn, qn, qt (.ldc2_w 300) 3 6, qn, qn, qf (.invokestatic 93) 147 3 1, qn, qn, qt (.ifCond .ne 10) 3 84, qn, qn, qe (.iload 5) 2, qn, qe (.bipush 15) 2],
  [qn, qt (.if_icmp .lt 7) 3 88, qn, qn, qe (.iconst 1) 1, qt (.goto 4) 3 89, qn, qn, qe (.iconst 0) 1, qe (.istore 7) 2, qn, qe (.iload 7) 2, qn, qt (.ifCond .eq 13) 3 106],
  [qe (.aload_n 0) 1, qe .dup 1, qf (.getfield 295) 10 25 0, qn, qn, qe (.iconst 1) 1, qe .isub 1, qf (.putfield 295) 10 25 0, qn, qn, qe (.iload 5) 2, qn, qe (.iconst 2) 1, qt (.if_icmp .gt 15) 3 124],
  [qe (.aload_n 0) 1, qe (.aload_n 1) 1, qe (.iload 5) 2, qn, qe (.iload 6) 2, qn, qf (.invokevirtual 302) 209 3 0, qn, qn, qt (.goto 37) 3 158, qn, qn, qe (.iload 7) 2, qn, qt (.ifCond .eq 18) 3 144],
  [qn, qe (.aload_n 0) 1, qe (.aload_n 0) 1, qf (.getfield 295) 10 25 0, qn, qn, qe (.iconst 1) 1, qe .isub 1, qe (.iload 5) 2, qn, qf (.invokevirtual 306) 207 2 0, qn, qn, qt (.goto 17) 3 158],
  [qe (.aload_n 0) 1, qe (.aload_n 0) 1, qf (.getfield 295) 10 25 0, qn, qn, qe (.iconst 1) 1, qe .isub 1, qe (.iload 5) 2, qn, qe (.iload 6) 2, qn, qf (.invokevirtual 309) 208 3 0, qn, qn, qe (.istore_n 3) 1, qe (.iinc 4 1) 3],
  [qn, qn, qt (.goto (-152)) 3 10, qn, qn, qe (.iload_n 3) 1, qe .ireturn 1]]
def qp211 : List (List (Option qE)) := [[qe (.aload_n 0) 1, qf (.getfield 195) 10 22 0, qn, qn, qe (.bipush 40) 2, qn, qt (.if_icmp .ne 19) 3 25, qn, qn, qe (.aload_n 0) 1, qe (.aload_n 0) 1, qf (.getfield 312) 10 21 0, qn, qn, qe (.iconst 1) 1, qe .iadd 1],
  [qe (.bipush 40) 2, qn, qe .irem 1, qf (.putfield 312) 10 21 0, qn, qn, qt (.goto 13) 3 35, qn, qn, qe (.aload_n 0) 1, qe .dup 1, qf (.getfield 195) 10 22 0, qn, qn, qe (.iconst 1) 1, qe .iadd 1],
  [qf (.putfield 195) 10 22 0, qn, qn, qe (.aload_n 0) 1, qf (.getfield 26) 10 17 2, qn, qn, qe (.iconst 0) 1, qe (.aload_n 0) 1, qf (.getfield 35) 10 20 2, qn, qn, qe (.sipush 381) 3, qn, qn, qe (.aload_n 0) 1],
  [qf (.getfield 312) 10 21 0, qn, qn, qe (.aload_n 0) 1, qf (.getfield 195) 10 22 0, qn, qn, qe .iadd 1, qe (.iconst 1) 1, qe .isub 1, qe (.bipush 40) 2, qn, qe .irem 1, qe .imul 1, qf (.invokestatic 315) 177 4 1],
  [qn, qe .return_ 1]]
def qp212 : List (List (Option qE)) := [[qe (.aload_n 1) 1, qe (.sipush 200) 3, qn, qn, qe .iaload 1, qe (.bipush 60) 2, qn, qt (.if_icmp .ne 47) 3 54, qn, qn, qe (.iconst 1) 1, qe (.istore 4) 2, qn, qe (.iload 4) 2, qn, qe (.sipush 177) 3],
  [qn, qn, qt (.if_icmp .gt 27) 3 45, qn, qn, qe (.aload_n 1) 1, qe (.sipush 200) 3, qn, qn, qe (.iload 4) 2, qn, qe .iadd 1, qe (.aload_n 1) 1, qe (.sipush 200) 3],
  [qe (.iload 4) 2, qn, qe .iadd 1, qe (.iconst 3) 1, qe .iadd 1, qe .iaload 1, qe .iastore 1, qe (.iinc 4 1) 3, qn, qn, qt (.goto (-29)) 3 13, qn, qn, qe (.aload_n 1) 1, qe (.sipush 200) 3],
  [qn, qe .dup2 1, qe .iaload 1, qe (.iconst 1) 1, qe .isub 1, qe .iastore 1, qe (.sipush 201) 3, qn, qn, qe (.iconst 3) 1, qe (.aload_n 1) 1, qe (.sipush 200) 3, qn, qn, qe .iaload 1, qe .imul 1],
  [qe .iadd 1, qe (.istore 4) 2, qn, qe (.aload_n 1) 1, qe (.iload 4) 2, qn, qe (.iload_n 2) 1, qe .iastore 1, qe (.aload_n 1) 1, qe (.iload 4) 2, qn, qe (.iconst 1) 1, qe .iadd 1, qe (.iload_n 3) 1, qe .iastore 1, qe (.aload_n 1) 1],
  [qe (.iload 4) 2, qn, qe (.iconst 2) 1, qe .iadd 1, qe (.aload_n 1) 1, qe (.bipush 25) 2, qn, qe (.iload_n 3) 1, qe .imul 1, qe .iaload 1, qe .iastore 1, qe (.aload_n 1) 1, qe (.sipush 200) 3, qn, qn, qe .dup2 1],
  [qe .iaload 1, qe (.iconst 1) 1, qe .iadd 1, qe .iastore 1, qe .return_ 1]]
def qp213 : List (List (Option qE)) := [[qe (.aload_n 0) 1, qf (.getfield 41) 10 26 2, qn, qn, qe (.iload_n 1) 1, qe .dup2 1, qe .iaload 1, qe (.iconst 1) 1, qe .iadd 1, qe .iastore 1, qe (.iconst (-1)) 1, qe .ireturn 1]]
def qp214 : List (List (Option qE)) := [[qe (.aload_n 0) 1, qf (.getfield 189) 10 7 0, qn, qn, qt (.ifCond .le 19) 3 23, qn, qn, qe (.iload_n 1) 1, qe .i2l 1, qe (.lconst 0) 1, qt (.ldc2_w 319) 3 7, qn, qn, qf (.invokestatic 93) 147 3 1],
  [qt (.ifCond .eq 7) 3 23, qn, qn, qe (.iconst 1) 1, qt (.goto 4) 3 24, qn, qn, qe (.iconst 0) 1, some (.ireturn, 1, 0, 0, 3)]]
def qp215 : List (List (Option qE)) := [[qe (.aload_n 0) 1, qe (.iload_n 1) 1, qf (.invokevirtual 321) 214 1 0, qn, qn, qt (.ifCond .eq 19) 3 24, qn, qn, qe (.aload_n 0) 1, qf (.getfield 26) 10 17 2, qn, qn, qe (.bipush 25) 2, qn, qe (.iload_n 1) 1, qe .imul 1],
  [qe .iaload 1, qt (.ifCond .le 7) 3 24, qn, qn, qe (.iconst 1) 1, qt (.goto 4) 3 25, qn, qn, qe (.iconst 0) 1, some (.ireturn, 1, 0, 0, 3)]]
def qp216 : List (List (Option qE)) := [[qe (.aload_n 0) 1, qe (.aload_n 1) 1, qe (.iload_n 2) 1, qf (.invokevirtual 324) 210 2 0, qn, qn, qe (.istore_n 3) 1, qe (.iload_n 3) 1, qe (.iconst (-1)) 1, qt (.if_icmp .eq 5) 3 14, qn, qn, qe (.iload_n 3) 1, qe .ireturn 1, qe (.iconst 0) 1, qe (.istore 4) 2],
  [qn, qe (.iload 4) 2, qn, qe (.bipush 25) 2, qn, qt (.if_icmp .ge 44) 3 65, qn, qn, qe (.aload_n 1) 1, qe (.bipush 25) 2, qn, qe (.aload_n 0) 1, qf (.getfield 13) 10 9 2, qn, qn, qe (.iload_n 2) 1],
  [qe .iaload 1, qe .imul 1, qe (.iload 4) 2, qn, qe .iadd 1, qe (.iload 4) 2, qn, qe (.aload_n 0) 1, qe (.iconst 0) 1, qf (.invokevirtual 202) 180 1 0, qn, qn, qt (.if_icmp .gt 13) 3 57, qn, qn, qe (.aload_n 0) 1],
  [qf (.getfield 38) 10 24 2, qn, qn, qe (.iload 4) 2, qn, qe .iaload 1, qt (.goto 4) 3 58, qn, qn, qe (.iconst 0) 1, qe .iastore 1, qe (.iinc 4 1) 3, qn, qn, qt (.goto (-45)) 3 17],
  [qn, qe (.aload_n 0) 1, qe (.aload_n 1) 1, qe (.iconst 0) 1, qe (.aload_n 0) 1, qf (.getfield 13) 10 9 2, qn, qn, qe (.iload_n 2) 1, qe .iaload 1, qf (.invokevirtual 328) 212 3 0, qn, qn, qe (.iconst (-1)) 1, qe .ireturn 1]]
def qp217 : List (List (Option qE)) := [[qe (.aload_n 0) 1, qf (.getfield 26) 10 17 2, qn, qn, qe (.iconst 0) 1, qe (.aload_n 0) 1, qf (.getfield 29) 10 18 2, qn, qn, qe (.iconst 0) 1, qf (.invokestatic 315) 177 4 1, qn, qn, qe (.aload_n 0) 1, qe (.aload_n 0) 1, qf (.getfield 29) 10 18 2],
  [qn, qn, qe (.iload_n 1) 1, qf (.invokevirtual 332) 216 2 0, qn, qn, qe (.istore_n 2) 1, qe (.iload_n 2) 1, qe (.iconst (-1)) 1, qt (.if_icmp .eq 5) 3 30, qn, qn, qe (.iload_n 2) 1, qe .ireturn 1, qe (.aload_n 0) 1, qt (.invokevirtual 335) 3 211],
  [qn, qn, qe (.aload_n 0) 1, qf (.getfield 29) 10 18 2, qn, qn, qe (.iconst 0) 1, qe (.aload_n 0) 1, qf (.getfield 26) 10 17 2, qn, qn, qe (.iconst 0) 1, qf (.invokestatic 315) 177 4 1, qn, qn, qe (.iconst (-1)) 1],
  [qe .ireturn 1]]
def qp218 : List (List (Option qE)) := [[qe (.aload_n 0) 1, qf (.getfield 189) 10 7 0, qn, qn, qt (.ifCond .ne 7) 3 11, qn, qn, qe (.iconst 0) 1, qt (.goto 26) 3 34, qn, qn, qe (.aload_n 0) 1, qe (.iconst 2) 1, qf (.invokevirtual 184) 174 1 0],
  [qe (.iconst (-1)) 1, qt (.if_icmp .eq 7) 3 24, qn, qn, qe (.iconst 1) 1, qt (.goto 13) 3 34, qn, qn, qe (.aload_n 0) 1, qe (.aload_n 0) 1, qf (.getfield 26) 10 17 2, qn, qn, qe (.bipush 40) 2, qn, qf (.invokevirtual 324) 210 2 0],
  [qn, qn, qe .ireturn 1]]
def qp219 : List (List (Option qE)) := [[qe (.aload_n 0) 1, qe (.iconst 0) 1, qt (.putfield 50) 3 10, qn, qn, qe (.aload_n 0) 1, qt (.invokevirtual 338) 3 218, qn, qn, qe (.istore_n 1) 1, qe (.iload_n 1) 1, qe (.iconst (-1)) 1, qt (.if_icmp .eq 9) 3 21, qn, qn, qe (.aload_n 0) 1],
  [qe (.iload_n 1) 1, qf (.invokevirtual 341) 213 1 0, qn, qn, qe .ireturn 1, qe (.aload_n 0) 1, qe (.bipush 40) 2, qn, qf (.invokevirtual 344) 217 1 0, qn, qn, qe (.istore_n 1) 1, qe (.aload_n 0) 1, qe (.iconst 0) 1, qf (.putfield 54) 10 2 0],
  [qn, qe (.aload_n 0) 1, qf (.getfield 26) 10 17 2, qn, qn, qe (.bipush 25) 2, qn, qe (.aload_n 0) 1, qf (.getfield 13) 10 9 2, qn, qn, qe (.bipush 40) 2, qn, qe .iaload 1, qe .imul 1, qe .iaload 1],
  [qe .ireturn 1]]
def qp220 : List (List (Option qE)) := [[qe (.aload_n 0) 1, qe (.iconst 0) 1, qt (.putfield 50) 3 10, qn, qn, qe (.aload_n 0) 1, qt (.invokevirtual 338) 3 218, qn, qn, qe (.iconst (-1)) 1, qt (.if_icmp .eq 7) 3 17, qn, qn, qt (.ldc_w 347) 3 4293967296],
  [qe .ireturn 1, qe (.iload_n 1) 1, qe (.iconst (-1)) 1, qt (.if_icmp .ne 11) 3 30, qn, qn, qe (.aload_n 0) 1, qe (.iconst 0) 1, qf (.invokevirtual 202) 180 1 0, qn, qn, qt (.goto 32) 3 59, qn, qn, qe (.iload_n 1) 1, qe .i2l 1],
  [qe (.lconst 0) 1, qe (.aload_n 0) 1, qe (.iconst 0) 1, qf (.invokevirtual 202) 180 1 0, qn, qn, qe (.iconst 1) 1, qe .isub 1, qe .i2l 1, qf (.invokestatic 93) 147 3 1, qn, qn, qt (.ifCond .eq 12) 3 56, qn, qn, qe (.aload_n 0) 1],
  [qe (.iconst 0) 1, qe (.iload_n 1) 1, qf (.invokevirtual 205) 182 2 0, qn, qn, qt (.goto 6) 3 59, qn, qn, qt (.ldc_w 347) 3 4293967296, qn, qn, qe .ireturn 1]]
def qp221 : List (List (Option qE)) := [[qe (.aload_n 0) 1, qe (.iconst 0) 1, qt (.putfield 50) 3 10, qn, qn, qe (.aload_n 0) 1, qt (.invokevirtual 338) 3 218, qn, qn, qe .ireturn 1]]
def qp222 : List (List (Option qE)) := [[qe (.aload_n 0) 1, qe (.iconst 0) 1, qt (.putfield 50) 3 10, qn, qn, qe (.aload_n 0) 1, qf (.getfield 189) 10 7 0, qn, qn, qt (.ifCond .eq 13) 3 22, qn, qn, qe (.iload_n 1) 1, qe .i2l 1, qe (.lconst 0) 1, qe (.lconst 1) 1],
  [qf (.invokestatic 93) 147 3 1, qn, qn, qt (.ifCond .ne 7) 3 26, qn, qn, qe (.iconst (-1)) 1, qt (.goto 18) 3 41, qn, qn, qe (.iload_n 1) 1, qt (.ifCond .ne 10) 3 37, qn, qn, qe (.aload_n 0) 1, qf (.getfield 189) 10 7 0],
  [qn, qn, qt (.goto 7) 3 41, qn, qn, qe (.aload_n 0) 1, qf (.getfield 192) 10 8 0, qn, qn, qe .ireturn 1]]
def qp223 : List (List (Option qE)) := [[qe (.aload_n 0) 1, qe (.iconst 0) 1, qt (.putfield 50) 3 10, qn, qn, qe (.aload_n 0) 1, qe (.iload_n 1) 1, qf (.invokevirtual 321) 214 1 0, qn, qn, qt (.ifCond .eq 15) 3 25, qn, qn, qe (.aload_n 0) 1, qf (.getfield 26) 10 17 2],
  [qn, qe (.bipush 25) 2, qn, qe (.iload_n 1) 1, qe .imul 1, qe .iaload 1, qt (.goto 4) 3 26, qn, qn, qe (.iconst (-1)) 1, qe .ireturn 1]]
def qp224 : List (List (Option qE)) := [[qe (.aload_n 0) 1, qe (.iconst 0) 1, qt (.putfield 50) 3 10, qn, qn, qe (.aload_n 0) 1, qe (.iload_n 1) 1, qf (.invokevirtual 348) 215 1 0, qn, qn, qt (.ifCond .eq 24) 3 34, qn, qn, qe (.iload_n 2) 1, qe .i2l 1, qe (.lconst 0) 1],
  [qe (.aload_n 0) 1, qf (.getfield 26) 10 17 2, qn, qn, qe (.bipush 25) 2, qn, qe (.iload_n 1) 1, qe .imul 1, qe .iaload 1, qe (.iconst 1) 1, qe .isub 1, qe .i2l 1, qf (.invokestatic 93) 147 3 1, qn, qn, qt (.ifCond .ne 10) 3 41],
  [qn, qn, qe (.aload_n 0) 1, qe (.iconst 1) 1, qt (.putfield 50) 3 10, qn, qn, qe (.iconst 0) 1, qe .ireturn 1, qe (.aload_n 0) 1, qf (.getfield 26) 10 17 2, qn, qn, qe (.bipush 25) 2, qn, qe (.iload_n 1) 1],
  [qe .imul 1, qe (.iconst 1) 1, qe .iadd 1, qe (.iload_n 2) 1, qe .iadd 1, qe .iaload 1, qe .ireturn 1]]
def qp225 : List (List (Option qE)) := [[qe (.iconst 0) 1, qe (.istore_n 3) 1, qe (.iload_n 3) 1, qe (.bipush 25) 2, qn, qt (.if_icmp .ge 31) 3 36, qn, qn, qe (.aload_n 0) 1, qf (.getfield 38) 10 24 2, qn, qn, qe (.bipush 25) 2, qn, qe (.iload_n 2) 1, qe .imul 1],
  [qe (.iload_n 3) 1, qe .iadd 1, qe (.aload_n 0) 1, qf (.getfield 26) 10 17 2, qn, qn, qe (.bipush 25) 2, qn, qe (.iload_n 1) 1, qe .imul 1, qe (.iload_n 3) 1, qe .iadd 1, qe .iaload 1, qe .iastore 1, qe (.iinc 3 1) 3],
  [qn, qt (.goto (-31)) 3 2, qn, qn, qe .return_ 1]]
def qp226 : List (List (Option qE)) := [[qe (.aload_n 0) 1, qe (.iconst 0) 1, qt (.putfield 50) 3 10, qn, qn, qe (.aload_n 0) 1, qe (.iload_n 1) 1, qf (.invokevirtual 348) 215 1 0, qn, qn, qt (.ifCond .ne 5) 3 15, qn, qn, qe (.iconst (-1)) 1, qe .ireturn 1, qe (.aload_n 0) 1],
  [qe (.iload_n 1) 1, qe (.iconst 0) 1, qf (.invokevirtual 351) 225 2 0, qn, qn, qe (.aload_n 0) 1, qe (.iconst 0) 1, qf (.invokevirtual 216) 185 1 0, qn, qn, qe .ireturn 1]]
def qp227 : List (List (Option qE)) := [[qe (.aload_n 0) 1, qe (.iconst 0) 1, qt (.putfield 50) 3 10, qn, qn, qe (.aload_n 0) 1, qe (.iload_n 1) 1, qf (.invokevirtual 348) 215 1 0, qn, qn, qt (.ifCond .ne 9) 3 19, qn, qn, qe (.aload_n 0) 1, qe (.iconst 0) 1, qf (.invokevirtual 341) 213 1 0],
  [qn, qn, qe .ireturn 1, qe (.aload_n 0) 1, qf (.getfield 26) 10 17 2, qn, qn, qe (.bipush 25) 2, qn, qe (.iload_n 1) 1, qe .imul 1, qe .iaload 1, qe (.istore_n 3) 1, qe (.iload_n 2) 1, qe (.iconst 1) 1, qt (.if_icmp .ge 9) 3 40],
  [qn, qn, qe (.aload_n 0) 1, qe (.iconst 1) 1, qf (.invokevirtual 341) 213 1 0, qn, qn, qe .ireturn 1, qe (.iload_n 2) 1, qe (.iload_n 3) 1, qt (.if_icmp .lt 9) 3 51, qn, qn, qe (.aload_n 0) 1, qe (.iconst 2) 1, qf (.invokevirtual 341) 213 1 0],
  [qn, qn, qe .ireturn 1, qe (.aload_n 0) 1, qt (.invokevirtual 335) 3 211, qn, qn, qe (.iload_n 2) 1, qe (.istore 4) 2, qn, qe (.iload 4) 2, qn, qe (.bipush 24) 2, qn, qt (.if_icmp .ge 24) 3 86],
  [qn, qe (.aload_n 0) 1, qf (.getfield 26) 10 17 2, qn, qn, qe (.bipush 25) 2, qn, qe (.iload_n 1) 1, qe .imul 1, qe (.iconst 1) 1, qe .iadd 1, qe (.iload 4) 2, qn, qe .iadd 1, qe (.iconst 0) 1, qe .iastore 1],
  [qe (.iinc 4 1) 3, qn, qn, qt (.goto (-25)) 3 58, qn, qn, qe (.aload_n 0) 1, qf (.getfield 26) 10 17 2, qn, qn, qe (.bipush 25) 2, qn, qe (.iload_n 1) 1, qe .imul 1, qe (.iload_n 2) 1, qe .iastore 1],
  [qe (.aload_n 0) 1, qe (.aload_n 0) 1, qf (.getfield 26) 10 17 2, qn, qn, qe (.iconst 1) 1, qe (.iload_n 1) 1, qf (.invokevirtual 328) 212 3 0, qn, qn, qe (.iload_n 3) 1, qe .ireturn 1]]
def qp228 : List (List (Option qE)) := [[qe (.aload_n 0) 1, qe (.iconst 0) 1, qt (.putfield 50) 3 10, qn, qn, qe (.aload_n 0) 1, qe (.iload_n 1) 1, qf (.invokevirtual 348) 215 1 0, qn, qn, qt (.ifCond .ne 9) 3 19, qn, qn, qe (.aload_n 0) 1, qe (.iconst 0) 1, qf (.invokevirtual 341) 213 1 0],
  [qn, qn, qe .ireturn 1, qe (.aload_n 0) 1, qt (.invokevirtual 335) 3 211, qn, qn, qe (.aload_n 0) 1, qf (.getfield 26) 10 17 2, qn, qn, qe (.bipush 25) 2, qn, qe (.iload_n 1) 1, qe .imul 1, qe .iaload 1],
  [qe (.istore_n 2) 1, qe (.iconst 0) 1, qe (.istore_n 3) 1, qe (.iload_n 3) 1, qe (.bipush 25) 2, qn, qt (.if_icmp .ge 21) 3 59, qn, qn, qe (.aload_n 0) 1, qf (.getfield 26) 10 17 2, qn, qn, qe (.bipush 25) 2, qn, qe (.iload_n 1) 1],
  [qe .imul 1, qe (.iload_n 3) 1, qe .iadd 1, qe (.iconst 0) 1, qe .iastore 1, qe (.iinc 3 1) 3, qn, qn, qt (.goto (-21)) 3 35, qn, qn, qe (.aload_n 0) 1, qe (.aload_n 0) 1, qf (.getfield 26) 10 17 2],
  [qe (.iconst 2) 1, qe (.iload_n 1) 1, qf (.invokevirtual 328) 212 3 0, qn, qn, qe (.iload_n 2) 1, qe .ireturn 1]]
def qp229 : List (List (Option qE)) := [[qe (.aload_n 0) 1, qe (.iconst 0) 1, qt (.putfield 50) 3 10, qn, qn, qe (.aload_n 0) 1, qe (.iload_n 1) 1, qf (.invokevirtual 321) 214 1 0, qn, qn, qt (.ifCond .eq 27) 3 37, qn, qn, qe (.aload_n 0) 1, qe (.iload_n 2) 1, qf (.invokevirtual 321) 214 1 0],
  [qn, qn, qt (.ifCond .eq 19) 3 37, qn, qn, qe (.aload_n 0) 1, qe (.iload_n 1) 1, qf (.invokevirtual 348) 215 1 0, qn, qn, qt (.ifCond .ne 17) 3 43, qn, qn, qe (.aload_n 0) 1, qe (.iload_n 2) 1, qf (.invokevirtual 348) 215 1 0],
  [qn, qn, qt (.ifCond .ne 9) 3 43, qn, qn, qe (.aload_n 0) 1, qe (.iconst 0) 1, qf (.invokevirtual 341) 213 1 0, qn, qn, qe .ireturn 1, qe (.iload_n 1) 1, qe (.iload_n 2) 1, qt (.if_icmp .ne 9) 3 54],
  [qe (.aload_n 0) 1, qe (.iconst 2) 1, qf (.invokevirtual 341) 213 1 0, qn, qn, qe .ireturn 1, qe (.aload_n 0) 1, qt (.invokevirtual 335) 3 211, qn, qn, qe (.iconst 0) 1, qe (.istore_n 3) 1, qe (.iload_n 3) 1, qe (.bipush 25) 2, qn, qt (.if_icmp .ge 57) 3 120],
  [qn, qn, qe (.aload_n 0) 1, qf (.getfield 26) 10 17 2, qn, qn, qe (.bipush 25) 2, qn, qe (.iload_n 1) 1, qe .imul 1, qe (.iload_n 3) 1, qe .iadd 1, qe .iaload 1, qe (.istore 4) 2, qn, qe (.aload_n 0) 1],
  [qf (.getfield 26) 10 17 2, qn, qn, qe (.bipush 25) 2, qn, qe (.iload_n 1) 1, qe .imul 1, qe (.iload_n 3) 1, qe .iadd 1, qe (.aload_n 0) 1, qf (.getfield 26) 10 17 2, qn, qn, qe (.bipush 25) 2, qn, qe (.iload_n 2) 1],
  [qe .imul 1, qe (.iload_n 3) 1, qe .iadd 1, qe .iaload 1, qe .iastore 1, qe (.aload_n 0) 1, qf (.getfield 26) 10 17 2, qn, qn, qe (.bipush 25) 2, qn, qe (.iload_n 2) 1, qe .imul 1, qe (.iload_n 3) 1, qe .iadd 1, qe (.iload 4) 2],
  [qn, qe .iastore 1, qe (.iinc 3 1) 3, qn, qn, qt (.goto (-57)) 3 60, qn, qn, qe (.aload_n 0) 1, qe (.aload_n 0) 1, qf (.getfield 26) 10 17 2, qn, qn, qe (.iconst 3) 1, qe (.iload_n 1) 1, qf (.invokevirtual 328) 212 3 0],
  [qn, qn, qe (.aload_n 0) 1, qf (.getfield 26) 10 17 2, qn, qn, qe (.bipush 25) 2, qn, qe (.iload_n 1) 1, qe .imul 1, qe .iaload 1, qe .ireturn 1]]
def qp230 : List (List (Option qE)) := [[qe (.iload_n 1) 1, qe .i2l 1, qe (.lconst 0) 1, qe (.aload_n 0) 1, qf (.getfield 181) 10 13 0, qn, qn, qe (.iconst 1) 1, qe .isub 1, qe .i2l 1, qf (.invokestatic 93) 147 3 1, qn, qn, some (.ireturn, 1, 0, 0, 3)]]
def qp231 : List (List (Option qE)) := [[qe (.aload_n 0) 1, qf (.getfield 26) 10 17 2, qn, qn, qe (.iconst 0) 1, qe (.aload_n 0) 1, qf (.getfield 29) 10 18 2, qn, qn, qe (.iconst 0) 1, qf (.invokestatic 315) 177 4 1, qn, qn, qe (.iconst 0) 1, qe (.istore_n 2) 1, qe (.aload_n 0) 1],
  [qe (.iconst (-1)) 1, qf (.putfield 354) 10 27 0, qn, qn, qe (.iload_n 2) 1, qe (.aload_n 0) 1, qf (.getfield 23) 10 12 2, qn, qn, qe (.iload_n 1) 1, qe .iaload 1, qt (.if_icmp .ge 43) 3 70, qn, qn, qe (.aload_n 0) 1, qf (.getfield 354) 10 27 0],
  [qn, qn, qe (.iconst (-1)) 1, qt (.if_icmp .ne 35) 3 70, qn, qn, qe (.aload_n 0) 1, qe (.aload_n 0) 1, qe (.aload_n 0) 1, qf (.getfield 29) 10 18 2, qn, qn, qe (.bipush 8) 2, qn, qe (.iload_n 1) 1, qe .imul 1],
  [qe (.iload_n 2) 1, qe .iadd 1, qf (.invokevirtual 332) 216 2 0, qn, qn, qf (.putfield 354) 10 27 0, qn, qn, qe (.aload_n 0) 1, qf (.getfield 354) 10 27 0, qn, qn, qe (.iconst (-1)) 1, qt (.if_icmp .ne (-41)) 3 20],
  [qe (.iinc 2 1) 3, qn, qn, qt (.goto (-47)) 3 20, qn, qn, qe (.iload_n 2) 1, qe .ireturn 1]]
def qp232 : List (List (Option qE)) := [[qe (.aload_n 0) 1, qe (.iconst 0) 1, qt (.putfield 50) 3 10, qn, qn, qe (.aload_n 0) 1, qf (.getfield 189) 10 7 0, qn, qn, qt (.ifCond .eq 11) 3 20, qn, qn, qe (.aload_n 0) 1, qe (.iload_n 1) 1, qf (.invokevirtual 357) 230 1 0],
  [qn, qt (.ifCond .ne 9) 3 26, qn, qn, qe (.aload_n 0) 1, qe (.iconst 0) 1, qf (.invokevirtual 341) 213 1 0, qn, qn, qe .ireturn 1, qe (.aload_n 0) 1, qe (.iload_n 1) 1, qf (.invokevirtual 360) 231 1 0, qn, qn, qe (.istore_n 2) 1],
  [qe (.aload_n 0) 1, qf (.getfield 354) 10 27 0, qn, qn, qe (.iconst (-1)) 1, qt (.if_icmp .eq 12) 3 49, qn, qn, qe (.aload_n 0) 1, qe (.aload_n 0) 1, qf (.getfield 354) 10 27 0, qn, qn, qf (.invokevirtual 341) 213 1 0],
  [qe .ireturn 1, qe (.aload_n 0) 1, qt (.invokevirtual 335) 3 211, qn, qn, qe (.aload_n 0) 1, qf (.getfield 29) 10 18 2, qn, qn, qe (.iconst 0) 1, qe (.aload_n 0) 1, qf (.getfield 26) 10 17 2, qn, qn, qe (.iconst 0) 1, qf (.invokestatic 315) 177 4 1],
  [qn, qn, qe (.iload_n 2) 1, qe .ireturn 1]]
def qp233 : List (List (Option qE)) := [[qe (.aload_n 0) 1, qe (.iconst 0) 1, qt (.putfield 50) 3 10, qn, qn, qe (.aload_n 0) 1, qf (.getfield 189) 10 7 0, qn, qn, qt (.ifCond .eq 23) 3 32, qn, qn, qe (.aload_n 0) 1, qe (.iload_n 1) 1, qf (.invokevirtual 357) 230 1 0],
  [qn, qt (.ifCond .eq 15) 3 32, qn, qn, qe (.iload_n 2) 1, qe .i2l 1, qe (.lconst 0) 1, qt (.ldc2_w 162) 3 2, qn, qn, qf (.invokestatic 93) 147 3 1, qn, qn, qt (.ifCond .ne 7) 3 36],
  [qt (.ldc_w 347) 3 4293967296, qn, qn, qe .ireturn 1, qe (.aload_n 0) 1, qe (.iload_n 1) 1, qf (.invokevirtual 360) 231 1 0, qn, qn, qe (.istore_n 3) 1, qe (.iload_n 2) 1, qt (.ifCond .ne 17) 3 60, qn, qn, qe (.aload_n 0) 1, qf (.getfield 354) 10 27 0],
  [qn, qn, qe (.iconst (-1)) 1, qt (.if_icmp .ne 7) 3 58, qn, qn, qe (.iconst (-1)) 1, qt (.goto 4) 3 59, qn, qn, qe (.iload_n 3) 1, qe .ireturn 1, qe (.iload_n 2) 1, qe (.iconst 1) 1, qt (.if_icmp .ne 8) 3 70],
  [qn, qe (.aload_n 0) 1, qf (.getfield 354) 10 27 0, qn, qn, qe .ireturn 1, qe (.aload_n 0) 1, qf (.getfield 354) 10 27 0, qn, qn, qe (.iconst (-1)) 1, qt (.if_icmp .ne 27) 3 102, qn, qn, qe (.aload_n 0) 1, qf (.getfield 29) 10 18 2],
  [qn, qn, qe (.bipush 25) 2, qn, qe (.aload_n 0) 1, qf (.getfield 13) 10 9 2, qn, qn, qe (.bipush 8) 2, qn, qe (.iload_n 1) 1, qe .imul 1, qe (.iload_n 3) 1, qe .iadd 1, qe (.iconst 1) 1, qe .isub 1],
  [qe .iaload 1, qe .imul 1, qe .iaload 1, qt (.goto 4) 3 103, qn, qn, qe (.iconst (-1)) 1, qe .ireturn 1]]
def qp234 : List (List (Option qE)) := [[qe (.aload_n 0) 1, qe (.iconst 0) 1, qt (.putfield 50) 3 10, qn, qn, qe (.aload_n 0) 1, qe (.iload_n 1) 1, qf (.invokevirtual 357) 230 1 0, qn, qn, qt (.ifCond .ne 5) 3 15, qn, qn, qe (.iconst (-1)) 1, qe .ireturn 1, qe (.iload_n 2) 1],
  [qe (.iconst (-1)) 1, qt (.if_icmp .ne 12) 3 29, qn, qn, qe (.aload_n 0) 1, qf (.getfield 23) 10 12 2, qn, qn, qe (.iload_n 1) 1, qe .iaload 1, qt (.goto 36) 3 62, qn, qn, qe (.iload_n 2) 1, qe .i2l 1, qe (.lconst 0) 1],
  [qe (.aload_n 0) 1, qf (.getfield 23) 10 12 2, qn, qn, qe (.iload_n 1) 1, qe .iaload 1, qe (.iconst 1) 1, qe .isub 1, qe .i2l 1, qf (.invokestatic 93) 147 3 1, qn, qn, qt (.ifCond .eq 17) 3 61, qn, qn, qe (.aload_n 0) 1],
  [qf (.getfield 13) 10 9 2, qn, qn, qe (.bipush 8) 2, qn, qe (.iload_n 1) 1, qe .imul 1, qe (.iload_n 2) 1, qe .iadd 1, qe .iaload 1, qt (.goto 4) 3 62, qn, qn, qe (.iconst (-1)) 1, qe .ireturn 1]]
def qp235 : List (List (Option qE)) := [[qe (.aload_n 0) 1, qe (.aload_n 0) 1, qf (.getfield 363) 10 28 1, qn, qn, qt (.ldc2_w 367) 3 6364136223846793005, qn, qn, qe .lmul 1, qt (.ldc2_w 369) 3 1442695040888963407, qn, qn, qe .ladd 1, qf (.putfield 363) 10 28 1],
  [qe (.aload_n 0) 1, qf (.getfield 363) 10 28 1, qn, qn, qe (.bipush 33) 2, qn, qe .lushr 1, qe (.iload_n 1) 1, qe .i2l 1, qe .lrem 1, qe .l2i 1, qe .ireturn 1]]
def qp236 : List (List (Option qE)) := [[qe (.aload_n 0) 1, qe (.bipush 40) 2, qn, qf (.putfield 124) 10 14 0, qn, qn, qe (.aload_n 0) 1, qf (.getfield 17) 10 10 2, qn, qn, qe (.aload_n 0) 1, qf (.getfield 124) 10 14 0, qn, qn, qe (.iconst 0) 1, qe .iastore 1],
  [qe (.aload_n 0) 1, qf (.getfield 13) 10 9 2, qn, qn, qe (.aload_n 0) 1, qf (.getfield 124) 10 14 0, qn, qn, qe (.aload_n 0) 1, qe (.bipush 8) 2, qn, qf (.invokevirtual 371) 235 1 0, qn, qn, qe .iastore 1, qe (.aload_n 0) 1],
  [qe (.bipush 6) 2, qn, qf (.invokevirtual 371) 235 1 0, qn, qn, qe (.istore_n 1) 1, qe (.iload_n 1) 1, qt (.ifCond .ne 48) 3 87, qn, qn, qe (.aload_n 0) 1, qe (.iconst 0) 1, qe (.aload_n 0) 1, qe (.aload_n 0) 1, qf (.getfield 189) 10 7 0],
  [qn, qf (.invokevirtual 371) 235 1 0, qn, qn, qf (.invokevirtual 133) 162 2 0, qn, qn, qe (.aload_n 0) 1, qe (.iconst 0) 1, qe (.aload_n 0) 1, qe (.aload_n 0) 1, qf (.getfield 189) 10 7 0, qn, qn, qf (.invokevirtual 371) 235 1 0],
  [qn, qf (.invokevirtual 133) 162 2 0, qn, qn, qe (.aload_n 0) 1, qe (.iconst 1) 1, qe (.iconst 0) 1, qf (.invokevirtual 133) 162 2 0, qn, qn, qe (.aload_n 0) 1, qe (.iconst 5) 1, qe (.iconst 0) 1, qf (.invokevirtual 133) 162 2 0],
  [qe (.aload_n 0) 1, qe (.iconst 3) 1, qe (.iconst 0) 1, qf (.invokevirtual 133) 162 2 0, qn, qn, qe .return_ 1, qe (.iload_n 1) 1, qe (.iconst 4) 1, qt (.if_icmp .ne 9) 3 98, qn, qn, qe (.aload_n 0) 1, qe (.iconst 0) 1, qe (.iconst 1) 1, qf (.invokevirtual 133) 162 2 0],
  [qn, qn, qe (.aload_n 0) 1, qe (.iconst 2) 1, qe (.aload_n 0) 1, qe (.bipush 8) 2, qn, qf (.invokevirtual 371) 235 1 0, qn, qn, qf (.invokevirtual 133) 162 2 0, qn, qn, qe (.iload_n 1) 1, qe (.iconst 3) 1, qt (.if_icmp .ge 14) 3 125],
  [qn, qn, qe (.aload_n 0) 1, qe (.iconst 2) 1, qe (.aload_n 0) 1, qe (.bipush 8) 2, qn, qf (.invokevirtual 371) 235 1 0, qn, qn, qf (.invokevirtual 133) 162 2 0, qn, qn, qe (.iload_n 1) 1, qe (.tableswitch 68 1 4 #[30, 39, 48, 58]) 30],
  [],
  [qn, qn, qn, qn, qn, qn, qn, qn, qn, qn, qn, qn, qe (.aload_n 0) 1, qe (.iconst 3) 1, qe (.iconst 0) 1, qf (.invokevirtual 133) 162 2 0],
  [qn, qn, qt (.goto 48) 3 210, qn, qn, qe (.aload_n 0) 1, qe (.iconst 5) 1, qe (.iconst 0) 1, qf (.invokevirtual 133) 162 2 0, qn, qn, qt (.goto 39) 3 210, qn, qn, qe (.aload_n 0) 1, qe (.bipush 8) 2],
  [qn, qe (.iconst 0) 1, qf (.invokevirtual 133) 162 2 0, qn, qn, qt (.goto 29) 3 210, qn, qn, qe (.aload_n 0) 1, qe (.bipush 6) 2, qn, qe (.iconst 0) 1, qf (.invokevirtual 133) 162 2 0, qn, qn, qt (.goto 19) 3 210],
  [qn, qn, qe (.aload_n 0) 1, qe (.bipush 14) 2, qn, qe (.aload_n 0) 1, qe (.aload_n 0) 1, qf (.getfield 192) 10 8 0, qn, qn, qf (.invokevirtual 371) 235 1 0, qn, qn, qe (.iconst 1) 1, qe .iadd 1, qf (.invokevirtual 133) 162 2 0],
  [qn, qn, qe .return_ 1]]
def qp237 : List (List (Option qE)) := [[qe (.iconst 0) 1, qe (.istore_n 1) 1, qe (.iconst 0) 1, qe (.istore_n 2) 1, qe (.iload_n 2) 1, qe (.bipush 8) 2, qn, qt (.if_icmp .ge 29) 3 36, qn, qn, qe (.iload_n 1) 1, qe (.aload_n 0) 1, qf (.getfield 26) 10 17 2, qn, qn, qe (.bipush 25) 2],
  [qn, qe (.iload_n 2) 1, qe .imul 1, qe .iaload 1, qt (.ifCond .le 7) 3 27, qn, qn, qe (.iconst 1) 1, qt (.goto 4) 3 28, qn, qn, qe (.iconst 0) 1, qe .iadd 1, qe (.istore_n 1) 1, qe (.iinc 2 1) 3],
  [qn, qt (.goto (-29)) 3 4, qn, qn, qe (.iload_n 1) 1, qe .ireturn 1]]
def qp238 : List (List (Option qE)) := [[qe (.aload_n 0) 1, qe (.iconst 0) 1, qt (.putfield 50) 3 10, qn, qn, qe (.aload_n 0) 1, qf (.getfield 189) 10 7 0, qn, qn, qt (.ifCond .eq 15) 3 24, qn, qn, qe (.iload_n 1) 1, qe .i2l 1, qe (.lconst 1) 1, qt (.ldc2_w 374) 3 40],
  [qn, qn, qf (.invokestatic 93) 147 3 1, qn, qn, qt (.ifCond .ne 5) 3 26, qn, qn, qe (.iconst (-1)) 1, qe .ireturn 1, qe (.aload_n 0) 1, qe (.lload_n 2) 1, qf (.putfield 363) 10 28 1, qn, qn, qe (.iconst 0) 1],
  [qe (.istore 4) 2, qn, qe (.iload 4) 2, qn, qe (.iload_n 1) 1, qt (.if_icmp .ge 21) 3 58, qn, qn, qe (.aload_n 0) 1, qt (.invokevirtual 376) 3 236, qn, qn, qe (.aload_n 0) 1, qe (.bipush 40) 2, qn, qf (.invokevirtual 344) 217 1 0],
  [qn, qn, qe (.istore 5) 2, qn, qe (.iinc 4 1) 3, qn, qn, qt (.goto (-21)) 3 34, qn, qn, qe (.aload_n 0) 1, qt (.invokevirtual 379) 3 237, qn, qn, qe .ireturn 1]]
def qp239 : List (List (Option qE)) := [[qe (.aload_n 0) 1, qe (.iconst 0) 1, qt (.putfield 50) 3 10, qn, qn, qe (.iload_n 1) 1, qe .i2l 1, qe (.lconst 0) 1, qt (.ldc2_w 382) 3 5, qn, qn, qf (.invokestatic 93) 147 3 1, qn, qn, qt (.ifCond .eq 12) 3 26],
  [qn, qe (.aload_n 0) 1, qf (.getfield 41) 10 26 2, qn, qn, qe (.iload_n 1) 1, qe .iaload 1, qt (.goto 4) 3 27, qn, qn, qe (.iconst (-1)) 1, qe .ireturn 1]]
def qp240 : List (List (Option qE)) := [[qe (.aload_n 0) 1, qe (.iconst 0) 1, qt (.putfield 50) 3 10, qn, qn, qe (.aload_n 0) 1, qf (.getfield 195) 10 22 0, qn, qn, qt (.ifCond .ne 5) 3 14, qn, qn, qe (.iconst (-1)) 1, qe .ireturn 1, qe (.aload_n 0) 1, qe .dup 1],
  [qf (.getfield 195) 10 22 0, qn, qn, qe (.iconst 1) 1, qe .isub 1, qf (.putfield 195) 10 22 0, qn, qn, qe (.aload_n 0) 1, qf (.getfield 35) 10 20 2, qn, qn, qe (.sipush 381) 3, qn, qn, qe (.aload_n 0) 1],
  [qf (.getfield 312) 10 21 0, qn, qn, qe (.aload_n 0) 1, qf (.getfield 195) 10 22 0, qn, qn, qe .iadd 1, qe (.bipush 40) 2, qn, qe .irem 1, qe .imul 1, qe (.aload_n 0) 1, qf (.getfield 26) 10 17 2],
  [qe (.iconst 0) 1, qf (.invokestatic 315) 177 4 1, qn, qn, qe (.aload_n 0) 1, qf (.getfield 195) 10 22 0, qn, qn, qe .ireturn 1]]
def qp241 : List (List (Option qE)) := [[qe (.aload_n 0) 1, qe (.iconst 0) 1, qt (.putfield 50) 3 10, qn, qn, qe (.iload_n 1) 1, qt (.ifCond .lt 27) 3 33, qn, qn, qe (.iload_n 1) 1, qe (.aload_n 0) 1, qf (.getfield 26) 10 17 2, qn, qn, qe (.sipush 200) 3],
  [qn, qe .iaload 1, qt (.if_icmp .ge 15) 3 33, qn, qn, qe (.iload_n 2) 1, qe .i2l 1, qe (.lconst 0) 1, qt (.ldc2_w 162) 3 2, qn, qn, qf (.invokestatic 93) 147 3 1, qn, qn, qt (.ifCond .ne 7) 3 37],
  [qn, qt (.ldc_w 347) 3 4293967296, qn, qn, qe .ireturn 1, qe (.aload_n 0) 1, qf (.getfield 26) 10 17 2, qn, qn, qe (.sipush 201) 3, qn, qn, qe (.iconst 3) 1, qe (.aload_n 0) 1, qf (.getfield 26) 10 17 2],
  [qn, qe (.sipush 200) 3, qn, qn, qe .iaload 1, qe (.iconst 1) 1, qe .isub 1, qe (.iload_n 1) 1, qe .isub 1, qe .imul 1, qe .iadd 1, qe (.iload_n 2) 1, qe .iadd 1, qe .iaload 1, qe .ireturn 1]]
def qp242 : List (List (Option qE)) := [[qe (.aload_n 0) 1, qe (.iconst 0) 1, qt (.putfield 50) 3 10, qn, qn, qe (.aload_n 0) 1, qf (.getfield 189) 10 7 0, qn, qn, qt (.ifCond .ne 5) 3 14, qn, qn, qe (.iconst (-1)) 1, qe .ireturn 1, qe (.aload_n 0) 1, qf (.getfield 26) 10 17 2],
  [qn, qn, qe (.iconst 0) 1, qe (.aload_n 0) 1, qf (.getfield 32) 10 19 2, qn, qn, qe (.iconst 0) 1, qf (.invokestatic 315) 177 4 1, qn, qn, qe (.aload_n 0) 1, qe (.iconst 1) 1, qf (.putfield 198) 10 23 3],
  [qe (.aload_n 0) 1, qt (.invokevirtual 379) 3 237, qn, qn, qe .ireturn 1]]
def qp243 : List (List (Option qE)) := [[qe (.aload_n 0) 1, qe (.iconst 0) 1, qt (.putfield 50) 3 10, qn, qn, qe (.aload_n 0) 1, qf (.getfield 198) 10 23 3, qn, qn, qt (.ifCond .ne 5) 3 14, qn, qn, qe (.iconst (-1)) 1, qe .ireturn 1, qe (.aload_n 0) 1, qf (.getfield 32) 10 19 2],
  [qn, qn, qe (.iconst 0) 1, qe (.aload_n 0) 1, qf (.getfield 26) 10 17 2, qn, qn, qe (.iconst 0) 1, qf (.invokestatic 315) 177 4 1, qn, qn, qe (.aload_n 0) 1, qe (.iconst 0) 1, qf (.putfield 195) 10 22 0],
  [qe (.aload_n 0) 1, qt (.invokevirtual 379) 3 237, qn, qn, qe .ireturn 1]]
def qp244 : List (List (Option qE)) := [[qe (.aload_n 0) 1, qe (.iconst 0) 1, qt (.putfield 50) 3 10, qn, qn, qe (.aload_n 0) 1, qe (.iload_n 1) 1, qf (.invokevirtual 348) 215 1 0, qn, qn, qt (.ifCond .eq 11) 3 21, qn, qn, qe (.aload_n 0) 1, qe (.iload_n 2) 1, qf (.invokevirtual 348) 215 1 0],
  [qn, qn, qt (.ifCond .ne 5) 3 23, qn, qn, qe (.iconst (-1)) 1, qe .ireturn 1, qe (.aload_n 0) 1, qf (.getfield 26) 10 17 2, qn, qn, qe (.bipush 25) 2, qn, qe (.iload_n 1) 1, qe .imul 1, qe .iaload 1],
  [qe (.aload_n 0) 1, qf (.getfield 26) 10 17 2, qn, qn, qe (.bipush 25) 2, qn, qe (.iload_n 2) 1, qe .imul 1, qe .iaload 1, qf (.invokestatic 219) 186 2 1, qn, qn, qe (.istore_n 3) 1, qe (.iconst 0) 1, qe (.istore 4) 2],
  [qe (.iload 4) 2, qn, qe (.iload_n 3) 1, qt (.if_icmp .ge 40) 3 91, qn, qn, qe (.aload_n 0) 1, qf (.getfield 26) 10 17 2, qn, qn, qe (.bipush 25) 2, qn, qe (.iload_n 1) 1, qe .imul 1, qe (.iconst 1) 1, qe .iadd 1],
  [qe (.iload 4) 2, qn, qe .iadd 1, qe .iaload 1, qe (.aload_n 0) 1, qf (.getfield 26) 10 17 2, qn, qn, qe (.bipush 25) 2, qn, qe (.iload_n 2) 1, qe .imul 1, qe (.iconst 1) 1, qe .iadd 1, qe (.iload 4) 2],
  [qe .iadd 1, qe .iaload 1, qt (.if_icmp .ne 9) 3 91, qn, qn, qe (.iinc 4 1) 3, qn, qn, qt (.goto (-40)) 3 48, qn, qn, qe (.iload 4) 2, qn, qe .ireturn 1]]
def qp245 : List (List (Option qE)) := [[qe (.aload_n 0) 1, qe (.iconst 0) 1, qt (.putfield 50) 3 10, qn, qn, qe (.aload_n 0) 1, qe (.iload_n 1) 1, qf (.invokevirtual 348) 215 1 0, qn, qn, qt (.ifCond .eq 15) 3 25, qn, qn, qe (.iload_n 2) 1, qe .i2l 1, qe (.lconst 0) 1],
  [qt (.ldc2_w 384) 3 996, qn, qn, qf (.invokestatic 93) 147 3 1, qn, qn, qt (.ifCond .ne 5) 3 27, qn, qn, qe (.iconst (-1)) 1, qe .ireturn 1, qe (.iconst 0) 1, qe (.istore_n 3) 1, qe (.aload_n 0) 1, qf (.getfield 26) 10 17 2],
  [qn, qe (.bipush 25) 2, qn, qe (.iload_n 1) 1, qe .imul 1, qe .iaload 1, qe (.iconst 1) 1, qe .isub 1, qe (.istore 4) 2, qn, qe (.iload 4) 2, qn, qt (.ifCond .lt 35) 3 79, qn, qn, qe (.aload_n 0) 1],
  [qe (.iload_n 3) 1, qe .i2l 1, qe (.iload_n 2) 1, qe .i2l 1, qe .lmul 1, qe (.aload_n 0) 1, qf (.getfield 26) 10 17 2, qn, qn, qe (.bipush 25) 2, qn, qe (.iload_n 1) 1, qe .imul 1, qe (.iconst 1) 1, qe .iadd 1, qe (.iload 4) 2],
  [qn, qe .iadd 1, qe .iaload 1, qe .i2l 1, qe .ladd 1, qf (.invokevirtual 226) 178 1 0, qn, qn, qe (.istore_n 3) 1, qe (.iinc 4 (-1)) 3, qn, qn, qt (.goto (-34)) 3 42, qn, qn, qe (.iload_n 3) 1],
  [qe .ireturn 1]]
def qp246 : List (List (Option qE)) := [[qe (.aload_n 0) 1, qe (.iconst 0) 1, qt (.putfield 50) 3 10, qn, qn, qe (.aload_n 0) 1, qe (.iload_n 1) 1, qf (.invokevirtual 348) 215 1 0, qn, qn, qt (.ifCond .eq 29) 3 39, qn, qn, qe (.iload_n 2) 1, qe .i2l 1, qe (.lconst 0) 1],
  [qt (.ldc2_w 386) 3 4, qn, qn, qf (.invokestatic 93) 147 3 1, qn, qn, qt (.ifCond .eq 17) 3 39, qn, qn, qe (.aload_n 0) 1, qf (.getfield 26) 10 17 2, qn, qn, qe (.bipush 25) 2, qn, qe (.iload_n 1) 1],
  [qe .imul 1, qe (.iconst 1) 1, qe .iadd 1, qe .iaload 1, qt (.ifCond .ne 5) 3 41, qn, qn, qe (.iconst (-1)) 1, qe .ireturn 1, qe (.aload_n 0) 1, qe (.iload_n 1) 1, qe (.iconst 0) 1, qf (.invokevirtual 351) 225 2 0, qn, qn, qe (.iconst 1) 1],
  [qe (.iload_n 2) 1, qe .ishl 1, qe (.aload_n 0) 1, qe (.iconst 0) 1, qf (.invokevirtual 202) 180 1 0, qn, qn, qf (.invokestatic 219) 186 2 1, qn, qn, qe (.istore 4) 2, qn, qe (.aload_n 0) 1, qe (.iconst 0) 1, qe (.bipush 40) 2],
  [qf (.invokevirtual 243) 190 2 0, qn, qn, qe (.iload_n 3) 1, qe (.iconst (-1)) 1, qt (.if_icmp .ne 8) 3 77, qn, qn, qe (.iload 4) 2, qn, qt (.goto 28) 3 102, qn, qn, qe (.iload_n 3) 1, qe .i2l 1, qe (.lconst 0) 1],
  [qe (.iload 4) 2, qn, qe (.iconst 1) 1, qe .isub 1, qe .i2l 1, qf (.invokestatic 93) 147 3 1, qn, qn, qt (.ifCond .eq 13) 3 101, qn, qn, qe (.aload_n 0) 1, qe (.bipush 40) 2, qn, qe (.iload_n 3) 1, qf (.invokevirtual 205) 182 2 0],
  [qn, qn, qt (.goto 4) 3 102, qn, qn, qe (.iconst (-1)) 1, qe .ireturn 1]]
def qp247 : List (List (Option qE)) := [[qe (.aload_n 0) 1, qf (.getfield 189) 10 7 0, qn, qn, qt (.ifCond .le 44) 3 48, qn, qn, qe (.aload_n 0) 1, qe (.iload_n 1) 1, qe (.iconst 0) 1, qf (.invokevirtual 388) 248 2 0, qn, qn, qt (.ifCond .eq 35) 3 48],
  [qe (.aload_n 0) 1, qe (.iload_n 2) 1, qe (.iconst 1) 1, qf (.invokevirtual 388) 248 2 0, qn, qn, qt (.ifCond .eq 26) 3 48, qn, qn, qe (.aload_n 0) 1, qe (.iload_n 3) 1, qe (.iconst 2) 1, qf (.invokevirtual 388) 248 2 0, qn, qn, qt (.ifCond .eq 17) 3 48],
  [qn, qn, qe (.aload_n 0) 1, qe (.iload 4) 2, qn, qe (.iconst 3) 1, qf (.invokevirtual 388) 248 2 0, qn, qn, qt (.ifCond .eq 7) 3 48, qn, qn, qe (.iconst 1) 1, qt (.goto 4) 3 49],
  [qe (.iconst 0) 1, some (.ireturn, 1, 0, 0, 3)]]
def qp248 : List (List (Option qE)) := [[qe (.iload_n 1) 1, qe (.iconst (-1)) 1, qt (.if_icmp .ne 12) 3 14, qn, qn, qe (.aload_n 0) 1, qe (.iload_n 2) 1, qe (.iconst 0) 1, qf (.invokevirtual 249) 187 2 0, qn, qn, qt (.goto 17) 3 28, qn, qn, qe (.aload_n 0) 1, qe (.iload_n 1) 1],
  [qf (.invokevirtual 348) 215 1 0, qn, qn, qt (.ifCond .eq 9) 3 28, qn, qn, qe (.aload_n 0) 1, qe (.iload_n 1) 1, qe (.iload_n 2) 1, qf (.invokevirtual 351) 225 2 0, qn, qn, qe (.iload_n 1) 1, qe (.iconst (-1)) 1, qt (.if_icmp .eq 11) 3 41],
  [qn, qe (.aload_n 0) 1, qe (.iload_n 1) 1, qf (.invokevirtual 348) 215 1 0, qn, qn, qt (.ifCond .eq 7) 3 45, qn, qn, qe (.iconst 1) 1, qt (.goto 4) 3 46, qn, qn, qe (.iconst 0) 1, some (.ireturn, 1, 0, 0, 3)]]
def qp249 : List (List (Option qE)) := [[qe (.aload_n 0) 1, qe (.aload_n 0) 1, qe (.iconst 1) 1, qe (.iconst 0) 1, qf (.invokevirtual 205) 182 2 0, qn, qn, qe .i2l 1, qt (.ldc2_w 162) 3 2, qn, qn, qe (.aload_n 0) 1, qe (.iconst 2) 1, qe (.iconst 0) 1, qf (.invokevirtual 205) 182 2 0],
  [qn, qe .i2l 1, qe .lmul 1, qe (.iload_n 1) 1, qe .i2l 1, qe .lmul 1, qe .ladd 1, qt (.ldc2_w 298) 3 3, qn, qn, qe (.aload_n 0) 1, qe (.iconst 3) 1, qe (.iconst 0) 1, qf (.invokevirtual 205) 182 2 0],
  [qe .i2l 1, qe .lmul 1, qe (.aload_n 0) 1, qe (.iload_n 1) 1, qe .i2l 1, qe (.iload_n 1) 1, qe .i2l 1, qe .lmul 1, qf (.invokevirtual 226) 178 1 0, qn, qn, qe .i2l 1, qe .lmul 1, qe .ladd 1, qf (.invokevirtual 226) 178 1 0],
  [qn, qe .ireturn 1]]
def qp250 : List (List (Option qE)) := [[qe (.aload_n 0) 1, qe (.iload_n 1) 1, qe .i2l 1, qe (.iload_n 1) 1, qe .i2l 1, qe .lmul 1, qf (.invokevirtual 226) 178 1 0, qn, qn, qe .i2l 1, qe (.lstore_n 2) 1, qe (.aload_n 0) 1, qe (.aload_n 0) 1, qe (.iconst 0) 1, qe (.iconst 0) 1, qf (.invokevirtual 205) 182 2 0],
  [qn, qn, qe .i2l 1, qe (.aload_n 0) 1, qe (.iconst 1) 1, qe (.iconst 0) 1, qf (.invokevirtual 205) 182 2 0, qn, qn, qe .i2l 1, qe (.iload_n 1) 1, qe .i2l 1, qe .lmul 1, qe .ladd 1, qe (.aload_n 0) 1, qe (.iconst 2) 1],
  [qe (.iconst 0) 1, qf (.invokevirtual 205) 182 2 0, qn, qn, qe .i2l 1, qe (.lload_n 2) 1, qe .lmul 1, qe .ladd 1, qe (.aload_n 0) 1, qe (.iconst 3) 1, qe (.iconst 0) 1, qf (.invokevirtual 205) 182 2 0, qn, qn, qe .i2l 1, qe (.aload_n 0) 1],
  [qe (.lload_n 2) 1, qe (.iload_n 1) 1, qe .i2l 1, qe .lmul 1, qf (.invokevirtual 226) 178 1 0, qn, qn, qe .i2l 1, qe .lmul 1, qe .ladd 1, qf (.invokevirtual 226) 178 1 0, qn, qn, qt (.ifCond .ne 15) 3 76],
  [qe (.aload_n 0) 1, qe (.iload_n 1) 1, qf (.invokevirtual 391) 249 1 0, qn, qn, qt (.ifCond .eq 7) 3 76, qn, qn, qe (.iconst 1) 1, qt (.goto 4) 3 77, qn, qn, qe (.iconst 0) 1, some (.ireturn, 1, 0, 0, 3)]]
def qp251 : List (List (Option qE)) := [[qe (.aload_n 0) 1, qe (.bipush 40) 2, qn, qe (.bipush 40) 2, qn, qe (.bipush 41) 2, qn, qe (.iload_n 1) 1, qe (.iconst 1) 1, qe .iadd 1, qf (.invokevirtual 236) 192 4 0, qn, qn, qe (.aload_n 0) 1, qe (.bipush 41) 2],
  [qe (.bipush 40) 2, qn, qe (.bipush 42) 2, qn, qe (.iload_n 1) 1, qe (.iconst 1) 1, qe .iadd 1, qf (.invokevirtual 236) 192 4 0, qn, qn, qe (.aload_n 0) 1, qe (.aload_n 0) 1, qe (.iconst 0) 1, qe (.iload_n 1) 1, qf (.invokevirtual 205) 182 2 0],
  [qn, qe .i2l 1, qe (.aload_n 0) 1, qe (.iconst 1) 1, qe (.bipush 40) 2, qn, qe (.iload_n 1) 1, qf (.invokevirtual 222) 188 3 0, qn, qn, qe .ladd 1, qe (.aload_n 0) 1, qe (.iconst 2) 1, qe (.bipush 41) 2, qn, qe (.iload_n 1) 1],
  [qf (.invokevirtual 222) 188 3 0, qn, qn, qe .ladd 1, qe (.aload_n 0) 1, qe (.iconst 3) 1, qe (.bipush 42) 2, qn, qe (.iload_n 1) 1, qf (.invokevirtual 222) 188 3 0, qn, qn, qe .ladd 1, qf (.invokevirtual 226) 178 1 0],
  [qe .ireturn 1]]
def qp252 : List (List (Option qE)) := [[qe (.aload_n 0) 1, qe (.iconst 0) 1, qt (.putfield 50) 3 10, qn, qn, qe (.aload_n 0) 1, qe (.iload_n 1) 1, qe (.iload_n 2) 1, qe (.iload_n 3) 1, qe (.iload 4) 2, qn, qf (.invokevirtual 394) 247 4 0, qn, qn, qt (.ifCond .eq 29) 3 43],
  [qn, qe (.iload 5) 2, qn, qe .i2l 1, qe (.lconst 0) 1, qe (.aload_n 0) 1, qf (.getfield 189) 10 7 0, qn, qn, qe (.iconst 1) 1, qe .isub 1, qe .i2l 1, qf (.invokestatic 93) 147 3 1, qn, qn, qt (.ifCond .eq 12) 3 43],
  [qn, qn, qe (.aload_n 0) 1, qe (.iload 5) 2, qn, qf (.invokevirtual 398) 250 1 0, qn, qn, qt (.ifCond .ne 5) 3 45, qn, qn, qe (.iconst (-1)) 1, qe .ireturn 1, qe (.aload_n 0) 1, qe (.iconst 0) 1, qf (.invokevirtual 202) 180 1 0],
  [qn, qn, qe (.aload_n 0) 1, qe (.iconst 1) 1, qf (.invokevirtual 202) 180 1 0, qn, qn, qf (.invokestatic 219) 186 2 1, qn, qn, qe (.aload_n 0) 1, qe (.iconst 2) 1, qf (.invokevirtual 202) 180 1 0, qn, qn, qe (.aload_n 0) 1],
  [qe (.iconst 3) 1, qf (.invokevirtual 202) 180 1 0, qn, qn, qf (.invokestatic 219) 186 2 1, qn, qn, qf (.invokestatic 219) 186 2 1, qn, qn, qe (.istore 7) 2, qn, qe (.iload 6) 2, qn, qe (.iconst (-1)) 1, qt (.if_icmp .ne 6) 3 85],
  [qn, qn, qe (.iload 7) 2, qn, qe .ireturn 1, qe (.iload 6) 2, qn, qe .i2l 1, qe (.lconst 0) 1, qe (.iload 7) 2, qn, qe (.iconst 1) 1, qe .isub 1, qe .i2l 1, qf (.invokestatic 93) 147 3 1],
  [qn, qt (.ifCond .ne 5) 3 102, qn, qn, qe (.iconst (-1)) 1, qe .ireturn 1, qe (.aload_n 0) 1, qe (.aload_n 0) 1, qe (.iload 5) 2, qn, qf (.invokevirtual 391) 249 1 0, qn, qn, qf (.invokevirtual 230) 179 1 0],
  [qe (.istore 8) 2, qn, qe (.aload_n 0) 1, qe (.bipush 40) 2, qn, qe (.iload 7) 2, qn, qf (.invokevirtual 258) 193 2 0, qn, qn, qe (.aload_n 0) 1, qe (.bipush 40) 2, qn, qe (.iconst 0) 1, qe (.iload 5) 2],
  [qf (.invokevirtual 212) 183 3 0, qn, qn, qe (.iconst 1) 1, qe (.istore 9) 2, qn, qe (.iload 9) 2, qn, qe (.iload 6) 2, qn, qt (.if_icmp .gt 33) 3 171, qn, qn, qe (.aload_n 0) 1, qe (.bipush 40) 2],
  [qe (.iload 9) 2, qn, qe (.aload_n 0) 1, qe (.aload_n 0) 1, qe (.iload 9) 2, qn, qf (.invokevirtual 401) 251 1 0, qn, qn, qe .i2l 1, qe .lneg 1, qe (.iload 8) 2, qn, qe .i2l 1, qe .lmul 1, qf (.invokevirtual 226) 178 1 0],
  [qn, qn, qf (.invokevirtual 212) 183 3 0, qn, qn, qe (.iinc 9 1) 3, qn, qn, qt (.goto (-34)) 3 134, qn, qn, qe (.aload_n 0) 1, qe (.bipush 40) 2, qn, qe (.iload 6) 2],
  [qf (.invokevirtual 205) 182 2 0, qn, qn, qe .ireturn 1]]
def qp253 : List (List (Option qE)) := [[qe (.aload_n 0) 1, qe (.iconst 0) 1, qt (.putfield 50) 3 10, qn, qn, qe (.iload 5) 2, qn, qe .i2l 1, qe (.lconst 0) 1, qe (.lconst 1) 1, qf (.invokestatic 93) 147 3 1, qn, qn, qt (.ifCond .eq 15) 3 28],
  [qe (.aload_n 0) 1, qe (.iload_n 1) 1, qe (.iload_n 2) 1, qe (.iload_n 3) 1, qe (.iload 4) 2, qn, qf (.invokevirtual 394) 247 4 0, qn, qn, qt (.ifCond .ne 7) 3 32, qn, qn, qt (.ldc_w 347) 3 4293967296, qn, qn, qe .ireturn 1],
  [qe (.iconst 0) 1, qe (.istore 6) 2, qn, qe (.iconst (-1)) 1, qe (.istore 7) 2, qn, qe (.aload_n 0) 1, qf (.getfield 189) 10 7 0, qn, qn, qe (.iconst 1) 1, qe .isub 1, qe (.istore 8) 2, qn, qe (.iload 8) 2],
  [qt (.ifCond .lt 28) 3 76, qn, qn, qe (.aload_n 0) 1, qe (.iload 8) 2, qn, qf (.invokevirtual 398) 250 1 0, qn, qn, qt (.ifCond .ne 6) 3 63, qn, qn, qt (.goto 10) 3 70, qn, qn, qe (.iinc 6 1) 3],
  [qn, qn, qe (.iload 8) 2, qn, qe (.istore 7) 2, qn, qe (.iinc 8 (-1)) 3, qn, qn, qt (.goto (-27)) 3 46, qn, qn, qe (.iload 5) 2, qn, qt (.ifCond .ne 8) 3 86],
  [qn, qe (.iload 6) 2, qn, qt (.goto 5) 3 88, qn, qn, qe (.iload 7) 2, qn, qe .ireturn 1]]
def qp254 : List (List (Option qE)) := [[qe (.aload_n 0) 1, qf (.getfield 44) 10 29 2, qn, qn, qe (.bipush 25) 2, qn, qe (.iload_n 1) 1, qe .imul 1, qe (.iload_n 2) 1, qe .iadd 1, qe .iaload 1, qe .ireturn 1]]
def qp255 : List (List (Option qE)) := [[qe (.aload_n 0) 1, qe (.aload_n 0) 1, qe (.iload_n 2) 1, qe (.iload_n 3) 1, qf (.invokevirtual 404) 254 2 0, qn, qn, qe .i2l 1, qe (.aload_n 0) 1, qe (.aload_n 0) 1, qe (.iload_n 1) 1, qe (.iload_n 3) 1, qf (.invokevirtual 404) 254 2 0, qn, qn, qf (.invokevirtual 230) 179 1 0],
  [qn, qn, qe .i2l 1, qe .lmul 1, qf (.invokevirtual 226) 178 1 0, qn, qn, qe (.istore 5) 2, qn, qe (.iconst 0) 1, qe (.istore 6) 2, qn, qe (.iload 6) 2, qn, qe (.iload 4) 2],
  [qt (.if_icmp .gt 46) 3 78, qn, qn, qe (.aload_n 0) 1, qf (.getfield 44) 10 29 2, qn, qn, qe (.bipush 25) 2, qn, qe (.iload_n 2) 1, qe .imul 1, qe (.iload 6) 2, qn, qe .iadd 1, qe (.aload_n 0) 1, qe (.aload_n 0) 1],
  [qe (.iload_n 2) 1, qe (.iload 6) 2, qn, qf (.invokevirtual 404) 254 2 0, qn, qn, qe .i2l 1, qe (.iload 5) 2, qn, qe .i2l 1, qe (.aload_n 0) 1, qe (.iload_n 1) 1, qe (.iload 6) 2, qn, qf (.invokevirtual 404) 254 2 0],
  [qn, qe .i2l 1, qe .lmul 1, qe .lsub 1, qf (.invokevirtual 226) 178 1 0, qn, qn, qe .iastore 1, qe (.iinc 6 1) 3, qn, qn, qt (.goto (-47)) 3 28, qn, qn, qe .return_ 1]]
def qp256 : List (List (Option qE)) := [[qe (.iconst 0) 1, qe (.istore 4) 2, qn, qe (.iload 4) 2, qn, qe (.iload_n 3) 1, qt (.if_icmp .gt 51) 3 57, qn, qn, qe (.aload_n 0) 1, qe (.iload_n 1) 1, qe (.iload 4) 2, qn, qf (.invokevirtual 404) 254 2 0],
  [qe (.istore 5) 2, qn, qe (.aload_n 0) 1, qf (.getfield 44) 10 29 2, qn, qn, qe (.bipush 25) 2, qn, qe (.iload_n 1) 1, qe .imul 1, qe (.iload 4) 2, qn, qe .iadd 1, qe (.aload_n 0) 1, qe (.iload_n 2) 1, qe (.iload 4) 2],
  [qn, qf (.invokevirtual 404) 254 2 0, qn, qn, qe .iastore 1, qe (.aload_n 0) 1, qf (.getfield 44) 10 29 2, qn, qn, qe (.bipush 25) 2, qn, qe (.iload_n 2) 1, qe .imul 1, qe (.iload 4) 2, qn, qe .iadd 1],
  [qe (.iload 5) 2, qn, qe .iastore 1, qe (.iinc 4 1) 3, qn, qn, qt (.goto (-51)) 3 3, qn, qn, qe .return_ 1]]
def qp257 : List (List (Option qE)) := [[qe (.iload_n 2) 1, qe (.iload_n 1) 1, qe .isub 1, qe (.istore_n 3) 1, qe (.iconst 0) 1, qe (.istore 4) 2, qn, qe (.iload 4) 2, qn, qe (.iload_n 3) 1, qt (.if_icmp .ge 72) 3 82, qn, qn, qe (.iconst 0) 1, qe (.istore 5) 2],
  [qe (.iload 5) 2, qn, qe (.iload_n 1) 1, qt (.if_icmp .ge 36) 3 55, qn, qn, qe (.aload_n 0) 1, qf (.getfield 44) 10 29 2, qn, qn, qe (.bipush 25) 2, qn, qe (.iload 4) 2, qn, qe .imul 1, qe (.iload 5) 2],
  [qn, qe .iadd 1, qe (.aload_n 0) 1, qe (.iconst 0) 1, qe (.iload_n 1) 1, qe (.iload 4) 2, qn, qe .iadd 1, qe (.iconst 1) 1, qe .isub 1, qe (.iload 5) 2, qn, qe .isub 1, qf (.invokevirtual 205) 182 2 0],
  [qe .iastore 1, qe (.iinc 5 1) 3, qn, qn, qt (.goto (-36)) 3 16, qn, qn, qe (.aload_n 0) 1, qf (.getfield 44) 10 29 2, qn, qn, qe (.bipush 25) 2, qn, qe (.iload 4) 2, qn, qe .imul 1],
  [qe (.iload_n 1) 1, qe .iadd 1, qe (.aload_n 0) 1, qe (.iconst 0) 1, qe (.iload_n 1) 1, qe (.iload 4) 2, qn, qe .iadd 1, qf (.invokevirtual 205) 182 2 0, qn, qn, qe .iastore 1, qe (.iinc 4 1) 3, qn, qn, qt (.goto (-72)) 3 7],
  [qn, qn, qe (.iconst 0) 1, qe (.istore 4) 2, qn, qe (.aload_n 0) 1, qe (.bipush 40) 2, qn, qe (.bipush 24) 2, qn, qf (.invokevirtual 258) 193 2 0, qn, qn, qe (.iconst 0) 1, qe (.istore 5) 2],
  [qe (.iload 5) 2, qn, qe (.bipush 24) 2, qn, qt (.if_icmp .ge 17) 3 117, qn, qn, qe (.aload_n 0) 1, qf (.getfield 47) 10 30 2, qn, qn, qe (.iload 5) 2, qn, qe (.iconst (-1)) 1, qe .iastore 1, qe (.iinc 5 1) 3],
  [qn, qn, qt (.goto (-18)) 3 96, qn, qn, qe (.iconst 0) 1, qe (.istore 5) 2, qn, qe (.iload 5) 2, qn, qe (.iload_n 1) 1, qt (.if_icmp .ge 110) 3 233, qn, qn, qe (.iload 4) 2],
  [qe (.istore 6) 2, qn, qe (.iload 6) 2, qn, qe (.iload_n 3) 1, qt (.if_icmp .ge 20) 3 153, qn, qn, qe (.aload_n 0) 1, qe (.iload 6) 2, qn, qe (.iload 5) 2, qn, qf (.invokevirtual 404) 254 2 0],
  [qt (.ifCond .ne 9) 3 153, qn, qn, qe (.iinc 6 1) 3, qn, qn, qt (.goto (-20)) 3 130, qn, qn, qe (.iload 6) 2, qn, qe (.iload_n 3) 1, qt (.if_icmp .ne 6) 3 162, qn, qn, qt (.goto 68) 3 227],
  [qn, qn, qe (.aload_n 0) 1, qe (.iload 4) 2, qn, qe (.iload 6) 2, qn, qe (.iload_n 1) 1, qf (.invokevirtual 406) 256 3 0, qn, qn, qe (.iconst 0) 1, qe (.istore 7) 2, qn, qe (.iload 7) 2],
  [qe (.iload_n 3) 1, qt (.if_icmp .ge 38) 3 215, qn, qn, qe (.iload 7) 2, qn, qe (.iload 4) 2, qn, qt (.if_icmp .eq 25) 3 209, qn, qn, qe (.aload_n 0) 1, qe (.iload 7) 2, qn, qe (.iload 5) 2],
  [qf (.invokevirtual 404) 254 2 0, qn, qn, qt (.ifCond .eq 14) 3 209, qn, qn, qe (.aload_n 0) 1, qe (.iload 4) 2, qn, qe (.iload 7) 2, qn, qe (.iload 5) 2, qn, qe (.iload_n 1) 1, qf (.invokevirtual 409) 255 4 0],
  [qn, qe (.iinc 7 1) 3, qn, qn, qt (.goto (-38)) 3 174, qn, qn, qe (.aload_n 0) 1, qf (.getfield 47) 10 30 2, qn, qn, qe (.iload 5) 2, qn, qe (.iload 4) 2, qn, qe .iastore 1],
  [qe (.iinc 4 1) 3, qn, qn, qe (.iinc 5 1) 3, qn, qn, qt (.goto (-110)) 3 120, qn, qn, qe (.iload 4) 2, qn, qe (.istore 5) 2, qn, qe (.iload 5) 2, qn, qe (.iload_n 3) 1],
  [qt (.if_icmp .ge 21) 3 261, qn, qn, qe (.aload_n 0) 1, qe (.iload 5) 2, qn, qe (.iload_n 1) 1, qf (.invokevirtual 404) 254 2 0, qn, qn, qt (.ifCond .eq 5) 3 255, qn, qn, qe (.iconst 0) 1, some (.ireturn, 1, 0, 0, 3), qe (.iinc 5 1) 3],
  [qn, qn, qt (.goto (-21)) 3 237, qn, qn, qe (.iconst 0) 1, qe (.istore 5) 2, qn, qe (.iload 5) 2, qn, qe (.iload_n 1) 1, qt (.if_icmp .ge 64) 3 331, qn, qn, qe (.aload_n 0) 1, qf (.getfield 47) 10 30 2],
  [qn, qn, qe (.iload 5) 2, qn, qe .iaload 1, qe (.iconst (-1)) 1, qt (.if_icmp .eq 47) 3 325, qn, qn, qe (.aload_n 0) 1, qe (.bipush 40) 2, qn, qe (.iload 5) 2, qn, qe (.aload_n 0) 1, qe (.aload_n 0) 1],
  [qe (.aload_n 0) 1, qf (.getfield 47) 10 30 2, qn, qn, qe (.iload 5) 2, qn, qe .iaload 1, qe (.iload_n 1) 1, qf (.invokevirtual 404) 254 2 0, qn, qn, qe .i2l 1, qe (.aload_n 0) 1, qe (.aload_n 0) 1, qe (.aload_n 0) 1, qf (.getfield 47) 10 30 2],
  [qn, qn, qe (.iload 5) 2, qn, qe .iaload 1, qe (.iload 5) 2, qn, qf (.invokevirtual 404) 254 2 0, qn, qn, qf (.invokevirtual 230) 179 1 0, qn, qn, qe .i2l 1, qe .lmul 1, qf (.invokevirtual 226) 178 1 0],
  [qn, qn, qf (.invokevirtual 212) 183 3 0, qn, qn, qe (.iinc 5 1) 3, qn, qn, qt (.goto (-64)) 3 264, qn, qn, qe (.iconst 1) 1, some (.ireturn, 1, 0, 0, 3)]]
def qp258 : List (List (Option qE)) := [[qe (.aload_n 0) 1, qe (.iconst 0) 1, qt (.putfield 50) 3 10, qn, qn, qe (.aload_n 0) 1, qe (.iload_n 1) 1, qf (.invokevirtual 348) 215 1 0, qn, qn, qt (.ifCond .ne 5) 3 15, qn, qn, qe (.iconst (-1)) 1, qe .ireturn 1, qe (.aload_n 0) 1],
  [qe (.iload_n 1) 1, qe (.iconst 0) 1, qf (.invokevirtual 351) 225 2 0, qn, qn, qe (.aload_n 0) 1, qe (.iconst 0) 1, qf (.invokevirtual 202) 180 1 0, qn, qn, qe (.istore_n 3) 1, qe (.iconst 0) 1, qe (.istore 4) 2, qn, qe (.iconst 2) 1, qe (.iload 4) 2],
  [qn, qe .imul 1, qe (.iload_n 3) 1, qt (.if_icmp .gt 19) 3 54, qn, qn, qe (.aload_n 0) 1, qe (.iload 4) 2, qn, qe (.iload_n 3) 1, qf (.invokevirtual 412) 257 2 0, qn, qn, qt (.ifCond .ne 9) 3 54],
  [qe (.iinc 4 1) 3, qn, qn, qt (.goto (-21)) 3 30, qn, qn, qe (.iconst 2) 1, qe (.iload 4) 2, qn, qe .imul 1, qe (.iload_n 3) 1, qt (.if_icmp .le 5) 3 64, qn, qn, qe (.iconst (-1)) 1, qe .ireturn 1],
  [qe (.iload_n 2) 1, qt (.ifCond .ne 8) 3 73, qn, qn, qe (.iload 4) 2, qn, qt (.goto 28) 3 98, qn, qn, qe (.iload_n 2) 1, qe .i2l 1, qe (.lconst 1) 1, qe (.iload 4) 2, qn, qe .i2l 1, qf (.invokestatic 93) 147 3 1],
  [qn, qn, qt (.ifCond .eq 15) 3 97, qn, qn, qe (.aload_n 0) 1, qe (.bipush 40) 2, qn, qe (.iload_n 2) 1, qe (.iconst 1) 1, qe .isub 1, qf (.invokevirtual 205) 182 2 0, qn, qn, qt (.goto 4) 3 98],
  [qn, qe (.iconst (-1)) 1, qe .ireturn 1]]
def qp259 : List (List (Option qE)) := [[qe (.aload_n 0) 1, qe (.iconst 0) 1, qt (.putfield 50) 3 10, qn, qn, qe (.aload_n 0) 1, qe (.iload_n 1) 1, qf (.invokevirtual 348) 215 1 0, qn, qn, qt (.ifCond .ne 5) 3 15, qn, qn, qe (.iconst (-1)) 1, qe .ireturn 1, qe (.aload_n 0) 1],
  [qe (.iload_n 1) 1, qe (.iconst 0) 1, qf (.invokevirtual 351) 225 2 0, qn, qn, qe (.aload_n 0) 1, qe (.iconst 0) 1, qe (.bipush 40) 2, qn, qf (.invokevirtual 233) 184 2 0, qn, qn, qe (.aload_n 0) 1, qe (.iconst 0) 1, qf (.invokevirtual 202) 180 1 0],
  [qn, qe (.istore_n 2) 1, qe (.iconst 1) 1, qe (.istore_n 3) 1, qe (.iload_n 3) 1, qe (.bipush 99) 2, qn, qt (.if_icmp .gt 94) 3 133, qn, qn, qe (.aload_n 0) 1, qe (.bipush 40) 2, qn, qe (.iconst 0) 1, qf (.invokevirtual 205) 182 2 0],
  [qn, qe (.aload_n 0) 1, qe (.lconst 1) 1, qf (.invokevirtual 226) 178 1 0, qn, qn, qt (.if_icmp .ne 7) 3 61, qn, qn, qe (.iconst 1) 1, qt (.goto 4) 3 62, qn, qn, qe (.iconst 0) 1, qe (.istore 4) 2],
  [qe (.iconst 1) 1, qe (.istore 5) 2, qn, qe (.iload 5) 2, qn, qe (.iload_n 2) 1, qt (.if_icmp .ge 32) 3 102, qn, qn, qe (.iload 4) 2, qn, qt (.ifCond .eq 18) 3 93, qn, qn, qe (.aload_n 0) 1, qe (.bipush 40) 2],
  [qn, qe (.iload 5) 2, qn, qf (.invokevirtual 205) 182 2 0, qn, qn, qt (.ifCond .ne 7) 3 93, qn, qn, qe (.iconst 1) 1, qt (.goto 4) 3 94, qn, qn, qe (.iconst 0) 1, qe (.istore 4) 2],
  [qe (.iinc 5 1) 3, qn, qn, qt (.goto (-32)) 3 67, qn, qn, qe (.iload 4) 2, qn, qt (.ifCond .eq 5) 3 109, qn, qn, qe (.iload_n 3) 1, qe .ireturn 1, qe (.aload_n 0) 1, qe (.bipush 40) 2],
  [qe (.iconst 0) 1, qe (.bipush 41) 2, qn, qe (.iload_n 2) 1, qf (.invokevirtual 236) 192 4 0, qn, qn, qe (.aload_n 0) 1, qe (.bipush 41) 2, qn, qe (.bipush 40) 2, qn, qf (.invokevirtual 233) 184 2 0, qn, qn, qe (.iinc 3 1) 3],
  [qn, qn, qt (.goto (-94)) 3 36, qn, qn, qe (.iconst (-1)) 1, qe .ireturn 1]]
def qp260 : List (List (Option qE)) := [[qe (.aload_n 0) 1, qe (.iconst 0) 1, qt (.putfield 50) 3 10, qn, qn, qe (.aload_n 0) 1, qe (.iload_n 1) 1, qf (.invokevirtual 348) 215 1 0, qn, qn, qt (.ifCond .eq 24) 3 34, qn, qn, qe (.iload_n 2) 1, qe .i2l 1, qe (.lconst 0) 1],
  [qe (.aload_n 0) 1, qf (.getfield 26) 10 17 2, qn, qn, qe (.bipush 25) 2, qn, qe (.iload_n 1) 1, qe .imul 1, qe .iaload 1, qe (.iconst 1) 1, qe .isub 1, qe .i2l 1, qf (.invokestatic 93) 147 3 1, qn, qn, qt (.ifCond .ne 5) 3 36],
  [qn, qn, qe (.iconst (-1)) 1, qe .ireturn 1, qe (.iconst 0) 1, qe (.istore_n 3) 1, qe (.iconst 0) 1, qe (.istore 4) 2, qn, qe (.iload 4) 2, qn, qe (.iload_n 2) 1, qt (.if_icmp .gt 31) 3 75, qn, qn, qe (.aload_n 0) 1],
  [qe (.iload_n 3) 1, qe (.aload_n 0) 1, qf (.getfield 26) 10 17 2, qn, qn, qe (.bipush 25) 2, qn, qe (.iload_n 1) 1, qe .imul 1, qe (.iconst 1) 1, qe .iadd 1, qe (.iload 4) 2, qn, qe .iadd 1, qe .iaload 1, qe .iadd 1],
  [qe .i2l 1, qf (.invokevirtual 226) 178 1 0, qn, qn, qe (.istore_n 3) 1, qe (.iinc 4 1) 3, qn, qn, qt (.goto (-31)) 3 41, qn, qn, qe (.iload_n 3) 1, qe .ireturn 1]]
def qp261 : List (List (Option qE)) := [[qe (.iconst (-1)) 1, qe (.istore_n 2) 1, qe (.iconst 0) 1, qe (.istore_n 3) 1, qe (.iconst 0) 1, qe (.istore 4) 2, qn, qe (.iload 4) 2, qn, qe (.bipush 8) 2, qn, qt (.if_icmp .ge 67) 3 78, qn, qn, qe (.aload_n 0) 1, qe (.iload 4) 2],
  [qn, qf (.invokevirtual 348) 215 1 0, qn, qn, qt (.ifCond .ne 6) 3 26, qn, qn, qt (.goto 49) 3 72, qn, qn, qe (.aload_n 0) 1, qe (.iload 4) 2, qn, qe (.iconst 0) 1, qf (.invokevirtual 351) 225 2 0],
  [qn, qe (.iload_n 1) 1, qt (.ifCond .eq 11) 3 45, qn, qn, qe (.aload_n 0) 1, qe (.iconst 0) 1, qf (.invokevirtual 202) 180 1 0, qn, qn, qt (.goto 8) 3 50, qn, qn, qe (.aload_n 0) 1, qe (.iconst 0) 1, qf (.invokevirtual 216) 185 1 0],
  [qn, qn, qe (.istore 5) 2, qn, qe (.iload_n 2) 1, qe (.iconst (-1)) 1, qt (.if_icmp .eq 12) 3 66, qn, qn, qe (.iload 5) 2, qn, qe (.iload_n 3) 1, qt (.if_icmp .gt 6) 3 66, qn, qn, qt (.goto 9) 3 72],
  [qn, qn, qe (.iload 4) 2, qn, qe (.istore_n 2) 1, qe (.iload 5) 2, qn, qe (.istore_n 3) 1, qe (.iinc 4 1) 3, qn, qn, qt (.goto (-68)) 3 7, qn, qn, qe (.iload_n 2) 1, qe .ireturn 1]]
def qp262 : List (List (Option qE)) := [[qe (.iconst 0) 1, qe (.istore_n 2) 1, qe (.iconst 0) 1, qe (.istore_n 3) 1, qe (.iload_n 3) 1, qe (.bipush 8) 2, qn, qt (.if_icmp .ge 61) 3 68, qn, qn, qe (.iconst 0) 1, qe (.istore 4) 2, qn, qe (.iload 4) 2, qn, qe (.aload_n 0) 1],
  [qf (.getfield 26) 10 17 2, qn, qn, qe (.bipush 25) 2, qn, qe (.iload_n 3) 1, qe .imul 1, qe .iaload 1, qt (.if_icmp .ge 38) 3 62, qn, qn, qe (.iload_n 2) 1, qe (.iload_n 1) 1, qt (.ifCond .eq 20) 3 49],
  [qe (.aload_n 0) 1, qf (.getfield 26) 10 17 2, qn, qn, qe (.bipush 25) 2, qn, qe (.iload_n 3) 1, qe .imul 1, qe (.iconst 1) 1, qe .iadd 1, qe (.iload 4) 2, qn, qe .iadd 1, qe .iaload 1, qt (.ifCond .eq 7) 3 53],
  [qn, qe (.iconst 1) 1, qt (.goto 4) 3 54, qn, qn, qe (.iconst 0) 1, qe .iadd 1, qe (.istore_n 2) 1, qe (.iinc 4 1) 3, qn, qn, qt (.goto (-46)) 3 13, qn, qn, qe (.iinc 3 1) 3],
  [qn, qt (.goto (-61)) 3 4, qn, qn, qe (.iload_n 2) 1, qe .ireturn 1]]
def qp263 : List (List (Option qE)) := [[qe (.iconst 0) 1, qe (.istore_n 1) 1, qe (.iconst 0) 1, qe (.istore_n 2) 1, qe (.iload_n 2) 1, qe (.bipush 8) 2, qn, qt (.if_icmp .ge 65) 3 72, qn, qn, qe (.iconst 0) 1, qe (.istore_n 3) 1, qe (.iload_n 3) 1, qe (.aload_n 0) 1, qf (.getfield 26) 10 17 2],
  [qn, qe (.bipush 25) 2, qn, qe (.iload_n 2) 1, qe .imul 1, qe .iaload 1, qt (.if_icmp .ge 44) 3 66, qn, qn, qe (.aload_n 0) 1, qf (.getfield 26) 10 17 2, qn, qn, qe (.bipush 25) 2, qn, qe (.iload_n 2) 1],
  [qe .imul 1, qe (.iconst 1) 1, qe .iadd 1, qe (.iload_n 3) 1, qe .iadd 1, qe .iaload 1, qe (.iload_n 1) 1, qt (.if_icmp .le 19) 3 58, qn, qn, qe (.aload_n 0) 1, qf (.getfield 26) 10 17 2, qn, qn, qe (.bipush 25) 2],
  [qe (.iload_n 2) 1, qe .imul 1, qe (.iconst 1) 1, qe .iadd 1, qe (.iload_n 3) 1, qe .iadd 1, qe .iaload 1, qt (.goto 4) 3 59, qn, qn, qe (.iload_n 1) 1, qe (.istore_n 1) 1, qe (.iinc 3 1) 3, qn, qn, qt (.goto (-51)) 3 12],
  [qn, qn, qe (.iinc 2 1) 3, qn, qn, qt (.goto (-65)) 3 4, qn, qn, qe (.iload_n 1) 1, qe .ireturn 1]]
def qp264 : List (List (Option qE)) := [[qe (.iconst 0) 1, qe (.istore_n 2) 1, qe (.iconst 0) 1, qe (.istore_n 3) 1, qe (.iload_n 3) 1, qe (.bipush 8) 2, qn, qt (.if_icmp .ge 45) 3 52, qn, qn, qe (.iload_n 2) 1, qe (.aload_n 0) 1, qe (.iload_n 3) 1, qf (.invokevirtual 348) 215 1 0],
  [qt (.ifCond .eq 27) 3 43, qn, qn, qe (.iload_n 1) 1, qt (.ifCond .eq 17) 3 37, qn, qn, qe (.aload_n 0) 1, qf (.getfield 26) 10 17 2, qn, qn, qe (.bipush 25) 2, qn, qe (.iload_n 3) 1, qe .imul 1, qe (.iconst 1) 1],
  [qe .iadd 1, qe .iaload 1, qt (.ifCond .ne 9) 3 43, qn, qn, qe (.iconst 1) 1, qe (.iload_n 3) 1, qe .ishl 1, qt (.goto 4) 3 44, qn, qn, qe (.iconst 0) 1, qe .ior 1, qe (.istore_n 2) 1, qe (.iinc 3 1) 3],
  [qn, qt (.goto (-45)) 3 4, qn, qn, qe (.iload_n 2) 1, qe .ireturn 1]]
def qp265 : List (List (Option qE)) := [[qe (.aload_n 0) 1, qe (.iconst 0) 1, qt (.putfield 50) 3 10, qn, qn, qe (.aload_n 0) 1, qf (.getfield 189) 10 7 0, qn, qn, qt (.ifCond .ne 7) 3 16, qn, qn, qt (.ldc_w 347) 3 4293967296, qn, qn, qe .ireturn 1],
  [qe (.iload_n 1) 1, qe (.tableswitch 84 0 6 #[43, 49, 55, 61, 67, 73, 78]) 43],
  [],
  [qn, qn, qn, qn, qn, qn, qn, qn, qn, qn, qn, qn, qe (.aload_n 0) 1, qe (.iconst 0) 1, qf (.invokevirtual 414) 264 1 0],
  [qn, qe .ireturn 1, qe (.aload_n 0) 1, qe (.iconst 1) 1, qf (.invokevirtual 418) 261 1 0, qn, qn, qe .ireturn 1, qe (.aload_n 0) 1, qe (.iconst 0) 1, qf (.invokevirtual 418) 261 1 0, qn, qn, qe .ireturn 1, qe (.aload_n 0) 1, qe (.iconst 0) 1],
  [qf (.invokevirtual 421) 262 1 0, qn, qn, qe .ireturn 1, qe (.aload_n 0) 1, qe (.iconst 1) 1, qf (.invokevirtual 421) 262 1 0, qn, qn, qe .ireturn 1, qe (.aload_n 0) 1, qt (.invokevirtual 424) 3 263, qn, qn, qe .ireturn 1, qe (.aload_n 0) 1],
  [qe (.iconst 1) 1, qf (.invokevirtual 414) 264 1 0, qn, qn, qe .ireturn 1, qt (.ldc_w 347) 3 4293967296, qn, qn, qe .ireturn 1]]
def qp266 : List (List (Option qE)) := [[qe (.aload_n 0) 1, qe (.iconst 0) 1, qt (.putfield 50) 3 10, qn, qn, qe (.iload_n 1) 1, qe (.tableswitch 74 0 4 #[34, 50, 55, 60, 69]) 34],
  [],
  [qn, qn, qn, qn, qn, qn, qn, qn, qe (.aload_n 0) 1, qf (.getfield 189) 10 7 0, qn, qn, qt (.ifCond .ne 7) 3 51, qn, qn, qe (.iconst 0) 1],
  [qt (.goto 7) 3 55, qn, qn, qe (.aload_n 0) 1, qt (.invokevirtual 379) 3 237, qn, qn, qe .ireturn 1, qe (.aload_n 0) 1, qf (.getfield 181) 10 13 0, qn, qn, qe .ireturn 1, qe (.aload_n 0) 1, qf (.getfield 54) 10 2 0],
  [qn, qe .ireturn 1, qe (.aload_n 0) 1, qf (.getfield 26) 10 17 2, qn, qn, qe (.sipush 200) 3, qn, qn, qe .iaload 1, qe .ireturn 1, qe (.aload_n 0) 1, qf (.getfield 195) 10 22 0, qn, qn, qe .ireturn 1],
  [qt (.ldc_w 347) 3 4293967296, qn, qn, qe .ireturn 1]]
def qp267 : List (List (Option qE)) := [[qe (.iload_n 0) 1, qe (.iload_n 0) 1, qe (.iconst 1) 1, qe .iushr 1, qt (.ldc_w 265) 3 1431655765, qn, qn, qe .iand 1, qe .isub 1, qe (.istore_n 0) 1, qe (.iload_n 0) 1, qt (.ldc_w 266) 3 858993459, qn, qn, qe .iand 1, qe (.iload_n 0) 1],
  [qe (.iconst 2) 1, qe .iushr 1, qt (.ldc_w 266) 3 858993459, qn, qn, qe .iand 1, qe .iadd 1, qe (.istore_n 0) 1, qe (.iload_n 0) 1, qe (.iload_n 0) 1, qe (.iconst 4) 1, qe .iushr 1, qe .iadd 1, qt (.ldc_w 267) 3 252645135],
  [qe .iand 1, qe (.istore_n 0) 1, qe (.iload_n 0) 1, qe (.iload_n 0) 1, qe (.bipush 8) 2, qn, qe .iushr 1, qe .iadd 1, qe (.istore_n 0) 1, qe (.iload_n 0) 1, qe (.iload_n 0) 1, qe (.bipush 16) 2, qn, qe .iushr 1, qe .iadd 1, qe (.istore_n 0) 1],
  [qe (.iload_n 0) 1, qe (.bipush 63) 2, qn, qe .iand 1, qe .ireturn 1]]
def qp268 : List (List (Option qE)) := [[qe (.iconst 0) 1, qe (.istore_n 2) 1, qe (.aload_n 0) 1, qe .arraylength 1, qe (.istore_n 3) 1, qe (.iload_n 2) 1, qe (.iload_n 3) 1, qt (.if_icmp .ge 13) 3 20, qn, qn, qe (.aload_n 0) 1, qe (.iload_n 2) 1, qe (.iload_n 1) 1, qe .iastore 1, qe (.iinc 2 1) 3],
  [qn, qt (.goto (-12)) 3 5, qn, qn, qe .return_ 1]]
def qp269 : List (List (Option qE)) := [[qe (.aload_n 3) 1, qe (.iconst 0) 1, qe (.aload_n 0) 1, qe (.iload_n 1) 1, qe (.iload_n 2) 1, qf (.invokevirtual 7) 108 2 0, qn, qn, qe .i2l 1, qe .lastore 1, qt (.goto 7) 3 17, qn, qn, qe (.astore 4) 2, qn, qe (.iconst 1) 1],
  [qe .ireturn 1, qe (.iconst 0) 1, qe .ireturn 1]]
def qp270 : List (List (Option qE)) := [[qf (.new 8) 9 18 0, qn, qn, qe .dup 1, qf (.invokespecial 15) 98 0 2, qn, qn, qe (.astore_n 1) 1, qf (.new 16) 10 31 0, qn, qn, qe .dup 1, qf (.invokespecial 18) 145 0 2, qn, qn, qe (.astore_n 2) 1],
  [qe (.iconst 1) 1, qe (.newarray .long) 2, qn, qe (.astore_n 3) 1, qe (.iconst 0) 1, qe (.istore 4) 2, qn, qe (.iload 4) 2, qn, qe (.aload_n 0) 1, qe .arraylength 1, qe (.bipush 7) 2, qn, qe .isub 1, qt (.if_icmp .gt 1306) 3 1336],
  [qn, qe (.aload_n 0) 1, qe (.iload 4) 2, qn, qe .iaload 1, qe (.bipush 63) 2, qn, qe .iand 1, qe (.tableswitch 1290 0 32 #[148, 221, 246, 271, 296, 321, 334, 359, 372, 397, 465, 490, 527, 552, 589, 614, 683, 708, 721, 758, 795, 832, 881, 968, 1041, 1078, 1103, 1140, 1177, 1214, 1239, 1252, 1265]) 148],
  [],
  [],
  [],
  [],
  [],
  [],
  [],
  [],
  [qn, qn, qn, qn, qn, qn, qn, qn, qn, qn, qn, qn, qe (.aload_n 1) 1, qe (.aload_n 0) 1, qe (.iload 4) 2],
  [qe (.iconst 1) 1, qe .iadd 1, qe .iaload 1, qe (.aload_n 0) 1, qe (.iload 4) 2, qn, qe (.iconst 2) 1, qe .iadd 1, qe .iaload 1, qe (.aload_n 0) 1, qe (.iload 4) 2, qn, qe (.iconst 3) 1, qe .iadd 1, qe .iaload 1, qe (.aload_n 0) 1],
  [qe (.iload 4) 2, qn, qe (.iconst 4) 1, qe .iadd 1, qe .iaload 1, qe (.aload_n 0) 1, qe (.iload 4) 2, qn, qe (.iconst 5) 1, qe .iadd 1, qe .iaload 1, qf (.invokevirtual 19) 99 5 0, qn, qn, qe (.aload_n 2) 1, qe (.aload_n 0) 1],
  [qe (.iload 4) 2, qn, qe (.iconst 1) 1, qe .iadd 1, qe .iaload 1, qe (.aload_n 0) 1, qe (.iload 4) 2, qn, qe (.iconst 2) 1, qe .iadd 1, qe .iaload 1, qe (.aload_n 0) 1, qe (.iload 4) 2, qn, qe (.iconst 3) 1, qe .iadd 1],
  [qe .iaload 1, qe (.aload_n 0) 1, qe (.iload 4) 2, qn, qe (.iconst 4) 1, qe .iadd 1, qe .iaload 1, qe (.aload_n 0) 1, qe (.iload 4) 2, qn, qe (.iconst 5) 1, qe .iadd 1, qe .iaload 1, qf (.invokevirtual 23) 151 5 0],
  [qt (.if_icmp .eq 1074) 3 1330, qn, qn, qe (.iconst 0) 1, some (.ireturn, 1, 0, 0, 3), qe (.aload_n 1) 1, qe (.aload_n 0) 1, qe (.iload 4) 2, qn, qe (.iconst 1) 1, qe .iadd 1, qe .iaload 1, qf (.invokevirtual 24) 100 1 0, qn, qn, qe (.aload_n 2) 1],
  [qe (.aload_n 0) 1, qe (.iload 4) 2, qn, qe (.iconst 1) 1, qe .iadd 1, qe .iaload 1, qf (.invokevirtual 28) 152 1 0, qn, qn, qt (.if_icmp .eq 1049) 3 1330, qn, qn, qe (.iconst 0) 1, some (.ireturn, 1, 0, 0, 3), qe (.aload_n 1) 1, qe (.aload_n 0) 1],
  [qe (.iload 4) 2, qn, qe (.iconst 1) 1, qe .iadd 1, qe .iaload 1, qf (.invokevirtual 29) 101 1 0, qn, qn, qe (.aload_n 2) 1, qe (.aload_n 0) 1, qe (.iload 4) 2, qn, qe (.iconst 1) 1, qe .iadd 1, qe .iaload 1, qf (.invokevirtual 33) 174 1 0],
  [qn, qn, qt (.if_icmp .eq 1024) 3 1330, qn, qn, qe (.iconst 0) 1, some (.ireturn, 1, 0, 0, 3), qe (.aload_n 1) 1, qe (.aload_n 0) 1, qe (.iload 4) 2, qn, qe (.iconst 1) 1, qe .iadd 1, qe .iaload 1, qf (.invokevirtual 34) 102 1 0],
  [qn, qe (.aload_n 2) 1, qe (.aload_n 0) 1, qe (.iload 4) 2, qn, qe (.iconst 1) 1, qe .iadd 1, qe .iaload 1, qf (.invokevirtual 37) 176 1 0, qn, qn, qt (.if_icmp .eq 999) 3 1330, qn, qn, qe (.iconst 0) 1, some (.ireturn, 1, 0, 0, 3)],
  [qe (.aload_n 1) 1, qe (.aload_n 0) 1, qe (.iload 4) 2, qn, qe (.iconst 1) 1, qe .iadd 1, qe .iaload 1, qf (.invokevirtual 38) 103 1 0, qn, qn, qe (.aload_n 2) 1, qe (.aload_n 0) 1, qe (.iload 4) 2, qn, qe (.iconst 1) 1, qe .iadd 1],
  [qe .iaload 1, qf (.invokevirtual 41) 222 1 0, qn, qn, qt (.if_icmp .eq 974) 3 1330, qn, qn, qe (.iconst 0) 1, some (.ireturn, 1, 0, 0, 3), qe (.aload_n 1) 1, qt (.invokevirtual 42) 3 104, qn, qn, qe (.aload_n 2) 1, qt (.invokevirtual 46) 3 219],
  [qn, qt (.if_icmp .eq 961) 3 1330, qn, qn, qe (.iconst 0) 1, some (.ireturn, 1, 0, 0, 3), qe (.aload_n 1) 1, qe (.aload_n 0) 1, qe (.iload 4) 2, qn, qe (.iconst 1) 1, qe .iadd 1, qe .iaload 1, qf (.invokevirtual 47) 105 1 0],
  [qe (.aload_n 2) 1, qe (.aload_n 0) 1, qe (.iload 4) 2, qn, qe (.iconst 1) 1, qe .iadd 1, qe .iaload 1, qf (.invokevirtual 50) 220 1 0, qn, qn, qt (.if_icmp .eq 936) 3 1330, qn, qn, qe (.iconst 0) 1, some (.ireturn, 1, 0, 0, 3), qe (.aload_n 1) 1],
  [qt (.invokevirtual 51) 3 106, qn, qn, qe (.aload_n 2) 1, qt (.invokevirtual 54) 3 221, qn, qn, qt (.if_icmp .eq 923) 3 1330, qn, qn, qe (.iconst 0) 1, some (.ireturn, 1, 0, 0, 3), qe (.aload_n 1) 1, qe (.aload_n 0) 1, qe (.iload 4) 2],
  [qe (.iconst 1) 1, qe .iadd 1, qe .iaload 1, qf (.invokevirtual 55) 107 1 0, qn, qn, qe (.aload_n 2) 1, qe (.aload_n 0) 1, qe (.iload 4) 2, qn, qe (.iconst 1) 1, qe .iadd 1, qe .iaload 1, qf (.invokevirtual 58) 223 1 0],
  [qt (.if_icmp .eq 898) 3 1330, qn, qn, qe (.iconst 0) 1, some (.ireturn, 1, 0, 0, 3), qe (.aload_n 1) 1, qe (.aload_n 0) 1, qe (.iload 4) 2, qn, qe (.iconst 1) 1, qe .iadd 1, qe .iaload 1, qe (.aload_n 0) 1, qe (.iload 4) 2, qn, qe (.iconst 2) 1],
  [qe .iadd 1, qe .iaload 1, qe (.aload_n 3) 1, qf (.invokestatic 59) 269 4 1, qn, qn, qe (.istore 5) 2, qn, qe (.aload_n 2) 1, qe (.aload_n 0) 1, qe (.iload 4) 2, qn, qe (.iconst 1) 1, qe .iadd 1, qe .iaload 1, qe (.aload_n 0) 1],
  [qe (.iload 4) 2, qn, qe (.iconst 2) 1, qe .iadd 1, qe .iaload 1, qf (.invokevirtual 64) 224 2 0, qn, qn, qe (.istore 6) 2, qn, qe (.aload_n 2) 1, qt (.invokevirtual 65) 3 146, qn, qn, qe (.iload 5) 2],
  [qt (.if_icmp .eq 5) 3 485, qn, qn, qe (.iconst 0) 1, some (.ireturn, 1, 0, 0, 3), qe (.iload 5) 2, qn, qt (.ifCond .ne 15) 3 502, qn, qn, qe (.aload_n 3) 1, qe (.iconst 0) 1, qe .laload 1, qe (.iload 6) 2, qn, qe .i2l 1],
  [qe .lcmp 1, qt (.ifCond .eq 5) 3 502, qn, qn, qe (.iconst 0) 1, some (.ireturn, 1, 0, 0, 3), qt (.goto 828) 3 1330, qn, qn, qe (.aload_n 1) 1, qe (.aload_n 0) 1, qe (.iload 4) 2, qn, qe (.iconst 1) 1, qe .iadd 1, qe .iaload 1],
  [qf (.invokevirtual 68) 109 1 0, qn, qn, qe (.aload_n 2) 1, qe (.aload_n 0) 1, qe (.iload 4) 2, qn, qe (.iconst 1) 1, qe .iadd 1, qe .iaload 1, qf (.invokevirtual 71) 226 1 0, qn, qn, qt (.if_icmp .eq 805) 3 1330],
  [qe (.iconst 0) 1, some (.ireturn, 1, 0, 0, 3), qe (.aload_n 1) 1, qe (.aload_n 0) 1, qe (.iload 4) 2, qn, qe (.iconst 1) 1, qe .iadd 1, qe .iaload 1, qe (.aload_n 0) 1, qe (.iload 4) 2, qn, qe (.iconst 2) 1, qe .iadd 1, qe .iaload 1, qf (.invokevirtual 72) 110 2 0],
  [qn, qn, qe (.aload_n 2) 1, qe (.aload_n 0) 1, qe (.iload 4) 2, qn, qe (.iconst 1) 1, qe .iadd 1, qe .iaload 1, qe (.aload_n 0) 1, qe (.iload 4) 2, qn, qe (.iconst 2) 1, qe .iadd 1, qe .iaload 1, qf (.invokevirtual 75) 227 2 0],
  [qn, qn, qt (.if_icmp .eq 768) 3 1330, qn, qn, qe (.iconst 0) 1, some (.ireturn, 1, 0, 0, 3), qe (.aload_n 1) 1, qe (.aload_n 0) 1, qe (.iload 4) 2, qn, qe (.iconst 1) 1, qe .iadd 1, qe .iaload 1, qf (.invokevirtual 76) 111 1 0],
  [qn, qe (.aload_n 2) 1, qe (.aload_n 0) 1, qe (.iload 4) 2, qn, qe (.iconst 1) 1, qe .iadd 1, qe .iaload 1, qf (.invokevirtual 79) 228 1 0, qn, qn, qt (.if_icmp .eq 743) 3 1330, qn, qn, qe (.iconst 0) 1, some (.ireturn, 1, 0, 0, 3)],
  [qe (.aload_n 1) 1, qe (.aload_n 0) 1, qe (.iload 4) 2, qn, qe (.iconst 1) 1, qe .iadd 1, qe .iaload 1, qe (.aload_n 0) 1, qe (.iload 4) 2, qn, qe (.iconst 2) 1, qe .iadd 1, qe .iaload 1, qf (.invokevirtual 80) 112 2 0],
  [qe (.aload_n 2) 1, qe (.aload_n 0) 1, qe (.iload 4) 2, qn, qe (.iconst 1) 1, qe .iadd 1, qe .iaload 1, qe (.aload_n 0) 1, qe (.iload 4) 2, qn, qe (.iconst 2) 1, qe .iadd 1, qe .iaload 1, qf (.invokevirtual 83) 229 2 0],
  [qt (.if_icmp .eq 706) 3 1330, qn, qn, qe (.iconst 0) 1, some (.ireturn, 1, 0, 0, 3), qe (.aload_n 1) 1, qe (.aload_n 0) 1, qe (.iload 4) 2, qn, qe (.iconst 1) 1, qe .iadd 1, qe .iaload 1, qf (.invokevirtual 84) 113 1 0, qn, qn, qe (.aload_n 2) 1],
  [qe (.aload_n 0) 1, qe (.iload 4) 2, qn, qe (.iconst 1) 1, qe .iadd 1, qe .iaload 1, qf (.invokevirtual 87) 232 1 0, qn, qn, qt (.if_icmp .eq 681) 3 1330, qn, qn, qe (.iconst 0) 1, some (.ireturn, 1, 0, 0, 3), qe (.aload_n 1) 1, qe (.aload_n 0) 1],
  [qe (.iload 4) 2, qn, qe (.iconst 1) 1, qe .iadd 1, qe .iaload 1, qe (.aload_n 0) 1, qe (.iload 4) 2, qn, qe (.iconst 2) 1, qe .iadd 1, qe .iaload 1, qe .i2l 1, qe (.bipush 32) 2, qn, qe .lshl 1, qe (.aload_n 0) 1],
  [qe (.iload 4) 2, qn, qe (.iconst 3) 1, qe .iadd 1, qe .iaload 1, qe .i2l 1, qt (.ldc2_w 88) 3 4294967295, qn, qn, qe .land 1, qe .lor 1, qf (.invokevirtual 90) 114 2 0, qn, qn, qe (.aload_n 2) 1, qe (.aload_n 0) 1],
  [qe (.iload 4) 2, qn, qe (.iconst 1) 1, qe .iadd 1, qe .iaload 1, qe (.aload_n 0) 1, qe (.iload 4) 2, qn, qe (.iconst 2) 1, qe .iadd 1, qe .iaload 1, qe .i2l 1, qe (.bipush 32) 2, qn, qe .lshl 1, qe (.aload_n 0) 1],
  [qe (.iload 4) 2, qn, qe (.iconst 3) 1, qe .iadd 1, qe .iaload 1, qe .i2l 1, qt (.ldc2_w 88) 3 4294967295, qn, qn, qe .land 1, qe .lor 1, qf (.invokevirtual 94) 238 2 0, qn, qn, qt (.if_icmp .eq 612) 3 1330],
  [qn, qe (.iconst 0) 1, some (.ireturn, 1, 0, 0, 3), qe (.aload_n 1) 1, qe (.aload_n 0) 1, qe (.iload 4) 2, qn, qe (.iconst 1) 1, qe .iadd 1, qe .iaload 1, qf (.invokevirtual 95) 115 1 0, qn, qn, qe (.aload_n 2) 1, qe (.aload_n 0) 1, qe (.iload 4) 2],
  [qn, qe (.iconst 1) 1, qe .iadd 1, qe .iaload 1, qf (.invokevirtual 98) 239 1 0, qn, qn, qt (.if_icmp .eq 587) 3 1330, qn, qn, qe (.iconst 0) 1, some (.ireturn, 1, 0, 0, 3), qe (.aload_n 1) 1, qt (.invokevirtual 99) 3 116],
  [qe (.aload_n 2) 1, qt (.invokevirtual 102) 3 240, qn, qn, qt (.if_icmp .eq 574) 3 1330, qn, qn, qe (.iconst 0) 1, some (.ireturn, 1, 0, 0, 3), qe (.aload_n 1) 1, qe (.aload_n 0) 1, qe (.iload 4) 2, qn, qe (.iconst 1) 1, qe .iadd 1, qe .iaload 1],
  [qe (.aload_n 0) 1, qe (.iload 4) 2, qn, qe (.iconst 2) 1, qe .iadd 1, qe .iaload 1, qf (.invokevirtual 103) 117 2 0, qn, qn, qe (.aload_n 2) 1, qe (.aload_n 0) 1, qe (.iload 4) 2, qn, qe (.iconst 1) 1, qe .iadd 1, qe .iaload 1],
  [qe (.aload_n 0) 1, qe (.iload 4) 2, qn, qe (.iconst 2) 1, qe .iadd 1, qe .iaload 1, qf (.invokevirtual 106) 241 2 0, qn, qn, qt (.if_icmp .eq 537) 3 1330, qn, qn, qe (.iconst 0) 1, some (.ireturn, 1, 0, 0, 3), qe (.aload_n 1) 1, qe (.aload_n 0) 1],
  [qe (.iload 4) 2, qn, qe (.iconst 1) 1, qe .iadd 1, qe .iaload 1, qe (.aload_n 0) 1, qe (.iload 4) 2, qn, qe (.iconst 2) 1, qe .iadd 1, qe .iaload 1, qf (.invokevirtual 107) 118 2 0, qn, qn, qe (.aload_n 2) 1, qe (.aload_n 0) 1],
  [qe (.iload 4) 2, qn, qe (.iconst 1) 1, qe .iadd 1, qe .iaload 1, qe (.aload_n 0) 1, qe (.iload 4) 2, qn, qe (.iconst 2) 1, qe .iadd 1, qe .iaload 1, qf (.invokevirtual 110) 244 2 0, qn, qn, qt (.if_icmp .eq 500) 3 1330],
  [qn, qe (.iconst 0) 1, some (.ireturn, 1, 0, 0, 3), qe (.aload_n 1) 1, qe (.aload_n 0) 1, qe (.iload 4) 2, qn, qe (.iconst 1) 1, qe .iadd 1, qe .iaload 1, qe (.aload_n 0) 1, qe (.iload 4) 2, qn, qe (.iconst 2) 1, qe .iadd 1, qe .iaload 1],
  [qf (.invokevirtual 111) 119 2 0, qn, qn, qe (.aload_n 2) 1, qe (.aload_n 0) 1, qe (.iload 4) 2, qn, qe (.iconst 1) 1, qe .iadd 1, qe .iaload 1, qe (.aload_n 0) 1, qe (.iload 4) 2, qn, qe (.iconst 2) 1, qe .iadd 1, qe .iaload 1],
  [qf (.invokevirtual 114) 245 2 0, qn, qn, qt (.if_icmp .eq 463) 3 1330, qn, qn, qe (.iconst 0) 1, some (.ireturn, 1, 0, 0, 3), qe (.aload_n 1) 1, qe (.aload_n 0) 1, qe (.iload 4) 2, qn, qe (.iconst 1) 1, qe .iadd 1, qe .iaload 1, qe (.aload_n 0) 1],
  [qe (.iload 4) 2, qn, qe (.iconst 2) 1, qe .iadd 1, qe .iaload 1, qe (.aload_n 0) 1, qe (.iload 4) 2, qn, qe (.iconst 3) 1, qe .iadd 1, qe .iaload 1, qf (.invokevirtual 115) 120 3 0, qn, qn, qe (.aload_n 2) 1, qe (.aload_n 0) 1],
  [qe (.iload 4) 2, qn, qe (.iconst 1) 1, qe .iadd 1, qe .iaload 1, qe (.aload_n 0) 1, qe (.iload 4) 2, qn, qe (.iconst 2) 1, qe .iadd 1, qe .iaload 1, qe (.aload_n 0) 1, qe (.iload 4) 2, qn, qe (.iconst 3) 1, qe .iadd 1],
  [qe .iaload 1, qf (.invokevirtual 119) 246 3 0, qn, qn, qt (.if_icmp .eq 414) 3 1330, qn, qn, qe (.iconst 0) 1, some (.ireturn, 1, 0, 0, 3), qe (.aload_n 1) 1, qe (.aload_n 0) 1, qe (.iload 4) 2, qn, qe (.iconst 1) 1, qe .iadd 1, qe .iaload 1],
  [qe (.aload_n 0) 1, qe (.iload 4) 2, qn, qe (.iconst 2) 1, qe .iadd 1, qe .iaload 1, qe (.aload_n 0) 1, qe (.iload 4) 2, qn, qe (.iconst 3) 1, qe .iadd 1, qe .iaload 1, qe (.aload_n 0) 1, qe (.iload 4) 2, qn, qe (.iconst 4) 1],
  [qe .iadd 1, qe .iaload 1, qe (.aload_n 0) 1, qe (.iload 4) 2, qn, qe (.iconst 5) 1, qe .iadd 1, qe .iaload 1, qe (.aload_n 0) 1, qe (.iload 4) 2, qn, qe (.bipush 6) 2, qn, qe .iadd 1, qe .iaload 1, qf (.invokevirtual 120) 121 6 0],
  [qn, qn, qe (.aload_n 2) 1, qe (.aload_n 0) 1, qe (.iload 4) 2, qn, qe (.iconst 1) 1, qe .iadd 1, qe .iaload 1, qe (.aload_n 0) 1, qe (.iload 4) 2, qn, qe (.iconst 2) 1, qe .iadd 1, qe .iaload 1, qe (.aload_n 0) 1],
  [qe (.iload 4) 2, qn, qe (.iconst 3) 1, qe .iadd 1, qe .iaload 1, qe (.aload_n 0) 1, qe (.iload 4) 2, qn, qe (.iconst 4) 1, qe .iadd 1, qe .iaload 1, qe (.aload_n 0) 1, qe (.iload 4) 2, qn, qe (.iconst 5) 1, qe .iadd 1],
  [qe .iaload 1, qe (.aload_n 0) 1, qe (.iload 4) 2, qn, qe (.bipush 6) 2, qn, qe .iadd 1, qe .iaload 1, qf (.invokevirtual 124) 252 6 0, qn, qn, qt (.if_icmp .eq 327) 3 1330, qn, qn, qe (.iconst 0) 1, some (.ireturn, 1, 0, 0, 3)],
  [qe (.aload_n 1) 1, qe (.aload_n 0) 1, qe (.iload 4) 2, qn, qe (.iconst 1) 1, qe .iadd 1, qe .iaload 1, qe (.aload_n 0) 1, qe (.iload 4) 2, qn, qe (.iconst 2) 1, qe .iadd 1, qe .iaload 1, qe (.aload_n 0) 1, qe (.iload 4) 2],
  [qe (.iconst 3) 1, qe .iadd 1, qe .iaload 1, qe (.aload_n 0) 1, qe (.iload 4) 2, qn, qe (.iconst 4) 1, qe .iadd 1, qe .iaload 1, qe (.aload_n 0) 1, qe (.iload 4) 2, qn, qe (.iconst 5) 1, qe .iadd 1, qe .iaload 1, qf (.invokevirtual 125) 122 5 0],
  [qn, qn, qe (.aload_n 2) 1, qe (.aload_n 0) 1, qe (.iload 4) 2, qn, qe (.iconst 1) 1, qe .iadd 1, qe .iaload 1, qe (.aload_n 0) 1, qe (.iload 4) 2, qn, qe (.iconst 2) 1, qe .iadd 1, qe .iaload 1, qe (.aload_n 0) 1],
  [qe (.iload 4) 2, qn, qe (.iconst 3) 1, qe .iadd 1, qe .iaload 1, qe (.aload_n 0) 1, qe (.iload 4) 2, qn, qe (.iconst 4) 1, qe .iadd 1, qe .iaload 1, qe (.aload_n 0) 1, qe (.iload 4) 2, qn, qe (.iconst 5) 1, qe .iadd 1],
  [qe .iaload 1, qf (.invokevirtual 128) 253 5 0, qn, qn, qt (.if_icmp .eq 254) 3 1330, qn, qn, qe (.iconst 0) 1, some (.ireturn, 1, 0, 0, 3), qe (.aload_n 1) 1, qe (.aload_n 0) 1, qe (.iload 4) 2, qn, qe (.iconst 1) 1, qe .iadd 1, qe .iaload 1],
  [qe (.aload_n 0) 1, qe (.iload 4) 2, qn, qe (.iconst 2) 1, qe .iadd 1, qe .iaload 1, qf (.invokevirtual 129) 123 2 0, qn, qn, qe (.aload_n 2) 1, qe (.aload_n 0) 1, qe (.iload 4) 2, qn, qe (.iconst 1) 1, qe .iadd 1, qe .iaload 1],
  [qe (.aload_n 0) 1, qe (.iload 4) 2, qn, qe (.iconst 2) 1, qe .iadd 1, qe .iaload 1, qf (.invokevirtual 132) 258 2 0, qn, qn, qt (.if_icmp .eq 217) 3 1330, qn, qn, qe (.iconst 0) 1, some (.ireturn, 1, 0, 0, 3), qe (.aload_n 1) 1, qe (.aload_n 0) 1],
  [qe (.iload 4) 2, qn, qe (.iconst 1) 1, qe .iadd 1, qe .iaload 1, qf (.invokevirtual 133) 124 1 0, qn, qn, qe (.aload_n 2) 1, qe (.aload_n 0) 1, qe (.iload 4) 2, qn, qe (.iconst 1) 1, qe .iadd 1, qe .iaload 1, qf (.invokevirtual 136) 259 1 0],
  [qn, qn, qt (.if_icmp .eq 192) 3 1330, qn, qn, qe (.iconst 0) 1, some (.ireturn, 1, 0, 0, 3), qe (.aload_n 1) 1, qe (.aload_n 0) 1, qe (.iload 4) 2, qn, qe (.iconst 1) 1, qe .iadd 1, qe .iaload 1, qe (.aload_n 0) 1, qe (.iload 4) 2],
  [qn, qe (.iconst 2) 1, qe .iadd 1, qe .iaload 1, qf (.invokevirtual 137) 125 2 0, qn, qn, qe (.aload_n 2) 1, qe (.aload_n 0) 1, qe (.iload 4) 2, qn, qe (.iconst 1) 1, qe .iadd 1, qe .iaload 1, qe (.aload_n 0) 1, qe (.iload 4) 2],
  [qn, qe (.iconst 2) 1, qe .iadd 1, qe .iaload 1, qf (.invokevirtual 140) 260 2 0, qn, qn, qt (.if_icmp .eq 155) 3 1330, qn, qn, qe (.iconst 0) 1, some (.ireturn, 1, 0, 0, 3), qe (.aload_n 1) 1, qe (.aload_n 0) 1, qe (.iload 4) 2],
  [qe (.iconst 1) 1, qe .iadd 1, qe .iaload 1, qe (.aload_n 0) 1, qe (.iload 4) 2, qn, qe (.iconst 2) 1, qe .iadd 1, qe .iaload 1, qf (.invokevirtual 141) 126 2 0, qn, qn, qe (.aload_n 2) 1, qe (.aload_n 0) 1, qe (.iload 4) 2],
  [qe (.iconst 1) 1, qe .iadd 1, qe .iaload 1, qe (.aload_n 0) 1, qe (.iload 4) 2, qn, qe (.iconst 2) 1, qe .iadd 1, qe .iaload 1, qf (.invokevirtual 144) 233 2 0, qn, qn, qt (.if_icmp .eq 118) 3 1330, qn, qn, qe (.iconst 0) 1],
  [some (.ireturn, 1, 0, 0, 3), qe (.aload_n 1) 1, qe (.aload_n 0) 1, qe (.iload 4) 2, qn, qe (.iconst 1) 1, qe .iadd 1, qe .iaload 1, qe (.aload_n 0) 1, qe (.iload 4) 2, qn, qe (.iconst 2) 1, qe .iadd 1, qe .iaload 1, qf (.invokevirtual 145) 127 2 0],
  [qn, qe (.aload_n 2) 1, qe (.aload_n 0) 1, qe (.iload 4) 2, qn, qe (.iconst 1) 1, qe .iadd 1, qe .iaload 1, qe (.aload_n 0) 1, qe (.iload 4) 2, qn, qe (.iconst 2) 1, qe .iadd 1, qe .iaload 1, qf (.invokevirtual 148) 234 2 0],
  [qn, qt (.if_icmp .eq 81) 3 1330, qn, qn, qe (.iconst 0) 1, some (.ireturn, 1, 0, 0, 3), qe (.aload_n 1) 1, qe (.aload_n 0) 1, qe (.iload 4) 2, qn, qe (.iconst 1) 1, qe .iadd 1, qe .iaload 1, qf (.invokevirtual 149) 128 1 0],
  [qe (.aload_n 2) 1, qe (.aload_n 0) 1, qe (.iload 4) 2, qn, qe (.iconst 1) 1, qe .iadd 1, qe .iaload 1, qf (.invokevirtual 152) 265 1 0, qn, qn, qt (.if_icmp .eq 56) 3 1330, qn, qn, qe (.iconst 0) 1, some (.ireturn, 1, 0, 0, 3), qe (.aload_n 1) 1],
  [qt (.invokevirtual 153) 3 129, qn, qn, qe (.aload_n 2) 1, qt (.invokevirtual 156) 3 242, qn, qn, qt (.if_icmp .eq 43) 3 1330, qn, qn, qe (.iconst 0) 1, some (.ireturn, 1, 0, 0, 3), qe (.aload_n 1) 1, qt (.invokevirtual 157) 3 130],
  [qe (.aload_n 2) 1, qt (.invokevirtual 160) 3 243, qn, qn, qt (.if_icmp .eq 30) 3 1330, qn, qn, qe (.iconst 0) 1, some (.ireturn, 1, 0, 0, 3), qe (.aload_n 1) 1, qe (.aload_n 0) 1, qe (.iload 4) 2, qn, qe (.iconst 1) 1, qe .iadd 1, qe .iaload 1],
  [qf (.invokevirtual 161) 131 1 0, qn, qn, qe (.aload_n 2) 1, qe (.aload_n 0) 1, qe (.iload 4) 2, qn, qe (.iconst 1) 1, qe .iadd 1, qe .iaload 1, qf (.invokevirtual 164) 266 1 0, qn, qn, qt (.if_icmp .eq 5) 3 1330],
  [qe (.iconst 0) 1, some (.ireturn, 1, 0, 0, 3), qe (.iinc 4 7) 3, qn, qn, qt (.goto (-1310)) 3 23, qn, qn, qe (.iconst 1) 1, some (.ireturn, 1, 0, 0, 3)]]
def qpm (m : Nat) : List (List (Option qE)) := bif Nat.ble m 270 then (bif Nat.ble m 135 then (bif Nat.ble m 67 then (bif Nat.ble m 33 then (bif Nat.ble m 16 then (bif Nat.ble m 8 then (bif Nat.ble m 4 then (bif Nat.ble m 2 then (bif Nat.ble m 1 then (bif Nat.ble m 0 then qp0 else qp1) else qp2) else (bif Nat.ble m 3 then qp3 else qp4)) else (bif Nat.ble m 6 then (bif Nat.ble m 5 then qp5 else qp6) else (bif Nat.ble m 7 then qp7 else qp8))) else (bif Nat.ble m 12 then (bif Nat.ble m 10 then (bif Nat.ble m 9 then qp9 else qp10) else (bif Nat.ble m 11 then qp11 else qp12)) else (bif Nat.ble m 14 then (bif Nat.ble m 13 then qp13 else qp14) else (bif Nat.ble m 15 then qp15 else qp16)))) else (bif Nat.ble m 25 then (bif Nat.ble m 21 then (bif Nat.ble m 19 then (bif Nat.ble m 18 then (bif Nat.ble m 17 then qp17 else qp18) else qp19) else (bif Nat.ble m 20 then qp20 else qp21)) else (bif Nat.ble m 23 then (bif Nat.ble m 22 then qp22 else qp23) else (bif Nat.ble m 24 then qp24 else qp25))) else (bif Nat.ble m 29 then (bif Nat.ble m 27 then (bif Nat.ble m 26 then qp26 else qp27) else (bif Nat.ble m 28 then qp28 else qp29)) else (bif Nat.ble m 31 then (bif Nat.ble m 30 then qp30 else qp31) else (bif Nat.ble m 32 then qp32 else qp33))))) else (bif Nat.ble m 50 then (bif Nat.ble m 42 then (bif Nat.ble m 38 then (bif Nat.ble m 36 then (bif Nat.ble m 35 then (bif Nat.ble m 34 then qp34 else qp35) else qp36) else (bif Nat.ble m 37 then qp37 else qp38)) else (bif Nat.ble m 40 then (bif Nat.ble m 39 then qp39 else qp40) else (bif Nat.ble m 41 then qp41 else qp42))) else (bif Nat.ble m 46 then (bif Nat.ble m 44 then (bif Nat.ble m 43 then qp43 else qp44) else (bif Nat.ble m 45 then qp45 else qp46)) else (bif Nat.ble m 48 then (bif Nat.ble m 47 then qp47 else qp48) else (bif Nat.ble m 49 then qp49 else qp50)))) else (bif Nat.ble m 59 then (bif Nat.ble m 55 then (bif Nat.ble m 53 then (bif Nat.ble m 52 then (bif Nat.ble m 51 then qp51 else qp52) else qp53) else (bif Nat.ble m 54 then qp54 else qp55)) else (bif Nat.ble m 57 then (bif Nat.ble m 56 then qp56 else qp57) else (bif Nat.ble m 58 then qp58 else qp59))) else (bif Nat.ble m 63 then (bif Nat.ble m 61 then (bif Nat.ble m 60 then qp60 else qp61) else (bif Nat.ble m 62 then qp62 else qp63)) else (bif Nat.ble m 65 then (bif Nat.ble m 64 then qp64 else qp65) else (bif Nat.ble m 66 then qp66 else qp67)))))) else (bif Nat.ble m 101 then (bif Nat.ble m 84 then (bif Nat.ble m 76 then (bif Nat.ble m 72 then (bif Nat.ble m 70 then (bif Nat.ble m 69 then (bif Nat.ble m 68 then qp68 else qp69) else qp70) else (bif Nat.ble m 71 then qp71 else qp72)) else (bif Nat.ble m 74 then (bif Nat.ble m 73 then qp73 else qp74) else (bif Nat.ble m 75 then qp75 else qp76))) else (bif Nat.ble m 80 then (bif Nat.ble m 78 then (bif Nat.ble m 77 then qp77 else qp78) else (bif Nat.ble m 79 then qp79 else qp80)) else (bif Nat.ble m 82 then (bif Nat.ble m 81 then qp81 else qp82) else (bif Nat.ble m 83 then qp83 else qp84)))) else (bif Nat.ble m 93 then (bif Nat.ble m 89 then (bif Nat.ble m 87 then (bif Nat.ble m 86 then (bif Nat.ble m 85 then qp85 else qp86) else qp87) else (bif Nat.ble m 88 then qp88 else qp89)) else (bif Nat.ble m 91 then (bif Nat.ble m 90 then qp90 else qp91) else (bif Nat.ble m 92 then qp92 else qp93))) else (bif Nat.ble m 97 then (bif Nat.ble m 95 then (bif Nat.ble m 94 then qp94 else qp95) else (bif Nat.ble m 96 then qp96 else qp97)) else (bif Nat.ble m 99 then (bif Nat.ble m 98 then qp98 else qp99) else (bif Nat.ble m 100 then qp100 else qp101))))) else (bif Nat.ble m 118 then (bif Nat.ble m 110 then (bif Nat.ble m 106 then (bif Nat.ble m 104 then (bif Nat.ble m 103 then (bif Nat.ble m 102 then qp102 else qp103) else qp104) else (bif Nat.ble m 105 then qp105 else qp106)) else (bif Nat.ble m 108 then (bif Nat.ble m 107 then qp107 else qp108) else (bif Nat.ble m 109 then qp109 else qp110))) else (bif Nat.ble m 114 then (bif Nat.ble m 112 then (bif Nat.ble m 111 then qp111 else qp112) else (bif Nat.ble m 113 then qp113 else qp114)) else (bif Nat.ble m 116 then (bif Nat.ble m 115 then qp115 else qp116) else (bif Nat.ble m 117 then qp117 else qp118)))) else (bif Nat.ble m 127 then (bif Nat.ble m 123 then (bif Nat.ble m 121 then (bif Nat.ble m 120 then (bif Nat.ble m 119 then qp119 else qp120) else qp121) else (bif Nat.ble m 122 then qp122 else qp123)) else (bif Nat.ble m 125 then (bif Nat.ble m 124 then qp124 else qp125) else (bif Nat.ble m 126 then qp126 else qp127))) else (bif Nat.ble m 131 then (bif Nat.ble m 129 then (bif Nat.ble m 128 then qp128 else qp129) else (bif Nat.ble m 130 then qp130 else qp131)) else (bif Nat.ble m 133 then (bif Nat.ble m 132 then qp132 else qp133) else (bif Nat.ble m 134 then qp134 else qp135))))))) else (bif Nat.ble m 203 then (bif Nat.ble m 169 then (bif Nat.ble m 152 then (bif Nat.ble m 144 then (bif Nat.ble m 140 then (bif Nat.ble m 138 then (bif Nat.ble m 137 then (bif Nat.ble m 136 then qp136 else qp137) else qp138) else (bif Nat.ble m 139 then qp139 else qp140)) else (bif Nat.ble m 142 then (bif Nat.ble m 141 then qp141 else qp142) else (bif Nat.ble m 143 then qp143 else qp144))) else (bif Nat.ble m 148 then (bif Nat.ble m 146 then (bif Nat.ble m 145 then qp145 else qp146) else (bif Nat.ble m 147 then qp147 else qp148)) else (bif Nat.ble m 150 then (bif Nat.ble m 149 then qp149 else qp150) else (bif Nat.ble m 151 then qp151 else qp152)))) else (bif Nat.ble m 161 then (bif Nat.ble m 157 then (bif Nat.ble m 155 then (bif Nat.ble m 154 then (bif Nat.ble m 153 then qp153 else qp154) else qp155) else (bif Nat.ble m 156 then qp156 else qp157)) else (bif Nat.ble m 159 then (bif Nat.ble m 158 then qp158 else qp159) else (bif Nat.ble m 160 then qp160 else qp161))) else (bif Nat.ble m 165 then (bif Nat.ble m 163 then (bif Nat.ble m 162 then qp162 else qp163) else (bif Nat.ble m 164 then qp164 else qp165)) else (bif Nat.ble m 167 then (bif Nat.ble m 166 then qp166 else qp167) else (bif Nat.ble m 168 then qp168 else qp169))))) else (bif Nat.ble m 186 then (bif Nat.ble m 178 then (bif Nat.ble m 174 then (bif Nat.ble m 172 then (bif Nat.ble m 171 then (bif Nat.ble m 170 then qp170 else qp171) else qp172) else (bif Nat.ble m 173 then qp173 else qp174)) else (bif Nat.ble m 176 then (bif Nat.ble m 175 then qp175 else qp176) else (bif Nat.ble m 177 then qp177 else qp178))) else (bif Nat.ble m 182 then (bif Nat.ble m 180 then (bif Nat.ble m 179 then qp179 else qp180) else (bif Nat.ble m 181 then qp181 else qp182)) else (bif Nat.ble m 184 then (bif Nat.ble m 183 then qp183 else qp184) else (bif Nat.ble m 185 then qp185 else qp186)))) else (bif Nat.ble m 195 then (bif Nat.ble m 191 then (bif Nat.ble m 189 then (bif Nat.ble m 188 then (bif Nat.ble m 187 then qp187 else qp188) else qp189) else (bif Nat.ble m 190 then qp190 else qp191)) else (bif Nat.ble m 193 then (bif Nat.ble m 192 then qp192 else qp193) else (bif Nat.ble m 194 then qp194 else qp195))) else (bif Nat.ble m 199 then (bif Nat.ble m 197 then (bif Nat.ble m 196 then qp196 else qp197) else (bif Nat.ble m 198 then qp198 else qp199)) else (bif Nat.ble m 201 then (bif Nat.ble m 200 then qp200 else qp201) else (bif Nat.ble m 202 then qp202 else qp203)))))) else (bif Nat.ble m 237 then (bif Nat.ble m 220 then (bif Nat.ble m 212 then (bif Nat.ble m 208 then (bif Nat.ble m 206 then (bif Nat.ble m 205 then (bif Nat.ble m 204 then qp204 else qp205) else qp206) else (bif Nat.ble m 207 then qp207 else qp208)) else (bif Nat.ble m 210 then (bif Nat.ble m 209 then qp209 else qp210) else (bif Nat.ble m 211 then qp211 else qp212))) else (bif Nat.ble m 216 then (bif Nat.ble m 214 then (bif Nat.ble m 213 then qp213 else qp214) else (bif Nat.ble m 215 then qp215 else qp216)) else (bif Nat.ble m 218 then (bif Nat.ble m 217 then qp217 else qp218) else (bif Nat.ble m 219 then qp219 else qp220)))) else (bif Nat.ble m 229 then (bif Nat.ble m 225 then (bif Nat.ble m 223 then (bif Nat.ble m 222 then (bif Nat.ble m 221 then qp221 else qp222) else qp223) else (bif Nat.ble m 224 then qp224 else qp225)) else (bif Nat.ble m 227 then (bif Nat.ble m 226 then qp226 else qp227) else (bif Nat.ble m 228 then qp228 else qp229))) else (bif Nat.ble m 233 then (bif Nat.ble m 231 then (bif Nat.ble m 230 then qp230 else qp231) else (bif Nat.ble m 232 then qp232 else qp233)) else (bif Nat.ble m 235 then (bif Nat.ble m 234 then qp234 else qp235) else (bif Nat.ble m 236 then qp236 else qp237))))) else (bif Nat.ble m 254 then (bif Nat.ble m 246 then (bif Nat.ble m 242 then (bif Nat.ble m 240 then (bif Nat.ble m 239 then (bif Nat.ble m 238 then qp238 else qp239) else qp240) else (bif Nat.ble m 241 then qp241 else qp242)) else (bif Nat.ble m 244 then (bif Nat.ble m 243 then qp243 else qp244) else (bif Nat.ble m 245 then qp245 else qp246))) else (bif Nat.ble m 250 then (bif Nat.ble m 248 then (bif Nat.ble m 247 then qp247 else qp248) else (bif Nat.ble m 249 then qp249 else qp250)) else (bif Nat.ble m 252 then (bif Nat.ble m 251 then qp251 else qp252) else (bif Nat.ble m 253 then qp253 else qp254)))) else (bif Nat.ble m 262 then (bif Nat.ble m 258 then (bif Nat.ble m 256 then (bif Nat.ble m 255 then qp255 else qp256) else (bif Nat.ble m 257 then qp257 else qp258)) else (bif Nat.ble m 260 then (bif Nat.ble m 259 then qp259 else qp260) else (bif Nat.ble m 261 then qp261 else qp262))) else (bif Nat.ble m 266 then (bif Nat.ble m 264 then (bif Nat.ble m 263 then qp263 else qp264) else (bif Nat.ble m 265 then qp265 else qp266)) else (bif Nat.ble m 268 then (bif Nat.ble m 267 then qp267 else qp268) else (bif Nat.ble m 269 then qp269 else qp270)))))))) else []
def qnth {α : Type} : List α → Nat → α → α
  | [], _, d => d
  | x :: _, 0, _ => x
  | _ :: l, n + 1, d => qnth l n d
def qP (m pc : Nat) : Option qE := qnth (qnth (qpm m) (pc / 16) []) (pc % 16) none
abbrev qY : Type := MethodName × ByteArray × Nat × Option FieldType
def qys0 : List qY := [(yX0_init, cX0_init, 1, none), (yX0_setRing, cX0_setRing, 3, none), (yX0_reduce, cX0_reduce, 2, (some .int)), (yX0_inverseOf, cX0_inverseOf, 5, (some .int)), (yX0_isRoot, cX0_isRoot, 6, (some .boolean)), (yX0_setNumber, cX0_setNumber, 3, none), (yX0_setX, cX0_setX, 2, none), (yX0_addTimes, cX0_addTimes, 5, none), (yX0_match, cX0_match, 4, none), (yX0_multiply, cX0_multiply, 11, none), (yX0_raise, cX0_raise, 4, none), (yX0_invert, cX0_invert, 6, none), (yX0_divide, cX0_divide, 4, (some .int)), (yX0_derive, cX0_derive, 3, (some .int)), (yX0_integrate, cX0_integrate, 4, (some .int)), (yX0_logarithm, cX0_logarithm, 2, (some .int))]
def qys1 : List qY := [(yX0_exponential, cX0_exponential, 5, (some .int)), (yX0_revert, cX0_revert, 7, (some .int)), (yX0_root, cX0_root, 5, (some .int)), (yX0_scale, cX0_scale, 4, none), (yX0_lift, cX0_lift, 1, none), (yX0_compose, cX0_compose, 7, (some .int)), (yX0_lastNotZero, cX0_lastNotZero, 3, (some .int)), (yX0_valueAt, cX0_valueAt, 6, (some .int)), (yX0_powerToOne, cX0_powerToOne, 4, (some .int)), (yX0_isOne, cX0_isOne, 2, (some .boolean)), (yX0_cubicLength, cX0_cubicLength, 3, (some .int)), (yX0_startsAt, cX0_startsAt, 7, (some .boolean)), (yX0_cubicRoot, cX0_cubicRoot, 4, (some (.object "SeriesDesk$Series"))), (yX1_init, cX1_init, 2, none), (yX1_clear, cX1_clear, 1, none), (yX1_open, cX1_open, 2, (some .boolean))]
def qys2 : List qY := [(yX1_close, cX1_close, 1, (some .boolean)), (yX1_add, cX1_add, 3, (some .boolean)), (yX1_operationAt, cX1_operationAt, 2, (some .int)), (yX1_argumentAt, cX1_argumentAt, 2, (some .int)), (yX1_shortCopy, cX1_shortCopy, 2, (some (.object "SeriesDesk$Code"))), (yX2_init, cX2_init, 1, none), (yX2_clear, cX2_clear, 1, none), (yX2_keep, cX2_keep, 2, none), (yX2_restore, cX2_restore, 3, (some .int)), (yX3_init, cX3_init, 3, none), (yX3_result, cX3_result, 1, (some (.object "SeriesDesk$Series"))), (yX3_work, cX3_work, 8, (some .int)), (yX3_push, cX3_push, 5, (some .int)), (yX3_ofOne, cX3_ofOne, 4, (some .int)), (yX3_ofTwo, cX3_ofTwo, 4, (some .int)), (yX4_init, cX4_init, 3, none)]
def qys3 : List qY := [(yX4_faultAs, cX4_faultAs, 3, (some .int)), (yX4_readRing, cX4_readRing, 4, (some .boolean)), (yX4_readPrime, cX4_readPrime, 2, (some .boolean)), (yX4_readSteps, cX4_readSteps, 3, (some .boolean)), (yX4_readStep, cX4_readStep, 2, (some .boolean)), (yX4_readExpression, cX4_readExpression, 4, (some .boolean)), (yX4_readTerm, cX4_readTerm, 4, (some .boolean)), (yX4_readPower, cX4_readPower, 2, (some .boolean)), (yX4_readAtom, cX4_readAtom, 3, (some .boolean)), (yX4_readFunction, cX4_readFunction, 3, (some .boolean)), (yX4_readOfOne, cX4_readOfOne, 3, (some .boolean)), (yX4_readRoot, cX4_readRoot, 3, (some .boolean)), (yX4_readShortened, cX4_readShortened, 3, (some .boolean)), (yX4_readMatched, cX4_readMatched, 3, (some .boolean)), (yX4_readBracket, cX4_readBracket, 2, (some .boolean)), (yX4_readOpening, cX4_readOpening, 2, (some .boolean))]
def qys4 : List qY := [(yX4_readSign, cX4_readSign, 2, (some .boolean)), (yX4_readNumber, cX4_readNumber, 4, (some .boolean)), (yX4_digitAt, cX4_digitAt, 2, (some .boolean)), (yX4_next, cX4_next, 1, (some .int)), (yX5_init, cX5_init, 1, none), (yX5_find, cX5_find, 12, (some .int)), (yX5_missedAt, cX5_missedAt, 6, (some .int)), (yX5_factor, cX5_factor, 3, (some .int)), (yX6_init, cX6_init, 1, none), (yX6_first, cX6_first, 2, (some .int)), (yX6_copy, cX6_copy, 2, none), (yX6_shorten, cX6_shorten, 2, none), (yX6_widen, cX6_widen, 4, none), (yX6_withoutFirst, cX6_withoutFirst, 2, none), (yX7_init, cX7_init, 1, none), (yX7_clear, cX7_clear, 1, none)]
def qys5 : List qY := [(yX7_copy, cX7_copy, 2, none), (yX7_cell, cX7_cell, 4, (some .int)), (yX7_load, cX7_load, 3, none), (yX7_store, cX7_store, 3, none), (yX7_exchange, cX7_exchange, 6, none), (yX7_note, cX7_note, 3, none), (yX7_noted, cX7_noted, 4, (some .int)), (yX7_firstNotZero, cX7_firstNotZero, 3, (some .int)), (yX7_filled, cX7_filled, 1, (some .int)), (yX7_filledBits, cX7_filledBits, 3, (some .int)), (yX7_longest, cX7_longest, 3, (some .int)), (yX7_deepest, cX7_deepest, 4, (some .int)), (yX7_knownInAll, cX7_knownInAll, 3, (some .int)), (yX7_notZeroInAll, cX7_notZeroInAll, 4, (some .int)), (yX7_greatest, cX7_greatest, 4, (some .int)), (yX7_zeroFirstBits, cX7_zeroFirstBits, 3, (some .int))]
def qys6 : List qY := [(yX8_init, cX8_init, 1, none), (yX8_take, cX8_take, 4, none), (yX9_init, cX9_init, 1, none), (yX9_feed, cX9_feed, 7, (some .int)), (yX9_end, cX9_end, 2, (some .boolean)), (yX9_fault, cX9_fault, 2, (some .int)), (yX9_text, cX9_text, 2, (some .int)), (yX9_rule, cX9_rule, 2, (some .int)), (yX9_step, cX9_step, 2, (some .int)), (yX9_would, cX9_would, 3, (some .int)), (yX9_why, cX9_why, 1, (some .int)), (yX9_known, cX9_known, 2, (some .int)), (yX9_coefficient, cX9_coefficient, 3, (some .int)), (yX9_order, cX9_order, 2, (some .int)), (yX9_cut, cX9_cut, 4, (some .int)), (yX9_drop, cX9_drop, 3, (some .int))]
def qys7 : List qY := [(yX9_swap, cX9_swap, 3, (some .int)), (yX9_perform, cX9_perform, 4, (some .int)), (yX9_years, cX9_years, 5, (some .int)), (yX9_status, cX9_status, 2, (some .int)), (yX9_undo, cX9_undo, 1, (some .int)), (yX9_log, cX9_log, 3, (some .int)), (yX9_alike, cX9_alike, 5, (some .int)), (yX9_value, cX9_value, 3, (some .int)), (yX9_newton, cX9_newton, 5, (some .int)), (yX9_solve, cX9_solve, 8, (some .int)), (yX9_starts, cX9_starts, 9, (some .int)), (yX9_recur, cX9_recur, 5, (some .int)), (yX9_one, cX9_one, 2, (some .int)), (yX9_sums, cX9_sums, 5, (some .int)), (yX9_run, cX9_run, 5, (some .int)), (yX9_target, cX9_target, 4, (some .int))]
def qys8 : List qY := [(yX9_most, cX9_most, 2, (some .int)), (yX9_image, cX9_image, 1, (some .int)), (yX9_back, cX9_back, 1, (some .int)), (yX9_count, cX9_count, 2, (some .int)), (yX9_bytesIn, cX9_bytesIn, 3, (some .int)), (yX9_takeRing, cX9_takeRing, 1, (some .int)), (yX9_takeScript, cX9_takeScript, 1, (some .int)), (yX9_lengthOf, cX9_lengthOf, 2, (some .int)), (yX9_scriptOf, cX9_scriptOf, 2, (some (.object "SeriesDesk$Code"))), (yX9_refuse, cX9_refuse, 2, (some .int)), (yX9_tapeReason, cX9_tapeReason, 1, (some .int)), (yX9_settle, cX9_settle, 2, (some .int)), (yX9_rehearse, cX9_rehearse, 4, (some .int)), (yX9_draw, cX9_draw, 2, (some .int)), (yX9_draftYear, cX9_draftYear, 2, none), (yX9_gather, cX9_gather, 5, (some .boolean))]
def qys9 : List qY := [(yX9_gatherOne, cX9_gatherOne, 3, (some .boolean)), (yX10_init, cX10_init, 1, none), (yX10_thrown, cX10_thrown, 1, (some .int)), (yX10_isIn, cX10_isIn, 6, (some .boolean)), (yX10_has, cX10_has, 2, (some .boolean)), (yX10_bytesOf, cX10_bytesOf, 3, (some .int)), (yX10_brings, cX10_brings, 4, none), (yX10_feed, cX10_feed, 6, (some .int)), (yX10_end, cX10_end, 2, (some .boolean)), (yX10_here, cX10_here, 1, (some .int)), (yX10_look, cX10_look, 1, (some .int)), (yX10_fails, cX10_fails, 1, none), (yX10_isDigit, cX10_isDigit, 1, (some .boolean)), (yX10_spotOf, cX10_spotOf, 3, (some .int)), (yX10_isPrime, cX10_isPrime, 2, (some .boolean)), (yX10_number, cX10_number, 7, (some .int))]
def qys10 : List qY := [(yX10_sign, cX10_sign, 2, none), (yX10_readRing, cX10_readRing, 3, none), (yX10_says, cX10_says, 4, none), (yX10_opens, cX10_opens, 1, none), (yX10_shuts, cX10_shuts, 1, none), (yX10_expression, cX10_expression, 2, none), (yX10_term, cX10_term, 2, none), (yX10_power, cX10_power, 1, none), (yX10_atom, cX10_atom, 4, none), (yX10_made, cX10_made, 3, none), (yX10_placed, cX10_placed, 2, none), (yX10_readStep, cX10_readStep, 3, none), (yX10_readScript, cX10_readScript, 3, none), (yX10_readOne, cX10_readOne, 1, none), (yX10_fault, cX10_fault, 2, (some .int)), (yX10_copyStep, cX10_copyStep, 4, none)]
def qys11 : List qY := [(yX10_text, cX10_text, 3, (some .int)), (yX10_copyRow, cX10_copyRow, 5, none), (yX10_by, cX10_by, 5, (some .int)), (yX10_inverse, cX10_inverse, 4, (some .int)), (yX10_long0, cX10_long0, 2, (some .int)), (yX10_longs, cX10_longs, 3, none), (yX10_c, cX10_c, 3, (some .int)), (yX10_sets, cX10_sets, 4, none), (yX10_copies, cX10_copies, 4, none), (yX10_orderOf, cX10_orderOf, 3, (some .int)), (yX10_least, cX10_least, 2, (some .int)), (yX10_numbers, cX10_numbers, 4, none), (yX10_placeOf, cX10_placeOf, 7, (some .long)), (yX10_multiplies, cX10_multiplies, 6, none), (yX10_inverts, cX10_inverts, 6, none), (yX10_shifts, cX10_shifts, 5, none)]
def qys12 : List qY := [(yX10_cuts, cX10_cuts, 6, none), (yX10_blanks, cX10_blanks, 4, none), (yX10_raises, cX10_raises, 6, none), (yX10_divides, cX10_divides, 3, (some .int)), (yX10_powers, cX10_powers, 4, (some .int)), (yX10_derives, cX10_derives, 4, (some .int)), (yX10_integrates, cX10_integrates, 4, (some .int)), (yX10_logarithm, cX10_logarithm, 3, (some .int)), (yX10_exponential, cX10_exponential, 7, (some .int)), (yX10_within, cX10_within, 7, (some .int)), (yX10_reverses, cX10_reverses, 5, (some .int)), (yX10_raised, cX10_raised, 5, (some .int)), (yX10_roots, cX10_roots, 6, (some .int)), (yX10_composes, cX10_composes, 6, (some .int)), (yX10_joins, cX10_joins, 7, (some .int)), (yX10_pairs, cX10_pairs, 3, (some .int))]
def qys13 : List qY := [(yX10_alone, cX10_alone, 4, (some .int)), (yX10_pushes, cX10_pushes, 6, (some .int)), (yX10_works, cX10_works, 8, (some .int)), (yX10_remember, cX10_remember, 1, none), (yX10_notes, cX10_notes, 5, none), (yX10_refuses, cX10_refuses, 2, (some .int)), (yX10_isRegister, cX10_isRegister, 2, (some .boolean)), (yX10_isFull, cX10_isFull, 2, (some .boolean)), (yX10_does, cX10_does, 5, (some .int)), (yX10_tries, cX10_tries, 3, (some .int)), (yX10_reason, cX10_reason, 1, (some .int)), (yX10_step, cX10_step, 2, (some .int)), (yX10_would, cX10_would, 2, (some .int)), (yX10_why, cX10_why, 1, (some .int)), (yX10_rule, cX10_rule, 2, (some .int)), (yX10_known, cX10_known, 2, (some .int))]
def qys14 : List qY := [(yX10_coefficient, cX10_coefficient, 3, (some .int)), (yX10_loads, cX10_loads, 4, none), (yX10_order, cX10_order, 2, (some .int)), (yX10_cut, cX10_cut, 5, (some .int)), (yX10_drop, cX10_drop, 4, (some .int)), (yX10_swap, cX10_swap, 5, (some .int)), (yX10_isScript, cX10_isScript, 2, (some .boolean)), (yX10_goes, cX10_goes, 3, (some .int)), (yX10_perform, cX10_perform, 3, (some .int)), (yX10_run, cX10_run, 4, (some .int)), (yX10_target, cX10_target, 3, (some .int)), (yX10_draw, cX10_draw, 2, (some .int)), (yX10_drawn, cX10_drawn, 2, none), (yX10_many, cX10_many, 3, (some .int)), (yX10_years, cX10_years, 6, (some .int)), (yX10_status, cX10_status, 2, (some .int))]
def qys15 : List qY := [(yX10_undo, cX10_undo, 1, (some .int)), (yX10_log, cX10_log, 3, (some .int)), (yX10_image, cX10_image, 1, (some .int)), (yX10_back, cX10_back, 1, (some .int)), (yX10_alike, cX10_alike, 5, (some .int)), (yX10_value, cX10_value, 5, (some .int)), (yX10_newton, cX10_newton, 5, (some .int)), (yX10_laysFour, cX10_laysFour, 5, (some .boolean)), (yX10_laysOne, cX10_laysOne, 3, (some .boolean)), (yX10_slopeAt, cX10_slopeAt, 2, (some .int)), (yX10_isStart, cX10_isStart, 4, (some .boolean)), (yX10_missing, cX10_missing, 2, (some .int)), (yX10_solve, cX10_solve, 10, (some .int)), (yX10_starts, cX10_starts, 9, (some .int)), (yX10_grid, cX10_grid, 3, (some .int)), (yX10_clears, cX10_clears, 7, none)]
def qys16 : List qY := [(yX10_changes, cX10_changes, 6, none), (yX10_brings_, cX10_brings_, 8, (some .boolean)), (yX10_recur, cX10_recur, 5, (some .int)), (yX10_one, cX10_one, 6, (some .int)), (yX10_sums, cX10_sums, 5, (some .int)), (yX10_bestOf, cX10_bestOf, 6, (some .int)), (yX10_coefficients, cX10_coefficients, 5, (some .int)), (yX10_greatest, cX10_greatest, 4, (some .int)), (yX10_those, cX10_those, 4, (some .int)), (yX10_most, cX10_most, 2, (some .int)), (yX10_count, cX10_count, 2, (some .int)), (yJ6_bitCount_0f7a4, cJ6_bitCount_0f7a4, 1, (some .int)), (yJ7_fill_53178, cJ7_fill_53178, 4, none), (yL_coefficient, cL_coefficient, 5, (some .int)), (yL_law, cL_law, 7, (some .boolean))]
def qys : List (List qY) := [qys0, qys1, qys2, qys3, qys4, qys5, qys6, qys7, qys8, qys9, qys10, qys11, qys12, qys13, qys14, qys15, qys16]
def qy0 : qY := (yL_law, code, 7, some .boolean)
def qYm (m : Nat) : qY := qnth (qnth qys (m / 16) []) (m % 16) qy0
def qowns : List (List Nat) := [[0, 0, 0, 0, 0, 0, 0, 0, 0, 0, 0, 0, 0, 0, 0, 0], [0, 0, 0, 0, 0, 0, 0, 0, 0, 0, 0, 0, 0, 1, 1, 1], [1, 1, 1, 1, 1, 2, 2, 2, 2, 3, 3, 3, 3, 3, 3, 4], [4, 4, 4, 4, 4, 4, 4, 4, 4, 4, 4, 4, 4, 4, 4, 4], [4, 4, 4, 4, 5, 5, 5, 5, 6, 6, 6, 6, 6, 6, 7, 7], [7, 7, 7, 7, 7, 7, 7, 7, 7, 7, 7, 7, 7, 7, 7, 7], [8, 8, 9, 9, 9, 9, 9, 9, 9, 9, 9, 9, 9, 9, 9, 9], [9, 9, 9, 9, 9, 9, 9, 9, 9, 9, 9, 9, 9, 9, 9, 9], [9, 9, 9, 9, 9, 9, 9, 9, 9, 9, 9, 9, 9, 9, 9, 9], [9, 10, 10, 10, 10, 10, 10, 10, 10, 10, 10, 10, 10, 10, 10, 10], [10, 10, 10, 10, 10, 10, 10, 10, 10, 10, 10, 10, 10, 10, 10, 10], [10, 10, 10, 10, 10, 10, 10, 10, 10, 10, 10, 10, 10, 10, 10, 10], [10, 10, 10, 10, 10, 10, 10, 10, 10, 10, 10, 10, 10, 10, 10, 10], [10, 10, 10, 10, 10, 10, 10, 10, 10, 10, 10, 10, 10, 10, 10, 10], [10, 10, 10, 10, 10, 10, 10, 10, 10, 10, 10, 10, 10, 10, 10, 10], [10, 10, 10, 10, 10, 10, 10, 10, 10, 10, 10, 10, 10, 10, 10, 10], [10, 10, 10, 10, 10, 10, 10, 10, 10, 10, 10, 12, 13, 11, 11]]
def qOw (m : Nat) : Nat := qnth (qnth qowns (m / 16) []) (m % 16) 99
def qmls : List (List Nat) := [[1, 3, 2, 5, 6, 3, 2, 5, 4, 11, 4, 6, 4, 3, 4, 2], [5, 7, 5, 4, 1, 7, 3, 6, 4, 2, 3, 7, 4, 2, 1, 2], [1, 3, 2, 2, 2, 1, 1, 2, 3, 3, 1, 8, 5, 4, 4, 3], [3, 4, 2, 3, 2, 4, 4, 2, 3, 3, 3, 3, 3, 3, 2, 2], [2, 4, 2, 1, 1, 12, 6, 3, 1, 2, 2, 2, 4, 2, 1, 1], [2, 4, 3, 3, 6, 3, 4, 3, 1, 3, 3, 4, 3, 4, 4, 3], [1, 4, 1, 7, 2, 2, 2, 2, 2, 3, 1, 2, 3, 2, 4, 3], [3, 4, 5, 2, 1, 3, 5, 3, 5, 8, 9, 5, 2, 5, 5, 4], [2, 1, 1, 2, 3, 1, 1, 2, 2, 2, 1, 2, 4, 2, 2, 5], [3, 1, 1, 6, 2, 3, 4, 6, 2, 1, 1, 1, 1, 3, 2, 7], [2, 3, 4, 1, 1, 2, 2, 1, 4, 3, 2, 3, 3, 1, 2, 4], [3, 5, 5, 4, 2, 3, 3, 4, 4, 3, 2, 4, 7, 6, 6, 5], [6, 4, 6, 3, 4, 4, 4, 3, 7, 7, 5, 5, 6, 6, 7, 3], [4, 6, 8, 1, 5, 2, 2, 2, 5, 3, 1, 2, 2, 1, 2, 2], [3, 4, 2, 5, 4, 5, 2, 3, 3, 4, 3, 2, 2, 3, 6, 2], [1, 3, 1, 1, 5, 5, 5, 5, 3, 2, 4, 2, 10, 9, 3, 7], [6, 8, 5, 6, 5, 6, 5, 4, 4, 2, 2, 1, 4, 5, 7]]
def qML (m : Nat) : Nat := qnth (qnth qmls (m / 16) []) (m % 16) 0
end
section
/-! the abstract machine: ids for cells; kinds (class or 100 and on for arrays, with a count), references, ints, longs by id and place; the next id, slots used -/
abbrev qK : Type := Nat → Option (Nat × Nat)
abbrev qA : Type := Nat → Nat → Option Nat
abbrev qI : Type := Nat → Nat → Int32
abbrev qJ : Type := Nat → Nat → Int64
abbrev qG : Type := qK × qA × Nat × Nat
abbrev qF : Type := Nat × List Value × List Value × qG × qI × qJ
abbrev qS : Type := Option Value × qG × qI × qJ
abbrev qR : Type := qF ⊕ (Option Value ⊕ (Nat × List Value × Nat × List Value))
abbrev qw {α : Type} (I : Nat → Nat → α) (a k : Nat) (v : α) : Nat → Nat → α := va_up I a (va_up (I a) k v)
abbrev qpad : Value := .retAddr 0
abbrev qnx (pc : Nat) (ls st : List Value) (g : qG) (I : qI) (J : qJ) : Option qR := some (.inl (pc, ls, st, g, I, J))
def qcat (v : Value) : Nat := match v with
  | .long _ => 2
  | .double _ => 2
  | _ => 1
/-- a value of one word into a local -/
def qst1 (ls : List Value) (i : Nat) (v : Value) : Option (List Value) := match i with
  | 0 => match ls with
    | [] => none
    | _ :: l => some (v :: l)
  | j + 1 => match ls[j]?, ls[j + 1]? with
    | some w, some _ => match qcat w with
      | 1 => some (ls.set (j + 1) v)
      | _ => none
    | _, _ => none
def qst2 (ls : List Value) (i : Nat) (v : Value) : Option (List Value) := match ls[i + 1]? with
  | some _ => (qst1 ls i v).map (fun l => l.set (i + 1) qpad)
  | none => none
def qld (ls : List Value) (i t : Nat) : Option Value := match ls[i]? with
  | some (.int x) => match t with
    | 0 => some (.int x)
    | _ => none
  | some (.long x) => match t with
    | 1 => some (.long x)
    | _ => none
  | some (.ref x) => match t with
    | 2 => some (.ref x)
    | _ => none
  | some .null => match t with
    | 2 => some .null
    | _ => none
  | _ => none
def qc1 (c : Jvm.ClassFile.Cond) (x : Int32) : Bool := match c with
  | .eq => decide (x = 0)
  | .ne => decide (¬ x = 0)
  | .lt => decide (x < 0)
  | .ge => decide (0 ≤ x)
  | .gt => decide (0 < x)
  | .le => decide (x ≤ 0)
def qc2 (c : Jvm.ClassFile.Cond) (x y : Int32) : Bool := match c with
  | .eq => decide (x = y)
  | .ne => decide (¬ x = y)
  | .lt => decide (x < y)
  | .ge => decide (y ≤ x)
  | .gt => decide (y < x)
  | .le => decide (x ≤ y)
/-- arithmetic of two ints, of two longs, of a long and an int -/
def qi2 (i : Instr) (x y : Int32) : Option Int32 := match i with
  | .iadd => some (x + y)
  | .isub => some (x - y)
  | .imul => some (x * y)
  | .iand => some (x &&& y)
  | .ior => some (x ||| y)
  | .idiv => if y = 0 then none else some (x / y)
  | .irem => if y = 0 then none else some (x - x / y * y)
  | .ishl => some (x <<< (y &&& 31))
  | .ishr => some (x >>> (y &&& 31))
  | .iushr => some ((x.toUInt32 >>> (y.toUInt32 &&& Int32.toUInt32 31)).toInt32)
  | _ => none
def ql2 (i : Instr) (x y : Int64) : Option Int64 := match i with
  | .ladd => some (x + y)
  | .lsub => some (x - y)
  | .lmul => some (x * y)
  | .land => some (x &&& y)
  | .lor => some (x ||| y)
  | .lrem => if y = 0 then none else some (x - x / y * y)
  | _ => none
def qk2 (i : Instr) (x : Int64) (y : Int32) : Option Int64 := match i with
  | .lshl => some (x <<< (y.toInt64 &&& 63))
  | .lushr => some ((x.toUInt64 >>> (y.toInt64.toUInt64 &&& Int64.toUInt64 63)).toInt64)
  | _ => none
/-- an object's kind, an array's -/
def qob (g : qG) (o c : Nat) : Bool := match g.1 o with
  | some (k, _) => Nat.beq k c
  | none => false
def qar (g : qG) (o t : Nat) : Option Nat := match g.1 o with
  | some (k, n) => bif Nat.beq k t then some n else none
  | none => none
def qix (i : Int32) (n : Nat) : Bool := decide (0 ≤ i.toInt ∧ i.toInt < n)
/-- which class the elements of an array of references have -/
def qel (t : Nat) : Nat := match t with
  | 103 => 6
  | 104 => 7
  | 105 => 1
  | _ => 98
def qfs (st : List Value) : Nat := match st with
  | [] => 0
  | v :: r => qcat v + qfs r
/-- a new cell: its places are 0 -/
def qmk (k n : Nat) (g : qG) : qG := (va_up g.1 g.2.2.1 (some (k, n)), va_up g.2.1 g.2.2.1 (fun _ => none), g.2.2.1 + 1, g.2.2.2 + n)
abbrev qmI (g : qG) (I : qI) : qI := va_up I g.2.2.1 (fun _ => 0)
abbrev qmJ (g : qG) (J : qJ) : qJ := va_up J g.2.2.1 (fun _ => 0)
def qtb (pc : Nat) (o : Option Int) : Option Nat := match o with
  | some d => match (pc : Int) + d with
    | .ofNat k => some k
    | .negSucc _ => none
  | none => none
def qsw (pc : Nat) (d lo hi : Int) (offs : Array Int) (x : Int) : Option Nat := if x < lo ∨ hi < x then qtb pc (some d) else qtb pc offs[(x - lo).toNat]?
/-- the strings, by their ids 1, 2, 3 -/
def qstr (i : Nat) : List Nat := match i with
  | 1 => [112, 109]
  | 2 => [97, 98, 99, 100, 101, 102, 103, 104]
  | 3 => [68, 83, 76, 69, 82, 81, 84, 67, 72]
  | _ => []
def qpr (a n : Nat) (ls st : List Value) (g : qG) (I : qI) (J : qJ) : Option qR := match a with
  | 1000 => match st with
    | .ref _ :: r => if qfs r ≤ 8 then qnx n ls r g I J else none
    | _ => none
  | 1001 => match st with
    | .int y :: .int x :: r => if qfs r ≤ 8 then qnx n ls (.int (if y < x then y else x) :: r) g I J else none
    | _ => none
  | 1002 => match st with
    | .int y :: .int x :: r => if qfs r ≤ 8 then qnx n ls (.int (if x < y then y else x) :: r) g I J else none
    | _ => none
  | 1003 => match st with
    | .int k :: .int dp :: .ref b :: .int sp :: .ref a :: r => match qar g a 100, qar g b 100 with
      | some na, some nb => if (0 ≤ sp.toInt ∧ 0 ≤ dp.toInt ∧ 0 ≤ k.toInt ∧ sp.toInt + k.toInt ≤ na ∧ dp.toInt + k.toInt ≤ nb) ∧ qfs r ≤ 8 then
          qnx n ls r g (va_up I b (va_cpy (I a) (I b) sp.toNatClampNeg dp.toNatClampNeg k.toNatClampNeg)) J else none
      | _, _ => none
    | _ => none
  | 1004 => match st with
    | .ref o :: r => if 1 ≤ o ∧ o ≤ 3 ∧ qfs r ≤ 8 then qnx n ls (.int (Int32.ofNat (qstr o).length) :: r) g I J else none
    | _ => none
  | 1005 => match st with
    | .int i :: .ref o :: r => if 1 ≤ o ∧ o ≤ 3 ∧ qfs r ≤ 8 then
        (if qix i (qstr o).length then qnx n ls (.int (Int32.ofNat ((qstr o).getD i.toNatClampNeg 0)) :: r) g I J else none) else none
    | _ => none
  | _ => none
def qcl (x : qE) (n : Nat) (ls st : List Value) (g : qG) (I : qI) (J : qJ) : Option qR := match x with
  | (_, _, a, b, t) => bif Nat.ble 1000 a then qpr a n ls st g I J else
    match t with
    | 1 => if qfs (st.drop b) ≤ 8 ∧ b ≤ st.length then some (.inr (.inr (a, (st.take b).reverse, n, st.drop b))) else none
    | _ => match st.drop b with
      | .ref o :: r => if qob g o (qOw a) = true ∧ qfs r ≤ 8 then some (.inr (.inr (a, .ref o :: (st.take b).reverse, n, r))) else none
      | _ => none
def qgf (a b t : Nat) (g : qG) (I : qI) (J : qJ) (o : Nat) : Option Value := bif qob g o a then
  (match t with
    | 1 => some (.long (J o b))
    | 2 => some (va_rf (g.2.1 o b))
    | _ => some (.int (I o b))) else none
def qpf (a b t n : Nat) (ls st : List Value) (g : qG) (I : qI) (J : qJ) : Option qR := match t with
  | 0 => match st with
    | .int v :: .ref o :: r => bif qob g o a then qnx n ls r g (qw I o b v) J else none
    | _ => none
  | 3 => match st with
    | .int v :: .ref o :: r => bif qob g o a then (if v = 0 ∨ v = 1 then qnx n ls r g (qw I o b v) J else none) else none
    | _ => none
  | 1 => match st with
    | .long v :: .ref o :: r => bif qob g o a then qnx n ls r g I (qw J o b v) else none
    | _ => none
  | 2 => match st with
    | .ref v :: .ref o :: r => bif qob g o a then qnx n ls r (g.1, qw g.2.1 o b (some v), g.2.2) I J else none
    | .null :: .ref o :: r => bif qob g o a then qnx n ls r (g.1, qw g.2.1 o b none, g.2.2) I J else none
    | _ => none
  | _ => none
def qstep (x : qE) (pc : Nat) (ls st : List Value) (g : qG) (I : qI) (J : qJ) : Option qR := match x with
  | (i, len, a, b, t) => match i with
    | .iconst k => qnx (pc + len) ls (.int (Int32.ofInt k) :: st) g I J
    | .bipush k => qnx (pc + len) ls (.int (Int8.ofInt k).toInt32 :: st) g I J
    | .sipush k => qnx (pc + len) ls (.int (Int16.ofInt k).toInt32 :: st) g I J
    | .lconst k => qnx (pc + len) ls (.long (Int64.ofNat (k : Nat)) :: st) g I J
    | .aconst_null => qnx (pc + len) ls (.null :: st) g I J
    | .ldc _ => match t with
      | 0 => qnx (pc + len) ls (.int (Int32.ofNat a) :: st) g I J
      | _ => qnx (pc + len) ls (.ref a :: st) g I J
    | .ldc_w _ => qnx (pc + len) ls (.int (Int32.ofNat a) :: st) g I J
    | .ldc2_w _ => qnx (pc + len) ls (.long (Int64.ofNat a) :: st) g I J
    | .iload_n k => (qld ls (k : Nat) 0).bind (fun v => qnx (pc + len) ls (v :: st) g I J)
    | .iload k => (qld ls k 0).bind (fun v => qnx (pc + len) ls (v :: st) g I J)
    | .lload_n k => (qld ls (k : Nat) 1).bind (fun v => qnx (pc + len) ls (v :: st) g I J)
    | .lload k => (qld ls k 1).bind (fun v => qnx (pc + len) ls (v :: st) g I J)
    | .aload_n k => (qld ls (k : Nat) 2).bind (fun v => qnx (pc + len) ls (v :: st) g I J)
    | .aload k => (qld ls k 2).bind (fun v => qnx (pc + len) ls (v :: st) g I J)
    | .istore_n k => match st with
      | .int v :: r => (qst1 ls (k : Nat) (.int v)).bind (fun l => qnx (pc + len) l r g I J)
      | _ => none
    | .istore k => match st with
      | .int v :: r => (qst1 ls k (.int v)).bind (fun l => qnx (pc + len) l r g I J)
      | _ => none
    | .lstore_n k => match st with
      | .long v :: r => (qst2 ls (k : Nat) (.long v)).bind (fun l => qnx (pc + len) l r g I J)
      | _ => none
    | .lstore k => match st with
      | .long v :: r => (qst2 ls k (.long v)).bind (fun l => qnx (pc + len) l r g I J)
      | _ => none
    | .astore_n k => match st with
      | .ref v :: r => (qst1 ls (k : Nat) (.ref v)).bind (fun l => qnx (pc + len) l r g I J)
      | .null :: r => (qst1 ls (k : Nat) .null).bind (fun l => qnx (pc + len) l r g I J)
      | _ => none
    | .astore k => match st with
      | .ref v :: r => (qst1 ls k (.ref v)).bind (fun l => qnx (pc + len) l r g I J)
      | .null :: r => (qst1 ls k .null).bind (fun l => qnx (pc + len) l r g I J)
      | _ => none
    | .iinc k d => match ls[k]? with
      | some (.int v) => (qst1 ls k (.int (v + Int32.ofInt d))).bind (fun l => qnx (pc + len) l st g I J)
      | _ => none
    | .i2l => match st with
      | .int v :: r => qnx (pc + len) ls (.long v.toInt64 :: r) g I J
      | _ => none
    | .l2i => match st with
      | .long v :: r => qnx (pc + len) ls (.int v.toInt32 :: r) g I J
      | _ => none
    | .i2b => match st with
      | .int v :: r => qnx (pc + len) ls (.int v.toInt8.toInt32 :: r) g I J
      | _ => none
    | .lneg => match st with
      | .long v :: r => qnx (pc + len) ls (.long (-v) :: r) g I J
      | _ => none
    | .lcmp => match st with
      | .long y :: .long x :: r => qnx (pc + len) ls (.int (lg_cmp x y) :: r) g I J
      | _ => none
    | .dup => match st with
      | v :: r => match qcat v with
        | 1 => qnx (pc + len) ls (v :: v :: r) g I J
        | _ => none
      | _ => none
    | .pop => match st with
      | v :: r => match qcat v with
        | 1 => qnx (pc + len) ls r g I J
        | _ => none
      | _ => none
    | .dup2 => match st with
      | v :: w :: r => match qcat v, qcat w with
        | 1, 1 => qnx (pc + len) ls (v :: w :: v :: w :: r) g I J
        | _, _ => none
      | _ => none
    | .goto _ => qnx a ls st g I J
    | .ifCond c _ => match st with
      | .int v :: r => bif qc1 c v then qnx a ls r g I J else qnx (pc + len) ls r g I J
      | _ => none
    | .if_icmp c _ => match st with
      | .int y :: .int x :: r => bif qc2 c x y then qnx a ls r g I J else qnx (pc + len) ls r g I J
      | _ => none
    | .ifnull _ => match st with
      | .null :: r => qnx a ls r g I J
      | .ref _ :: r => qnx (pc + len) ls r g I J
      | _ => none
    | .ifnonnull _ => match st with
      | .null :: r => qnx (pc + len) ls r g I J
      | .ref _ :: r => qnx a ls r g I J
      | _ => none
    | .tableswitch d lo hi offs => match st with
      | .int v :: r => (qsw pc d lo hi offs v.toInt).bind (fun k => qnx k ls r g I J)
      | _ => none
    | .lookupswitch d ps => match st with
      | .int v :: r => (qtb pc (some (Op.lookupswitch.offset ps.toList d v.toInt))).bind (fun k => qnx k ls r g I J)
      | _ => none
    | .getfield _ => match st with
      | .ref o :: r => (qgf a b t g I J o).bind (fun v => qnx (pc + len) ls (v :: r) g I J)
      | _ => none
    | .putfield _ => qpf a b t (pc + len) ls st g I J
    | .arraylength => match st with
      | .ref o :: r => match g.1 o with
        | some (k, n) => bif Nat.ble 100 k then qnx (pc + len) ls (.int (Int32.ofNat n) :: r) g I J else none
        | none => none
      | _ => none
    | .iaload => match st with
      | .int i :: .ref o :: r => match g.1 o with
        | some (k, n) => bif qix i n && (Nat.beq k 100 || Nat.beq k 110) then qnx (pc + len) ls (.int (I o i.toNatClampNeg) :: r) g I J else none
        | none => none
      | _ => none
    | .baload => match st with
      | .int i :: .ref o :: r => match qar g o 101 with
        | some n => bif qix i n then qnx (pc + len) ls (.int (I o i.toNatClampNeg) :: r) g I J else none
        | none => none
      | _ => none
    | .laload => match st with
      | .int i :: .ref o :: r => match qar g o 102 with
        | some n => bif qix i n then qnx (pc + len) ls (.long (J o i.toNatClampNeg) :: r) g I J else none
        | none => none
      | _ => none
    | .aaload => match st with
      | .int i :: .ref o :: r => match g.1 o with
        | some (k, n) => bif qix i n && (Nat.beq k 103 || (Nat.beq k 104 || Nat.beq k 105)) then qnx (pc + len) ls (va_rf (g.2.1 o i.toNatClampNeg) :: r) g I J else none
        | none => none
      | _ => none
    | .iastore => match st with
      | .int v :: .int i :: .ref o :: r => match qar g o 100 with
        | some n => bif qix i n then qnx (pc + len) ls r g (qw I o i.toNatClampNeg v) J else none
        | none => none
      | _ => none
    | .bastore => match st with
      | .int v :: .int i :: .ref o :: r => match qar g o 101 with
        | some n => bif qix i n then qnx (pc + len) ls r g (qw I o i.toNatClampNeg v.toInt8.toInt32) J else none
        | none => none
      | _ => none
    | .lastore => match st with
      | .long v :: .int i :: .ref o :: r => match qar g o 102 with
        | some n => bif qix i n then qnx (pc + len) ls r g I (qw J o i.toNatClampNeg v) else none
        | none => none
      | _ => none
    | .aastore => match st with
      | .ref v :: .int i :: .ref o :: r => match g.1 o with
        | some (k, n) => bif qix i n && ((Nat.beq k 103 || (Nat.beq k 104 || Nat.beq k 105)) && qob g v (qel k)) then qnx (pc + len) ls r (g.1, qw g.2.1 o i.toNatClampNeg (some v), g.2.2) I J else none
        | none => none
      | _ => none
    | .new _ => bif Nat.beq a 99 then some (.inr (.inl (some (.retAddr 1)))) else
        qnx (pc + len) ls (.ref g.2.2.1 :: st) (qmk a b g) (qmI g I) (qmJ g J)
    | .newarray ty => match st with
      | .int v :: r => if 0 ≤ v.toInt ∧ v.toInt ≤ 1000000 then
          (match ty with
            | .int => qnx (pc + len) ls (.ref g.2.2.1 :: r) (qmk 100 v.toNatClampNeg g) (qmI g I) (qmJ g J)
            | .byte => qnx (pc + len) ls (.ref g.2.2.1 :: r) (qmk 101 v.toNatClampNeg g) (qmI g I) (qmJ g J)
            | .long => qnx (pc + len) ls (.ref g.2.2.1 :: r) (qmk 102 v.toNatClampNeg g) (qmI g I) (qmJ g J)
            | _ => none) else none
      | _ => none
    | .anewarray _ => match st with
      | .int v :: r => if 0 ≤ v.toInt ∧ v.toInt ≤ 1000000 then qnx (pc + len) ls (.ref g.2.2.1 :: r) (qmk a v.toNatClampNeg g) (qmI g I) (qmJ g J) else none
      | _ => none
    | .ireturn => match st with
      | [.int v] => match t with
        | 0 => some (.inr (.inl (some (.int v))))
        | 3 => if v = 0 ∨ v = 1 then some (.inr (.inl (some (.int v)))) else none
        | _ => none
      | _ => none
    | .lreturn => match st with
      | [.long v] => some (.inr (.inl (some (.long v))))
      | _ => none
    | .areturn => match st with
      | [.ref v] => some (.inr (.inl (some (.ref v))))
      | [.null] => some (.inr (.inl (some .null)))
      | _ => none
    | .return_ => match st with
      | [] => some (.inr (.inl none))
      | _ => none
    | .invokevirtual _ => qcl (i, len, a, b, t) (pc + len) ls st g I J
    | .invokespecial _ => qcl (i, len, a, b, t) (pc + len) ls st g I J
    | .invokestatic _ => qcl (i, len, a, b, t) (pc + len) ls st g I J
    | i => match st with
      | .int y :: .int x :: r => (qi2 i x y).bind (fun v => qnx (pc + len) ls (.int v :: r) g I J)
      | .long y :: .long x :: r => (ql2 i x y).bind (fun v => qnx (pc + len) ls (.long v :: r) g I J)
      | .int y :: .long x :: r => (qk2 i x y).bind (fun v => qnx (pc + len) ls (.long v :: r) g I J)
      | _ => none
def qlay (vs : List Value) : List Value := match vs with
  | [] => []
  | v :: r => match qcat v with
    | 2 => v :: qpad :: qlay r
    | _ => v :: qlay r
def qfil (n : Nat) (l : List Value) : List Value := match n, l with
  | 0, l => l
  | n + 1, [] => qpad :: qfil n []
  | n + 1, v :: l => v :: qfil n l
abbrev qent (m : Nat) (as : List Value) : List Value := qfil (qML m) (qlay as)
/-- an answer that is the sign of a throw: only the law's own method catches it -/
def qthr (v : Option Value) : Bool := match v with
  | some (.retAddr _) => true
  | _ => false
def qrun : Nat → Nat → Nat → qF → Option qS
  | 0, _, _, _ => none
  | n + 1, d, m, (pc, ls, st, g, I, J) => match qP m pc with
    | none => none
    | some x => match qstep x pc ls st g I J with
      | none => none
      | some (.inl f) => qrun n d m f
      | some (.inr (.inl v)) => some (v, g, I, J)
      | some (.inr (.inr (c, as, pc', rest))) => match d with
        | 0 => none
        | d' + 1 => match qrun n d' c (0, qent c as, [], g, I, J) with
          | none => none
          | some (v, g', I', J') => match qthr v with
            | false => qrun n (d' + 1) m (pc', ls, v.toList ++ rest, g', I', J')
            | true => bif Nat.beq m 269 then qrun n (d' + 1) m (13, ls, [.ref g'.2.2.1], (g'.1, g'.2.1, g'.2.2.1 + 1, g'.2.2.2 + 6), I', J') else none
end
section
/-! what a run of the abstract machine comes to -/
abbrev qQ : Type := Option Value → qG → qI → qJ → Prop
def qev (d m : Nat) (f : qF) (Q : qQ) : Prop := ∃ (n : Nat) (v : Option Value) (g : qG) (I : qI) (J : qJ), qrun n d m f = some (v, g, I, J) ∧ Q v g I J
abbrev qC (d c : Nat) (as : List Value) (g : qG) (I : qI) (J : qJ) (Q : qQ) : Prop := qev d c (0, qent c as, [], g, I, J) Q
theorem qrun_s (n d m pc : Nat) (ls st : List Value) (g : qG) (I : qI) (J : qJ) : qrun (n + 1) d m (pc, ls, st, g, I, J) = (match qP m pc with
    | none => none
    | some x => match qstep x pc ls st g I J with
      | none => none
      | some (.inl f) => qrun n d m f
      | some (.inr (.inl v)) => some (v, g, I, J)
      | some (.inr (.inr (c, as, pc', rest))) => match d with
        | 0 => none
        | d' + 1 => match qrun n d' c (0, qent c as, [], g, I, J) with
          | none => none
          | some (v, g', I', J') => match qthr v with
            | false => qrun n (d' + 1) m (pc', ls, v.toList ++ rest, g', I', J')
            | true => bif Nat.beq m 269 then qrun n (d' + 1) m (13, ls, [.ref g'.2.2.1], (g'.1, g'.2.1, g'.2.2.1 + 1, g'.2.2.2 + 6), I', J') else none) := rfl
theorem qrun_mono1 : ∀ (n d m : Nat) (f : qF) (s : qS), qrun n d m f = some s → qrun (n + 1) d m f = some s := by
  intro n
  induction n with
  | zero => intro d m f s h; cases h
  | succ n ih =>
    intro d m f s h
    obtain ⟨pc, ls, st, g, I, J⟩ := f
    rw [qrun_s] at h ⊢
    cases hx : qP m pc with
    | none => rw [hx] at h; cases h
    | some x =>
      rw [hx] at h
      dsimp only at h ⊢
      cases hs : qstep x pc ls st g I J with
      | none => rw [hs] at h; cases h
      | some r =>
        rw [hs] at h
        obtain f | v | ⟨c, as, pc', rest⟩ := r
        · exact ih _ _ _ _ h
        · exact h
        · dsimp only at h ⊢
          cases d with
          | zero => cases h
          | succ d' =>
            dsimp only at h ⊢
            cases hc : qrun n d' c (0, qent c as, [], g, I, J) with
            | none => rw [hc] at h; cases h
            | some w =>
              rw [hc] at h
              rw [ih _ _ _ _ hc]
              obtain ⟨v, g', I', J'⟩ := w
              dsimp only at h ⊢
              cases ht : qthr v with
              | false => rw [ht] at h; exact ih _ _ _ _ h
              | true =>
                rw [ht] at h
                dsimp only at h ⊢
                cases hb : Nat.beq m 269 with
                | false => rw [hb] at h; cases h
                | true => rw [hb] at h; exact ih _ _ _ _ h
theorem qrun_mono {n d m : Nat} {f : qF} {s : qS} (h : qrun n d m f = some s) (k : Nat) : qrun (n + k) d m f = some s := by
  induction k with
  | zero => exact h
  | succ k ih => exact qrun_mono1 _ _ _ _ _ ih
theorem qev.mono {d m : Nat} {f : qF} {Q Q' : qQ} (h : qev d m f Q) (k : ∀ v g I J, Q v g I J → Q' v g I J) : qev d m f Q' := by
  obtain ⟨n, v, g, I, J, h1, h2⟩ := h
  exact ⟨n, v, g, I, J, h1, k _ _ _ _ h2⟩
theorem qev_next {d m pc : Nat} {ls st : List Value} {g : qG} {I : qI} {J : qJ} {Q : qQ} {x : qE} {f : qF} (hx : qP m pc = some x) (hs : qstep x pc ls st g I J = some (.inl f)) (k : qev d m f Q) : qev d m (pc, ls, st, g, I, J) Q := by
  obtain ⟨n, v, g', I', J', h1, h2⟩ := k
  refine ⟨n + 1, v, g', I', J', ?_, h2⟩
  rw [qrun_s, hx]
  dsimp only
  rw [hs]
  exact h1
theorem qev_ret {d m pc : Nat} {ls st : List Value} {g : qG} {I : qI} {J : qJ} {Q : qQ} {x : qE} {v : Option Value} (hx : qP m pc = some x) (hs : qstep x pc ls st g I J = some (.inr (.inl v))) (k : Q v g I J) : qev d m (pc, ls, st, g, I, J) Q := by
  refine ⟨1, v, g, I, J, ?_, k⟩
  rw [qrun_s, hx]
  dsimp only
  rw [hs]
theorem qev_call {d m pc : Nat} {ls st : List Value} {g : qG} {I : qI} {J : qJ} {Q : qQ} {x : qE} {c pc' : Nat} {as rest : List Value} (hx : qP m pc = some x) (hs : qstep x pc ls st g I J = some (.inr (.inr (c, as, pc', rest))))
    (k : qC d c as g I J (fun v g' I' J' => qthr v = false ∧ qev (d + 1) m (pc', ls, v.toList ++ rest, g', I', J') Q)) : qev (d + 1) m (pc, ls, st, g, I, J) Q := by
  obtain ⟨n1, v1, g1, I1, J1, h1, ht, n2, v, g', I', J', h2, h3⟩ := k
  refine ⟨n1 + n2 + 1, v, g', I', J', ?_, h3⟩
  rw [qrun_s, hx]
  dsimp only
  rw [hs]
  dsimp only
  rw [qrun_mono h1 n2]
  dsimp only
  rw [ht]
  dsimp only
  rw [Nat.add_comm n1 n2]
  exact qrun_mono h2 n1
end
section
def qxg (x : qE) : Bool := match x.1 with
  | .new _ => true
  | .newarray _ => true
  | .anewarray _ => true
  | .aastore => true
  | .putfield _ => Nat.beq x.2.2.2.2 2
  | _ => false
def qxi (x : qE) : Bool := match x.1 with
  | .new _ => true
  | .newarray _ => true
  | .anewarray _ => true
  | .iastore => true
  | .bastore => true
  | .putfield _ => Nat.beq x.2.2.2.2 0 || Nat.beq x.2.2.2.2 3
  | .invokevirtual _ => Nat.beq x.2.2.1 1003
  | .invokespecial _ => Nat.beq x.2.2.1 1003
  | .invokestatic _ => Nat.beq x.2.2.1 1003
  | _ => false
def qxj (x : qE) : Bool := match x.1 with
  | .new _ => true
  | .newarray _ => true
  | .anewarray _ => true
  | .lastore => true
  | .putfield _ => Nat.beq x.2.2.2.2 1
  | _ => false
set_option maxHeartbeats 4000000 in
theorem qstep_keep {x : qE} {pc : Nat} {ls st : List Value} {g : qG} {I : qI} {J : qJ} {pc' : Nat} {ls' st' : List Value} {g' : qG} {I' : qI} {J' : qJ} (h : qstep x pc ls st g I J = some (.inl (pc', ls', st', g', I', J'))) :
    (qxg x = false → g' = g) ∧ (qxi x = false → I' = I) ∧ (qxj x = false → J' = J) := by
  obtain ⟨i, len, a, b, t⟩ := x
  unfold qstep at h
  dsimp only at h
  split at h
  all_goals (try dsimp only [qxg, qxi, qxj])
  all_goals (try unfold qcl at h)
  all_goals (try unfold qpr at h)
  all_goals (try unfold qpf at h)
  all_goals (try dsimp only at h)
  all_goals (repeat' (first | split at h | (simp only [Option.bind_eq_some_iff, Option.some.injEq, Sum.inl.injEq, Prod.mk.injEq, reduceCtorEq, cond_eq_ite] at h)))
  all_goals (try (obtain ⟨-, -, -, rfl, rfl, rfl⟩ := h; simp; done))
  all_goals (try (obtain ⟨-, -, -, -, -, rfl, rfl, rfl⟩ := h; simp; done))
def qfls : List (List Nat) := [[7, 2, 0, 0, 0, 2, 2, 2, 2, 2, 2, 2, 2, 2, 2, 2], [2, 2, 2, 2, 2, 2, 0, 0, 2, 0, 0, 0, 2, 7, 2, 2], [2, 2, 0, 0, 7, 7, 2, 7, 2, 7, 0, 2, 2, 2, 2, 1], [2, 2, 2, 2, 2, 2, 2, 2, 2, 2, 2, 2, 2, 2, 2, 2], [2, 2, 0, 2, 7, 3, 0, 0, 7, 0, 2, 2, 2, 2, 7, 2], [2, 0, 2, 2, 2, 2, 0, 0, 0, 0, 0, 0, 0, 0, 0, 0], [7, 2, 7, 2, 2, 2, 7, 0, 7, 2, 2, 0, 7, 0, 7, 7], [7, 7, 7, 0, 2, 0, 0, 2, 2, 2, 2, 3, 2, 0, 2, 0], [0, 2, 2, 0, 0, 2, 7, 0, 0, 2, 2, 7, 2, 4, 6, 2], [2, 7, 0, 0, 0, 0, 2, 2, 2, 0, 2, 2, 0, 0, 0, 2], [2, 2, 2, 2, 2, 2, 2, 2, 2, 2, 2, 2, 2, 2, 2, 2], [2, 2, 0, 0, 0, 2, 0, 2, 2, 0, 0, 2, 0, 2, 2, 2], [2, 2, 2, 2, 2, 2, 2, 2, 2, 2, 2, 0, 2, 2, 2, 2], [2, 2, 2, 2, 2, 2, 0, 0, 2, 2, 2, 2, 2, 2, 2, 2], [2, 2, 2, 2, 2, 2, 0, 2, 2, 2, 2, 4, 6, 0, 6, 2], [2, 2, 2, 2, 2, 2, 2, 2, 2, 0, 0, 2, 2, 2, 0, 2], [2, 2, 2, 2, 2, 2, 0, 0, 0, 2, 2, 0, 2, 7, 7]]
def qfl (m : Nat) : Nat := qnth (qnth qfls (m / 16) []) (m % 16) 7
def qbG (f : Nat) : Bool := Nat.beq (f % 2) 1
def qbI (f : Nat) : Bool := Nat.beq (f / 2 % 2) 1
def qbJ (f : Nat) : Bool := Nat.beq (f / 4 % 2) 1
def qimp (a b : Bool) : Bool := !a || b
def qisc (x : qE) : Bool := match x.1 with
  | .invokevirtual _ => Nat.blt x.2.2.1 1000
  | .invokespecial _ => Nat.blt x.2.2.1 1000
  | .invokestatic _ => Nat.blt x.2.2.1 1000
  | _ => false
def qfok (f : Nat) (x : qE) : Bool := (qimp (qxg x) (qbG f) && (qimp (qxi x) (qbI f) && qimp (qxj x) (qbJ f))) && qimp (qisc x) (qimp (qbG (qfl x.2.2.1)) (qbG f) && (qimp (qbI (qfl x.2.2.1)) (qbI f) && qimp (qbJ (qfl x.2.2.1)) (qbJ f)))
def qall (m : Nat) (p : qE → Bool) : Bool := (qpm m).all (fun r => r.all (fun o => match o with
  | some x => p x
  | none => true))
theorem qnth_mem {α : Type} : ∀ (l : List α) (n : Nat) (d : α), qnth l n d = d ∨ qnth l n d ∈ l
  | [], _, _ => Or.inl rfl
  | x :: l, 0, _ => Or.inr List.mem_cons_self
  | x :: l, n + 1, d => (qnth_mem l n d).elim Or.inl (fun h => Or.inr (List.mem_cons_of_mem _ h))
theorem qall_at {m pc : Nat} {p : qE → Bool} {x : qE} (h : qall m p = true) (hx : qP m pc = some x) : p x = true := by
  unfold qall at h
  unfold qP at hx
  rcases qnth_mem (qnth (qpm m) (pc / 16) []) (pc % 16) none with e | e
  · rw [e] at hx; cases hx
  · rw [hx] at e
    rcases qnth_mem (qpm m) (pc / 16) [] with e2 | e2
    · rw [e2] at e; cases e
    · exact List.all_eq_true.mp (List.all_eq_true.mp h _ e2) _ e
theorem qpm_big {m : Nat} (h : ¬ m < 271) : qpm m = [] := by
  unfold qpm
  have : Nat.ble m 270 = false := by
    cases hb : Nat.ble m 270 with
    | false => rfl
    | true => exact absurd (Nat.lt_succ_of_le (Nat.le_of_ble_eq_true hb)) h
  rw [this]
  rfl
theorem qP_lt {m pc : Nat} {x : qE} (h : qP m pc = some x) : m < 271 := by
  by_cases hm : m < 271
  · exact hm
  · unfold qP at h
    rw [qpm_big hm] at h
    cases h
set_option maxRecDepth 100000 in
theorem qfok_all : ∀ m, m < 271 → qall m (qfok (qfl m)) = true := by decide +kernel
theorem qimp_f {a b : Bool} (h : qimp a b = true) (hb : b = false) : a = false := by
  cases a <;> cases b <;> simp_all [qimp]
theorem qfok_at {m pc : Nat} {x : qE} (hx : qP m pc = some x) : qfok (qfl m) x = true := qall_at (qfok_all m (qP_lt hx)) hx
theorem qstep_call {x : qE} {pc : Nat} {ls st : List Value} {g : qG} {I : qI} {J : qJ} {c : Nat} {as : List Value} {pc' : Nat} {r : List Value} (h : qstep x pc ls st g I J = some (.inr (.inr (c, as, pc', r)))) : x.2.2.1 = c ∧ qisc x = true := by
  obtain ⟨i, len, a, b, t⟩ := x
  unfold qstep at h
  dsimp only at h
  split at h
  all_goals (try unfold qcl at h)
  all_goals (try unfold qpr at h)
  all_goals (try unfold qpf at h)
  all_goals (try dsimp only at h)
  all_goals (cases hq : Nat.ble 1000 a)
  all_goals (try rw [hq] at h)
  all_goals (try dsimp only [cond] at h)
  all_goals (repeat' (first | split at h | (simp only [Option.bind_eq_some_iff, Option.some.injEq, Sum.inr.injEq, Prod.mk.injEq, reduceCtorEq, cond_eq_ite, and_false, exists_false, false_and] at h)))
  all_goals (try (simp only [Option.bind_eq_some_iff, Option.some.injEq, Sum.inr.injEq, Prod.mk.injEq, reduceCtorEq, and_false, exists_false] at h; done))
  all_goals (obtain ⟨rfl, -⟩ := h; refine ⟨rfl, ?_⟩; simp only [qisc]; have := Nat.not_le.mp (fun h => Bool.noConfusion (hq.symm.trans (Nat.ble_eq_true_of_le h))); exact Nat.ble_eq_true_of_le this)
theorem qrun_keep : ∀ (n d m : Nat) (f : qF) (v : Option Value) (g' : qG) (I' : qI) (J' : qJ), qrun n d m f = some (v, g', I', J') →
    (qbG (qfl m) = false → g' = f.2.2.2.1) ∧ (qbI (qfl m) = false → I' = f.2.2.2.2.1) ∧ (qbJ (qfl m) = false → J' = f.2.2.2.2.2) := by
  intro n
  induction n with
  | zero => intro d m f v g' I' J' h; cases h
  | succ n ih =>
    intro d m f v g' I' J' h
    obtain ⟨pc, ls, st, g, I, J⟩ := f
    rw [qrun_s] at h
    cases hx : qP m pc with
    | none => rw [hx] at h; cases h
    | some x =>
      rw [hx] at h
      dsimp only at h ⊢
      have hok := qfok_at hx
      unfold qfok at hok
      simp only [Bool.and_eq_true] at hok
      obtain ⟨⟨o1, o2, o3⟩, o4⟩ := hok
      cases hs : qstep x pc ls st g I J with
      | none => rw [hs] at h; cases h
      | some r =>
        rw [hs] at h
        obtain ⟨pc1, ls1, st1, g1, I1, J1⟩ | v1 | ⟨c, as, pc', rest⟩ := r
        · obtain ⟨k1, k2, k3⟩ := qstep_keep hs
          obtain ⟨i1, i2, i3⟩ := ih _ _ _ _ _ _ _ h
          exact ⟨fun hb => (i1 hb).trans (k1 (qimp_f o1 hb)), fun hb => (i2 hb).trans (k2 (qimp_f o2 hb)), fun hb => (i3 hb).trans (k3 (qimp_f o3 hb))⟩
        · cases h
          exact ⟨fun _ => rfl, fun _ => rfl, fun _ => rfl⟩
        · dsimp only at h
          obtain ⟨hc, hi⟩ := qstep_call hs
          subst hc
          rw [hi] at o4
          simp only [qimp, Bool.not_true, Bool.false_or, Bool.and_eq_true] at o4
          obtain ⟨p1, p2, p3⟩ := o4
          cases d with
          | zero => cases h
          | succ d' =>
            dsimp only at h
            cases hc : qrun n d' x.2.2.1 (0, qent x.2.2.1 as, [], g, I, J) with
            | none => rw [hc] at h; cases h
            | some w =>
              rw [hc] at h
              obtain ⟨v2, g2, I2, J2⟩ := w
              obtain ⟨j1, j2, j3⟩ := ih _ _ _ _ _ _ _ hc
              dsimp only at h
              cases ht : qthr v2 with
              | false =>
                rw [ht] at h
                obtain ⟨i1, i2, i3⟩ := ih _ _ _ _ _ _ _ h
                exact ⟨fun hb => (i1 hb).trans (j1 (qimp_f p1 hb)), fun hb => (i2 hb).trans (j2 (qimp_f p2 hb)), fun hb => (i3 hb).trans (j3 (qimp_f p3 hb))⟩
              | true =>
                rw [ht] at h
                dsimp only at h
                cases hb : Nat.beq m 269 with
                | false => rw [hb] at h; cases h
                | true =>
                  rw [hb] at h
                  obtain ⟨i1, i2, i3⟩ := ih _ _ _ _ _ _ _ h
                  have hm : m = 269 := Nat.eq_of_beq_eq_true hb
                  refine ⟨fun hb => ?_, fun hb => (i2 hb).trans (j2 (qimp_f p2 hb)), fun hb => (i3 hb).trans (j3 (qimp_f p3 hb))⟩
                  subst hm
                  exact absurd hb (by decide)
end
section
/-! rows of the abstract machine, an instruction each; 'hx': the program's entry, 'hp': the next place -/
section QRULES
variable {d m pc pc' : Nat} {ls st r : List Value} {g : qG} {I : qI} {J : qJ} {Q : qQ}
theorem e_iconst {n : Int} {v : Int32} (hx : qP m pc = some (.iconst n, 1, 0, 0, 0)) (hp : pc + 1 = pc') (hv : Int32.ofInt n = v) (k : qev d m (pc', ls, .int v :: st, g, I, J) Q) : qev d m (pc, ls, st, g, I, J) Q := by
  subst hv hp; exact qev_next hx rfl k
theorem e_bipush {n : Int} {v : Int32} (hx : qP m pc = some (.bipush n, 2, 0, 0, 0)) (hp : pc + 2 = pc') (hv : (Int8.ofInt n).toInt32 = v) (k : qev d m (pc', ls, .int v :: st, g, I, J) Q) : qev d m (pc, ls, st, g, I, J) Q := by
  subst hv hp; exact qev_next hx rfl k
theorem e_sipush {n : Int} {v : Int32} (hx : qP m pc = some (.sipush n, 3, 0, 0, 0)) (hp : pc + 3 = pc') (hv : (Int16.ofInt n).toInt32 = v) (k : qev d m (pc', ls, .int v :: st, g, I, J) Q) : qev d m (pc, ls, st, g, I, J) Q := by
  subst hv hp; exact qev_next hx rfl k
theorem e_ldc {i a : Nat} {v : Int32} (hx : qP m pc = some (.ldc i, 2, a, 0, 0)) (hp : pc + 2 = pc') (hv : Int32.ofNat a = v) (k : qev d m (pc', ls, .int v :: st, g, I, J) Q) : qev d m (pc, ls, st, g, I, J) Q := by
  subst hv hp; exact qev_next hx rfl k
theorem e_ldcw {i a : Nat} {v : Int32} (hx : qP m pc = some (.ldc_w i, 3, a, 0, 0)) (hp : pc + 3 = pc') (hv : Int32.ofNat a = v) (k : qev d m (pc', ls, .int v :: st, g, I, J) Q) : qev d m (pc, ls, st, g, I, J) Q := by
  subst hv hp; exact qev_next hx rfl k
theorem e_lconst {n : Fin 2} {v : Int64} (hx : qP m pc = some (.lconst n, 1, 0, 0, 0)) (hp : pc + 1 = pc') (hv : Int64.ofNat (n : Nat) = v) (k : qev d m (pc', ls, .long v :: st, g, I, J) Q) : qev d m (pc, ls, st, g, I, J) Q := by
  subst hv hp; exact qev_next hx rfl k
theorem e_ldc2 {i a : Nat} {v : Int64} (hx : qP m pc = some (.ldc2_w i, 3, a, 0, 0)) (hp : pc + 3 = pc') (hv : Int64.ofNat a = v) (k : qev d m (pc', ls, .long v :: st, g, I, J) Q) : qev d m (pc, ls, st, g, I, J) Q := by
  subst hv hp; exact qev_next hx rfl k
theorem e_next {x : qE} {ls' st' : List Value} (hx : qP m pc = some x) (hs : qstep x pc ls st g I J = some (.inl (pc', ls', st', g, I, J))) (k : qev d m (pc', ls', st', g, I, J) Q) : qev d m (pc, ls, st, g, I, J) Q := qev_next hx hs k
theorem e_if {c : Jvm.ClassFile.Cond} {o : Int} {t : Nat} {x : Int32} (P : Prop) (hx : qP m pc = some (.ifCond c o, 3, t, 0, 0)) (hp : pc + 3 = pc') (hP : qc1 c x = true ↔ P) (k1 : P → qev d m (t, ls, st, g, I, J) Q) (k2 : ¬ P → qev d m (pc', ls, st, g, I, J) Q) : qev d m (pc, ls, .int x :: st, g, I, J) Q := by
  subst hp
  cases hc : qc1 c x with
  | true => exact qev_next hx (by show (bif qc1 c x then _ else _) = _; rw [hc]; rfl) (k1 (hP.mp hc))
  | false => exact qev_next hx (by show (bif qc1 c x then _ else _) = _; rw [hc]; rfl) (k2 (fun h => Bool.noConfusion (hc.symm.trans (hP.mpr h))))
theorem e_icmp {c : Jvm.ClassFile.Cond} {o : Int} {t : Nat} {x y : Int32} (P : Prop) (hx : qP m pc = some (.if_icmp c o, 3, t, 0, 0)) (hp : pc + 3 = pc') (hP : qc2 c x y = true ↔ P) (k1 : P → qev d m (t, ls, st, g, I, J) Q) (k2 : ¬ P → qev d m (pc', ls, st, g, I, J) Q) : qev d m (pc, ls, .int y :: .int x :: st, g, I, J) Q := by
  subst hp
  cases hc : qc2 c x y with
  | true => exact qev_next hx (by show (bif qc2 c x y then _ else _) = _; rw [hc]; rfl) (k1 (hP.mp hc))
  | false => exact qev_next hx (by show (bif qc2 c x y then _ else _) = _; rw [hc]; rfl) (k2 (fun h => Bool.noConfusion (hc.symm.trans (hP.mpr h))))
theorem e_d {P : Prop} [h : Decidable P] : decide P = true ↔ P := decide_eq_true_iff
theorem e_ifnull {o : Int} {t : Nat} {x : Option Nat} (hx : qP m pc = some (.ifnull o, 3, t, 0, 0)) (hp : pc + 3 = pc') (k1 : x = none → qev d m (t, ls, st, g, I, J) Q) (k2 : ∀ b, x = some b → qev d m (pc', ls, st, g, I, J) Q) : qev d m (pc, ls, va_rf x :: st, g, I, J) Q := by
  subst hp
  cases x with
  | none => exact qev_next hx rfl (k1 rfl)
  | some b => exact qev_next hx rfl (k2 b rfl)
theorem e_ifnonnull {o : Int} {t : Nat} {x : Option Nat} (hx : qP m pc = some (.ifnonnull o, 3, t, 0, 0)) (hp : pc + 3 = pc') (k1 : ∀ b, x = some b → qev d m (t, ls, st, g, I, J) Q) (k2 : x = none → qev d m (pc', ls, st, g, I, J) Q) : qev d m (pc, ls, va_rf x :: st, g, I, J) Q := by
  subst hp
  cases x with
  | none => exact qev_next hx rfl (k2 rfl)
  | some b => exact qev_next hx rfl (k1 b rfl)
theorem e_bin {i : Instr} {x y v : Int32} (hx : qP m pc = some (i, 1, 0, 0, 0)) (hs : qstep (i, 1, 0, 0, 0) pc ls (.int y :: .int x :: st) g I J = (qi2 i x y).bind (fun v => qnx (pc + 1) ls (.int v :: st) g I J)) (hp : pc + 1 = pc') (hv : qi2 i x y = some v) (k : qev d m (pc', ls, .int v :: st, g, I, J) Q) : qev d m (pc, ls, .int y :: .int x :: st, g, I, J) Q := by
  subst hp
  exact qev_next hx (by rw [hs, hv]; rfl) k
theorem e_idiv {x y : Int32} (hx : qP m pc = some (.idiv, 1, 0, 0, 0)) (hp : pc + 1 = pc') (h0 : ¬ y = 0) (k : qev d m (pc', ls, .int (x / y) :: st, g, I, J) Q) : qev d m (pc, ls, .int y :: .int x :: st, g, I, J) Q :=
  e_bin hx rfl hp (if_neg h0) k
theorem e_irem {x y : Int32} (hx : qP m pc = some (.irem, 1, 0, 0, 0)) (hp : pc + 1 = pc') (h0 : ¬ y = 0) (k : qev d m (pc', ls, .int (x - x / y * y) :: st, g, I, J) Q) : qev d m (pc, ls, .int y :: .int x :: st, g, I, J) Q :=
  e_bin hx rfl hp (if_neg h0) k
theorem e_lrem {x y : Int64} (hx : qP m pc = some (.lrem, 1, 0, 0, 0)) (hp : pc + 1 = pc') (h0 : ¬ y = 0) (k : qev d m (pc', ls, .long (x - x / y * y) :: st, g, I, J) Q) : qev d m (pc, ls, .long y :: .long x :: st, g, I, J) Q := by
  subst hp
  refine qev_next hx ?_ k
  show (if y = 0 then none else some (x - x / y * y)).bind _ = _
  rw [if_neg h0]
  rfl
theorem e_getI {ix a b t o : Nat} (hx : qP m pc = some (.getfield ix, 3, a, b, t)) (ht : t = 0 ∨ t = 3) (hp : pc + 3 = pc') (ho : qob g o a = true) (k : qev d m (pc', ls, .int (I o b) :: st, g, I, J) Q) : qev d m (pc, ls, .ref o :: st, g, I, J) Q := by
  subst hp
  refine qev_next hx ?_ k
  show (qgf a b t g I J o).bind _ = _
  unfold qgf
  rw [ho]
  rcases ht with rfl | rfl <;> rfl
theorem e_getJ {ix a b o : Nat} (hx : qP m pc = some (.getfield ix, 3, a, b, 1)) (hp : pc + 3 = pc') (ho : qob g o a = true) (k : qev d m (pc', ls, .long (J o b) :: st, g, I, J) Q) : qev d m (pc, ls, .ref o :: st, g, I, J) Q := by
  subst hp
  refine qev_next hx ?_ k
  show (qgf a b 1 g I J o).bind _ = _
  unfold qgf
  rw [ho]
  rfl
theorem e_getA {ix a b o : Nat} {v : Option Nat} (hx : qP m pc = some (.getfield ix, 3, a, b, 2)) (hp : pc + 3 = pc') (ho : qob g o a = true) (hv : g.2.1 o b = v) (k : qev d m (pc', ls, va_rf v :: st, g, I, J) Q) : qev d m (pc, ls, .ref o :: st, g, I, J) Q := by
  subst hp hv
  refine qev_next hx ?_ k
  show (qgf a b 2 g I J o).bind _ = _
  unfold qgf
  rw [ho]
  rfl
theorem e_putI {ix a b o : Nat} {v : Int32} (hx : qP m pc = some (.putfield ix, 3, a, b, 0)) (hp : pc + 3 = pc') (ho : qob g o a = true) (k : qev d m (pc', ls, st, g, qw I o b v, J) Q) : qev d m (pc, ls, .int v :: .ref o :: st, g, I, J) Q := by
  subst hp
  refine qev_next hx ?_ k
  show (bif qob g o a then _ else _) = _
  rw [ho]
  rfl
theorem e_putZ {ix a b o : Nat} {v : Int32} (hx : qP m pc = some (.putfield ix, 3, a, b, 3)) (hp : pc + 3 = pc') (ho : qob g o a = true) (hv : v = 0 ∨ v = 1) (k : qev d m (pc', ls, st, g, qw I o b v, J) Q) : qev d m (pc, ls, .int v :: .ref o :: st, g, I, J) Q := by
  subst hp
  refine qev_next hx ?_ k
  show (bif qob g o a then _ else _) = _
  rw [ho]
  show (if v = 0 ∨ v = 1 then _ else _) = _
  rw [if_pos hv]
theorem e_putJ {ix a b o : Nat} {v : Int64} (hx : qP m pc = some (.putfield ix, 3, a, b, 1)) (hp : pc + 3 = pc') (ho : qob g o a = true) (k : qev d m (pc', ls, st, g, I, qw J o b v) Q) : qev d m (pc, ls, .long v :: .ref o :: st, g, I, J) Q := by
  subst hp
  refine qev_next hx ?_ k
  show (bif qob g o a then _ else _) = _
  rw [ho]
  rfl
theorem e_putA {ix a b o : Nat} {v : Option Nat} (hx : qP m pc = some (.putfield ix, 3, a, b, 2)) (hp : pc + 3 = pc') (ho : qob g o a = true) (k : qev d m (pc', ls, st, (g.1, qw g.2.1 o b v, g.2.2), I, J) Q) : qev d m (pc, ls, va_rf v :: .ref o :: st, g, I, J) Q := by
  subst hp
  cases v with
  | none =>
    refine qev_next hx ?_ k
    show (bif qob g o a then _ else _) = _
    rw [ho]
    rfl
  | some v =>
    refine qev_next hx ?_ k
    show (bif qob g o a then _ else _) = _
    rw [ho]
    rfl
theorem qix_of {i : Int32} {j n : Nat} (hi : i = nI j) (hj : j < n) (hn : n < 2 ^ 31) : qix i n = true ∧ i.toNatClampNeg = j := by
  subst hi
  refine ⟨decide_eq_true ?_, nI_clamp (Nat.lt_trans hj hn)⟩
  rw [nI_toInt (Nat.lt_trans hj hn)]
  omega
theorem qar_k {o t n : Nat} (h : qar g o t = some n) : g.1 o = some (t, n) := by
  unfold qar at h
  split at h
  · rename_i k n' e
    cases hb : Nat.beq k t with
    | true =>
      rw [hb] at h
      cases h
      rw [e, Nat.eq_of_beq_eq_true hb]
    | false => rw [hb] at h; cases h
  · cases h
theorem e_alen {o k n : Nat} {v : Int32} (hx : qP m pc = some (.arraylength, 1, 0, 0, 0)) (hp : pc + 1 = pc') (ha : g.1 o = some (k, n)) (hk : Nat.ble 100 k = true) (hv : Int32.ofNat n = v) (kk : qev d m (pc', ls, .int v :: st, g, I, J) Q) : qev d m (pc, ls, .ref o :: st, g, I, J) Q := by
  subst hp hv
  refine qev_next hx ?_ kk
  show (match g.1 o with
        | some (k, n) => bif Nat.ble 100 k then qnx (pc + 1) ls (.int (Int32.ofNat n) :: st) g I J else none
        | none => none) = _
  rw [ha]
  dsimp only
  rw [hk]
  rfl
theorem e_iald {o n : Nat} {i : Int32} (j : Nat) (hx : qP m pc = some (.iaload, 1, 0, 0, 0)) (hp : pc + 1 = pc') (ha : g.1 o = some (100, n)) (hi : i = nI j) (hj : j < n) (hn : n < 2 ^ 31) (k : qev d m (pc', ls, .int (I o j) :: st, g, I, J) Q) : qev d m (pc, ls, .int i :: .ref o :: st, g, I, J) Q := by
  subst hp
  obtain ⟨h1, h2⟩ := qix_of hi hj hn
  refine qev_next hx ?_ k
  show (match g.1 o with
        | some (k, n) => bif qix i n && (Nat.beq k 100 || Nat.beq k 110) then qnx (pc + 1) ls (.int (I o i.toNatClampNeg) :: st) g I J else none
        | none => none) = _
  rw [ha, h2]
  dsimp only
  rw [h1]
  rfl
theorem e_sald {o n : Nat} {i : Int32} (j : Nat) (hx : qP m pc = some (.iaload, 1, 0, 0, 0)) (hp : pc + 1 = pc') (ha : g.1 o = some (110, n)) (hi : i = nI j) (hj : j < n) (hn : n < 2 ^ 31) (k : qev d m (pc', ls, .int (I o j) :: st, g, I, J) Q) : qev d m (pc, ls, .int i :: .ref o :: st, g, I, J) Q := by
  subst hp
  obtain ⟨h1, h2⟩ := qix_of hi hj hn
  refine qev_next hx ?_ k
  show (match g.1 o with
        | some (k, n) => bif qix i n && (Nat.beq k 100 || Nat.beq k 110) then qnx (pc + 1) ls (.int (I o i.toNatClampNeg) :: st) g I J else none
        | none => none) = _
  rw [ha, h2]
  dsimp only
  rw [h1]
  rfl
theorem e_bald {o n : Nat} {i : Int32} (j : Nat) (hx : qP m pc = some (.baload, 1, 0, 0, 0)) (hp : pc + 1 = pc') (ha : g.1 o = some (101, n)) (hi : i = nI j) (hj : j < n) (hn : n < 2 ^ 31) (k : qev d m (pc', ls, .int (I o j) :: st, g, I, J) Q) : qev d m (pc, ls, .int i :: .ref o :: st, g, I, J) Q := by
  subst hp
  obtain ⟨h1, h2⟩ := qix_of hi hj hn
  refine qev_next hx ?_ k
  show (match qar g o 101 with
        | some n => bif qix i n then qnx (pc + 1) ls (.int (I o i.toNatClampNeg) :: st) g I J else none
        | none => none) = _
  rw [show qar g o 101 = some n by unfold qar; rw [ha]; rfl, h2]
  dsimp only
  rw [h1]
  rfl
theorem e_lald {o n : Nat} {i : Int32} (j : Nat) (hx : qP m pc = some (.laload, 1, 0, 0, 0)) (hp : pc + 1 = pc') (ha : g.1 o = some (102, n)) (hi : i = nI j) (hj : j < n) (hn : n < 2 ^ 31) (k : qev d m (pc', ls, .long (J o j) :: st, g, I, J) Q) : qev d m (pc, ls, .int i :: .ref o :: st, g, I, J) Q := by
  subst hp
  obtain ⟨h1, h2⟩ := qix_of hi hj hn
  refine qev_next hx ?_ k
  show (match qar g o 102 with
        | some n => bif qix i n then qnx (pc + 1) ls (.long (J o i.toNatClampNeg) :: st) g I J else none
        | none => none) = _
  rw [show qar g o 102 = some n by unfold qar; rw [ha]; rfl, h2]
  dsimp only
  rw [h1]
  rfl
theorem e_aald {o n c : Nat} {i : Int32} {v : Option Nat} (j : Nat) (hx : qP m pc = some (.aaload, 1, 0, 0, 0)) (hp : pc + 1 = pc') (ha : g.1 o = some (c, n)) (hc : (Nat.beq c 103 || (Nat.beq c 104 || Nat.beq c 105)) = true) (hi : i = nI j) (hj : j < n) (hn : n < 2 ^ 31) (hv : g.2.1 o j = v) (k : qev d m (pc', ls, va_rf v :: st, g, I, J) Q) : qev d m (pc, ls, .int i :: .ref o :: st, g, I, J) Q := by
  subst hp hv
  obtain ⟨h1, h2⟩ := qix_of hi hj hn
  refine qev_next hx ?_ k
  show (match g.1 o with
        | some (k, n) => bif qix i n && (Nat.beq k 103 || (Nat.beq k 104 || Nat.beq k 105)) then qnx (pc + 1) ls (va_rf (g.2.1 o i.toNatClampNeg) :: st) g I J else none
        | none => none) = _
  rw [ha, h2]
  dsimp only
  rw [h1, hc]
  rfl
theorem e_iast {o n : Nat} {i v : Int32} (j : Nat) (hx : qP m pc = some (.iastore, 1, 0, 0, 0)) (hp : pc + 1 = pc') (ha : g.1 o = some (100, n)) (hi : i = nI j) (hj : j < n) (hn : n < 2 ^ 31) (k : qev d m (pc', ls, st, g, qw I o j v, J) Q) : qev d m (pc, ls, .int v :: .int i :: .ref o :: st, g, I, J) Q := by
  subst hp
  obtain ⟨h1, h2⟩ := qix_of hi hj hn
  refine qev_next hx ?_ k
  show (match qar g o 100 with
        | some n => bif qix i n then qnx (pc + 1) ls st g (qw I o i.toNatClampNeg v) J else none
        | none => none) = _
  rw [show qar g o 100 = some n by unfold qar; rw [ha]; rfl, h2]
  dsimp only
  rw [h1]
  rfl
theorem e_bast {o n : Nat} {i v : Int32} (j : Nat) (hx : qP m pc = some (.bastore, 1, 0, 0, 0)) (hp : pc + 1 = pc') (ha : g.1 o = some (101, n)) (hi : i = nI j) (hj : j < n) (hn : n < 2 ^ 31) (k : qev d m (pc', ls, st, g, qw I o j v.toInt8.toInt32, J) Q) : qev d m (pc, ls, .int v :: .int i :: .ref o :: st, g, I, J) Q := by
  subst hp
  obtain ⟨h1, h2⟩ := qix_of hi hj hn
  refine qev_next hx ?_ k
  show (match qar g o 101 with
        | some n => bif qix i n then qnx (pc + 1) ls st g (qw I o i.toNatClampNeg v.toInt8.toInt32) J else none
        | none => none) = _
  rw [show qar g o 101 = some n by unfold qar; rw [ha]; rfl, h2]
  dsimp only
  rw [h1]
  rfl
theorem e_last {o n : Nat} {i : Int32} {v : Int64} (j : Nat) (hx : qP m pc = some (.lastore, 1, 0, 0, 0)) (hp : pc + 1 = pc') (ha : g.1 o = some (102, n)) (hi : i = nI j) (hj : j < n) (hn : n < 2 ^ 31) (k : qev d m (pc', ls, st, g, I, qw J o j v) Q) : qev d m (pc, ls, .long v :: .int i :: .ref o :: st, g, I, J) Q := by
  subst hp
  obtain ⟨h1, h2⟩ := qix_of hi hj hn
  refine qev_next hx ?_ k
  show (match qar g o 102 with
        | some n => bif qix i n then qnx (pc + 1) ls st g I (qw J o i.toNatClampNeg v) else none
        | none => none) = _
  rw [show qar g o 102 = some n by unfold qar; rw [ha]; rfl, h2]
  dsimp only
  rw [h1]
  rfl
theorem e_aast {o n c v : Nat} {i : Int32} (j : Nat) (hx : qP m pc = some (.aastore, 1, 0, 0, 0)) (hp : pc + 1 = pc') (ha : g.1 o = some (c, n)) (hc : (Nat.beq c 103 || (Nat.beq c 104 || Nat.beq c 105)) = true) (ho : qob g v (qel c) = true) (hi : i = nI j) (hj : j < n) (hn : n < 2 ^ 31) (k : qev d m (pc', ls, st, (g.1, qw g.2.1 o j (some v), g.2.2), I, J) Q) : qev d m (pc, ls, .ref v :: .int i :: .ref o :: st, g, I, J) Q := by
  subst hp
  obtain ⟨h1, h2⟩ := qix_of hi hj hn
  refine qev_next hx ?_ k
  show (match g.1 o with
        | some (k, n) => bif qix i n && ((Nat.beq k 103 || (Nat.beq k 104 || Nat.beq k 105)) && qob g v (qel k)) then qnx (pc + 1) ls st (g.1, qw g.2.1 o i.toNatClampNeg (some v), g.2.2) I J else none
        | none => none) = _
  rw [ha, h2]
  dsimp only
  rw [h1, hc, ho]
  rfl
theorem e_newa {ty : Jvm.ClassFile.ArrayType} {v : Int32} (t n : Nat) (hx : qP m pc = some (.newarray ty, 2, 0, 0, 0)) (ht : (ty = .int ∧ t = 100) ∨ (ty = .byte ∧ t = 101) ∨ (ty = .long ∧ t = 102)) (hp : pc + 2 = pc') (hv : v = nI n) (hn : n ≤ 1000000) (k : qev d m (pc', ls, .ref g.2.2.1 :: st, qmk t n g, qmI g I, qmJ g J) Q) : qev d m (pc, ls, .int v :: st, g, I, J) Q := by
  subst hp hv
  have h1 : (nI n).toInt = (n : Int) := nI_toInt (by omega)
  have h2 : (nI n).toNatClampNeg = n := nI_clamp (by omega)
  refine qev_next hx ?_ k
  show (if 0 ≤ (nI n).toInt ∧ (nI n).toInt ≤ 1000000 then _ else _) = _
  rw [if_pos (by rw [h1]; omega), h2]
  rcases ht with ⟨rfl, rfl⟩ | ⟨rfl, rfl⟩ | ⟨rfl, rfl⟩ <;> rfl
theorem e_anew {ix a : Nat} {v : Int32} (n : Nat) (hx : qP m pc = some (.anewarray ix, 3, a, 0, 0)) (hp : pc + 3 = pc') (hv : v = nI n) (hn : n ≤ 1000000) (k : qev d m (pc', ls, .ref g.2.2.1 :: st, qmk a n g, qmI g I, qmJ g J) Q) : qev d m (pc, ls, .int v :: st, g, I, J) Q := by
  subst hp hv
  have h1 : (nI n).toInt = (n : Int) := nI_toInt (by omega)
  have h2 : (nI n).toNatClampNeg = n := nI_clamp (by omega)
  refine qev_next hx ?_ k
  show (if 0 ≤ (nI n).toInt ∧ (nI n).toInt ≤ 1000000 then _ else _) = _
  rw [if_pos (by rw [h1]; omega), h2]
theorem e_new {ix a b : Nat} (hx : qP m pc = some (.new ix, 3, a, b, 0)) (hp : pc + 3 = pc') (ha : Nat.beq a 99 = false) (k : qev d m (pc', ls, .ref g.2.2.1 :: st, qmk a b g, qmI g I, qmJ g J) Q) : qev d m (pc, ls, st, g, I, J) Q := by
  subst hp
  refine qev_next hx ?_ k
  show (bif Nat.beq a 99 then _ else _) = _
  rw [ha]
  rfl
theorem e_iret {v : Int32} (hx : qP m pc = some (.ireturn, 1, 0, 0, 0)) (k : Q (some (.int v)) g I J) : qev d m (pc, ls, [.int v], g, I, J) Q := qev_ret hx rfl k
theorem e_zret {v : Int32} (hx : qP m pc = some (.ireturn, 1, 0, 0, 3)) (hv : v = 0 ∨ v = 1) (k : Q (some (.int v)) g I J) : qev d m (pc, ls, [.int v], g, I, J) Q := qev_ret hx (by show (if v = 0 ∨ v = 1 then _ else _) = _; rw [if_pos hv]) k
theorem e_aret {v : Option Nat} (hx : qP m pc = some (.areturn, 1, 0, 0, 0)) (k : Q (some (va_rf v)) g I J) : qev d m (pc, ls, [va_rf v], g, I, J) Q := by
  cases v with
  | none => exact qev_ret hx rfl k
  | some v => exact qev_ret hx rfl k
theorem e_min {ix : Nat} {x y : Int32} (hx : qP m pc = some (.invokestatic ix, 3, 1001, 2, 1)) (hp : pc + 3 = pc') (hr : qfs st ≤ 8) (k : qev d m (pc', ls, .int (if y < x then y else x) :: st, g, I, J) Q) : qev d m (pc, ls, .int y :: .int x :: st, g, I, J) Q := by
  subst hp
  refine qev_next hx ?_ k
  show (if qfs st ≤ 8 then _ else _) = _
  rw [if_pos hr]
theorem e_max {ix : Nat} {x y : Int32} (hx : qP m pc = some (.invokestatic ix, 3, 1002, 2, 1)) (hp : pc + 3 = pc') (hr : qfs st ≤ 8) (k : qev d m (pc', ls, .int (if x < y then y else x) :: st, g, I, J) Q) : qev d m (pc, ls, .int y :: .int x :: st, g, I, J) Q := by
  subst hp
  refine qev_next hx ?_ k
  show (if qfs st ≤ 8 then _ else _) = _
  rw [if_pos hr]
theorem e_copy {ix a b na nb : Nat} {sp dp n : Int32} (s0 d0 n0 : Nat) (hx : qP m pc = some (.invokestatic ix, 3, 1003, 5, 1)) (hp : pc + 3 = pc') (hr : qfs st ≤ 8) (ha : g.1 a = some (100, na)) (hb : g.1 b = some (100, nb)) (hs : sp = nI s0) (hd : dp = nI d0) (hn : n = nI n0) (h1 : s0 + n0 ≤ na) (h2 : d0 + n0 ≤ nb) (h3 : na < 2 ^ 31) (h4 : nb < 2 ^ 31) (k : qev d m (pc', ls, st, g, va_up I b (va_cpy (I a) (I b) s0 d0 n0), J) Q) : qev d m (pc, ls, .int n :: .int dp :: .ref b :: .int sp :: .ref a :: st, g, I, J) Q := by
  subst hp hs hd hn
  refine qev_next hx ?_ k
  show (match qar g a 100, qar g b 100 with
      | some na, some nb => if (0 ≤ (nI s0).toInt ∧ 0 ≤ (nI d0).toInt ∧ 0 ≤ (nI n0).toInt ∧ (nI s0).toInt + (nI n0).toInt ≤ na ∧ (nI d0).toInt + (nI n0).toInt ≤ nb) ∧ qfs st ≤ 8 then
          qnx (pc + 3) ls st g (va_up I b (va_cpy (I a) (I b) (nI s0).toNatClampNeg (nI d0).toNatClampNeg (nI n0).toNatClampNeg)) J else none
      | _, _ => none) = _
  rw [show qar g a 100 = some na by unfold qar; rw [ha]; rfl, show qar g b 100 = some nb by unfold qar; rw [hb]; rfl]
  dsimp only
  rw [nI_toInt (show s0 < 2 ^ 31 by omega), nI_toInt (show d0 < 2 ^ 31 by omega), nI_toInt (show n0 < 2 ^ 31 by omega), nI_clamp (show s0 < 2 ^ 31 by omega), nI_clamp (show d0 < 2 ^ 31 by omega), nI_clamp (show n0 < 2 ^ 31 by omega)]
  rw [if_pos ⟨by omega, hr⟩]
theorem e_slen {ix o n : Nat} (hx : qP m pc = some (.invokevirtual ix, 3, 1004, 0, 0)) (hp : pc + 3 = pc') (h1 : 1 ≤ o) (h3 : o ≤ 3) (hn : (qstr o).length = n) (hr : qfs st ≤ 8) (k : qev d m (pc', ls, .int (nI n) :: st, g, I, J) Q) : qev d m (pc, ls, .ref o :: st, g, I, J) Q := by
  subst hp hn
  refine qev_next hx ?_ k
  show (if 1 ≤ o ∧ o ≤ 3 ∧ qfs st ≤ 8 then _ else _) = _
  rw [if_pos ⟨h1, h3, hr⟩]
  rfl
theorem e_sch {ix o : Nat} {i : Int32} (j : Nat) (hx : qP m pc = some (.invokevirtual ix, 3, 1005, 1, 0)) (hp : pc + 3 = pc') (h1 : 1 ≤ o) (h3 : o ≤ 3) (hi : i = nI j) (hj : j < (qstr o).length) (hr : qfs st ≤ 8) (k : qev d m (pc', ls, .int (nI ((qstr o).getD j 0)) :: st, g, I, J) Q) : qev d m (pc, ls, .int i :: .ref o :: st, g, I, J) Q := by
  subst hp
  have hl : (qstr o).length < 2 ^ 31 := by
    rcases (show o = 1 ∨ o = 2 ∨ o = 3 by omega) with rfl | rfl | rfl <;> decide
  obtain ⟨h4, h5⟩ := qix_of hi hj hl
  refine qev_next hx ?_ k
  show (if 1 ≤ o ∧ o ≤ 3 ∧ qfs st ≤ 8 then (if qix i (qstr o).length = true then _ else _) else _) = _
  rw [if_pos ⟨h1, h3, hr⟩, if_pos h4, h5]
  rfl
/-- a call, by what the callee leaves alone -/
def qkg (c : Nat) (g g' : qG) : qG := bif qbG (qfl c) then g' else g
theorem e_callX {x : qE} {c : Nat} {as : List Value} {rest : List Value} (hx : qP m pc = some x) (hs : qstep x pc ls st g I J = some (.inr (.inr (c, as, pc', rest))))
    (k : qC d c as g I J (fun v g' I' J' => ((qbG (qfl c) = false → g' = g) ∧ (qbI (qfl c) = false → I' = I) ∧ (qbJ (qfl c) = false → J' = J)) → qthr v = false ∧ qev (d + 1) m (pc', ls, v.toList ++ rest, g', I', J') Q)) : qev (d + 1) m (pc, ls, st, g, I, J) Q := by
  refine qev_call hx hs ?_
  obtain ⟨n, v, g', I', J', h1, h2⟩ := k
  exact ⟨n, v, g', I', J', h1, h2 (qrun_keep _ _ _ _ _ _ _ _ h1)⟩
theorem e_cpI {x : qE} {c : Nat} {as : List Value} {rest : List Value} (hx : qP m pc = some x) (hs : qstep x pc ls st g I J = some (.inr (.inr (c, as, pc', rest)))) (hG : qbG (qfl c) = false) (hI : qbI (qfl c) = false) (hJ : qbJ (qfl c) = false)
    (k : qC d c as g I J (fun v _ _ _ => ∃ (r : Int32), v = some (.int r) ∧ qev (d + 1) m (pc', ls, .int r :: rest, g, I, J) Q)) : qev (d + 1) m (pc, ls, st, g, I, J) Q := by
  refine e_callX hx hs (k.mono (fun v g2 I2 J2 h hk => ?_))
  obtain rfl := hk.1 hG
  obtain rfl := hk.2.1 hI
  obtain rfl := hk.2.2 hJ
  obtain ⟨r, rfl, h⟩ := h
  exact ⟨rfl, h⟩
theorem e_cpL {x : qE} {c : Nat} {as : List Value} {rest : List Value} (hx : qP m pc = some x) (hs : qstep x pc ls st g I J = some (.inr (.inr (c, as, pc', rest)))) (hG : qbG (qfl c) = false) (hI : qbI (qfl c) = false) (hJ : qbJ (qfl c) = false)
    (k : qC d c as g I J (fun v _ _ _ => ∃ (r : Int64), v = some (.long r) ∧ qev (d + 1) m (pc', ls, .long r :: rest, g, I, J) Q)) : qev (d + 1) m (pc, ls, st, g, I, J) Q := by
  refine e_callX hx hs (k.mono (fun v g2 I2 J2 h hk => ?_))
  obtain rfl := hk.1 hG
  obtain rfl := hk.2.1 hI
  obtain rfl := hk.2.2 hJ
  obtain ⟨r, rfl, h⟩ := h
  exact ⟨rfl, h⟩
theorem e_cpA {x : qE} {c : Nat} {as : List Value} {rest : List Value} (hx : qP m pc = some x) (hs : qstep x pc ls st g I J = some (.inr (.inr (c, as, pc', rest)))) (hG : qbG (qfl c) = false) (hI : qbI (qfl c) = false) (hJ : qbJ (qfl c) = false)
    (k : qC d c as g I J (fun v _ _ _ => ∃ (r : Option Nat), v = some (va_rf r) ∧ qev (d + 1) m (pc', ls, va_rf r :: rest, g, I, J) Q)) : qev (d + 1) m (pc, ls, st, g, I, J) Q := by
  refine e_callX hx hs (k.mono (fun v g2 I2 J2 h hk => ?_))
  obtain rfl := hk.1 hG
  obtain rfl := hk.2.1 hI
  obtain rfl := hk.2.2 hJ
  obtain ⟨r, rfl, h⟩ := h
  cases r <;> exact ⟨rfl, h⟩
theorem e_cpV {x : qE} {c : Nat} {as : List Value} {rest : List Value} (hx : qP m pc = some x) (hs : qstep x pc ls st g I J = some (.inr (.inr (c, as, pc', rest)))) (hG : qbG (qfl c) = false) (hI : qbI (qfl c) = false) (hJ : qbJ (qfl c) = false)
    (k : qC d c as g I J (fun v _ _ _ => v = none ∧ qev (d + 1) m (pc', ls, rest, g, I, J) Q)) : qev (d + 1) m (pc, ls, st, g, I, J) Q := by
  refine e_callX hx hs (k.mono (fun v g2 I2 J2 h hk => ?_))
  obtain rfl := hk.1 hG
  obtain rfl := hk.2.1 hI
  obtain rfl := hk.2.2 hJ
  obtain ⟨rfl, h⟩ := h
  exact ⟨rfl, h⟩
theorem e_ciI {x : qE} {c : Nat} {as : List Value} {rest : List Value} (hx : qP m pc = some x) (hs : qstep x pc ls st g I J = some (.inr (.inr (c, as, pc', rest)))) (hG : qbG (qfl c) = false) (hJ : qbJ (qfl c) = false)
    (k : qC d c as g I J (fun v _ I2 _ => ∃ (r : Int32), v = some (.int r) ∧ qev (d + 1) m (pc', ls, .int r :: rest, g, I2, J) Q)) : qev (d + 1) m (pc, ls, st, g, I, J) Q := by
  refine e_callX hx hs (k.mono (fun v g2 I2 J2 h hk => ?_))
  obtain rfl := hk.1 hG
  obtain rfl := hk.2.2 hJ
  obtain ⟨r, rfl, h⟩ := h
  exact ⟨rfl, h⟩
theorem e_ciL {x : qE} {c : Nat} {as : List Value} {rest : List Value} (hx : qP m pc = some x) (hs : qstep x pc ls st g I J = some (.inr (.inr (c, as, pc', rest)))) (hG : qbG (qfl c) = false) (hJ : qbJ (qfl c) = false)
    (k : qC d c as g I J (fun v _ I2 _ => ∃ (r : Int64), v = some (.long r) ∧ qev (d + 1) m (pc', ls, .long r :: rest, g, I2, J) Q)) : qev (d + 1) m (pc, ls, st, g, I, J) Q := by
  refine e_callX hx hs (k.mono (fun v g2 I2 J2 h hk => ?_))
  obtain rfl := hk.1 hG
  obtain rfl := hk.2.2 hJ
  obtain ⟨r, rfl, h⟩ := h
  exact ⟨rfl, h⟩
theorem e_ciA {x : qE} {c : Nat} {as : List Value} {rest : List Value} (hx : qP m pc = some x) (hs : qstep x pc ls st g I J = some (.inr (.inr (c, as, pc', rest)))) (hG : qbG (qfl c) = false) (hJ : qbJ (qfl c) = false)
    (k : qC d c as g I J (fun v _ I2 _ => ∃ (r : Option Nat), v = some (va_rf r) ∧ qev (d + 1) m (pc', ls, va_rf r :: rest, g, I2, J) Q)) : qev (d + 1) m (pc, ls, st, g, I, J) Q := by
  refine e_callX hx hs (k.mono (fun v g2 I2 J2 h hk => ?_))
  obtain rfl := hk.1 hG
  obtain rfl := hk.2.2 hJ
  obtain ⟨r, rfl, h⟩ := h
  cases r <;> exact ⟨rfl, h⟩
theorem e_ciV {x : qE} {c : Nat} {as : List Value} {rest : List Value} (hx : qP m pc = some x) (hs : qstep x pc ls st g I J = some (.inr (.inr (c, as, pc', rest)))) (hG : qbG (qfl c) = false) (hJ : qbJ (qfl c) = false)
    (k : qC d c as g I J (fun v _ I2 _ => v = none ∧ qev (d + 1) m (pc', ls, rest, g, I2, J) Q)) : qev (d + 1) m (pc, ls, st, g, I, J) Q := by
  refine e_callX hx hs (k.mono (fun v g2 I2 J2 h hk => ?_))
  obtain rfl := hk.1 hG
  obtain rfl := hk.2.2 hJ
  obtain ⟨rfl, h⟩ := h
  exact ⟨rfl, h⟩
theorem e_cjI {x : qE} {c : Nat} {as : List Value} {rest : List Value} (hx : qP m pc = some x) (hs : qstep x pc ls st g I J = some (.inr (.inr (c, as, pc', rest)))) (hG : qbG (qfl c) = false)
    (k : qC d c as g I J (fun v _ I2 J2 => ∃ (r : Int32), v = some (.int r) ∧ qev (d + 1) m (pc', ls, .int r :: rest, g, I2, J2) Q)) : qev (d + 1) m (pc, ls, st, g, I, J) Q := by
  refine e_callX hx hs (k.mono (fun v g2 I2 J2 h hk => ?_))
  obtain rfl := hk.1 hG
  obtain ⟨r, rfl, h⟩ := h
  exact ⟨rfl, h⟩
theorem e_cjL {x : qE} {c : Nat} {as : List Value} {rest : List Value} (hx : qP m pc = some x) (hs : qstep x pc ls st g I J = some (.inr (.inr (c, as, pc', rest)))) (hG : qbG (qfl c) = false)
    (k : qC d c as g I J (fun v _ I2 J2 => ∃ (r : Int64), v = some (.long r) ∧ qev (d + 1) m (pc', ls, .long r :: rest, g, I2, J2) Q)) : qev (d + 1) m (pc, ls, st, g, I, J) Q := by
  refine e_callX hx hs (k.mono (fun v g2 I2 J2 h hk => ?_))
  obtain rfl := hk.1 hG
  obtain ⟨r, rfl, h⟩ := h
  exact ⟨rfl, h⟩
theorem e_cjA {x : qE} {c : Nat} {as : List Value} {rest : List Value} (hx : qP m pc = some x) (hs : qstep x pc ls st g I J = some (.inr (.inr (c, as, pc', rest)))) (hG : qbG (qfl c) = false)
    (k : qC d c as g I J (fun v _ I2 J2 => ∃ (r : Option Nat), v = some (va_rf r) ∧ qev (d + 1) m (pc', ls, va_rf r :: rest, g, I2, J2) Q)) : qev (d + 1) m (pc, ls, st, g, I, J) Q := by
  refine e_callX hx hs (k.mono (fun v g2 I2 J2 h hk => ?_))
  obtain rfl := hk.1 hG
  obtain ⟨r, rfl, h⟩ := h
  cases r <;> exact ⟨rfl, h⟩
theorem e_cjV {x : qE} {c : Nat} {as : List Value} {rest : List Value} (hx : qP m pc = some x) (hs : qstep x pc ls st g I J = some (.inr (.inr (c, as, pc', rest)))) (hG : qbG (qfl c) = false)
    (k : qC d c as g I J (fun v _ I2 J2 => v = none ∧ qev (d + 1) m (pc', ls, rest, g, I2, J2) Q)) : qev (d + 1) m (pc, ls, st, g, I, J) Q := by
  refine e_callX hx hs (k.mono (fun v g2 I2 J2 h hk => ?_))
  obtain rfl := hk.1 hG
  obtain ⟨rfl, h⟩ := h
  exact ⟨rfl, h⟩
theorem e_cgI {x : qE} {c : Nat} {as : List Value} {rest : List Value} (hx : qP m pc = some x) (hs : qstep x pc ls st g I J = some (.inr (.inr (c, as, pc', rest))))
    (k : qC d c as g I J (fun v g2 I2 J2 => ∃ (r : Int32), v = some (.int r) ∧ qev (d + 1) m (pc', ls, .int r :: rest, g2, I2, J2) Q)) : qev (d + 1) m (pc, ls, st, g, I, J) Q := by
  refine e_callX hx hs (k.mono (fun v g2 I2 J2 h hk => ?_))
  obtain ⟨r, rfl, h⟩ := h
  exact ⟨rfl, h⟩
theorem e_cgL {x : qE} {c : Nat} {as : List Value} {rest : List Value} (hx : qP m pc = some x) (hs : qstep x pc ls st g I J = some (.inr (.inr (c, as, pc', rest))))
    (k : qC d c as g I J (fun v g2 I2 J2 => ∃ (r : Int64), v = some (.long r) ∧ qev (d + 1) m (pc', ls, .long r :: rest, g2, I2, J2) Q)) : qev (d + 1) m (pc, ls, st, g, I, J) Q := by
  refine e_callX hx hs (k.mono (fun v g2 I2 J2 h hk => ?_))
  obtain ⟨r, rfl, h⟩ := h
  exact ⟨rfl, h⟩
theorem e_cgA {x : qE} {c : Nat} {as : List Value} {rest : List Value} (hx : qP m pc = some x) (hs : qstep x pc ls st g I J = some (.inr (.inr (c, as, pc', rest))))
    (k : qC d c as g I J (fun v g2 I2 J2 => ∃ (r : Option Nat), v = some (va_rf r) ∧ qev (d + 1) m (pc', ls, va_rf r :: rest, g2, I2, J2) Q)) : qev (d + 1) m (pc, ls, st, g, I, J) Q := by
  refine e_callX hx hs (k.mono (fun v g2 I2 J2 h hk => ?_))
  obtain ⟨r, rfl, h⟩ := h
  cases r <;> exact ⟨rfl, h⟩
theorem e_cgV {x : qE} {c : Nat} {as : List Value} {rest : List Value} (hx : qP m pc = some x) (hs : qstep x pc ls st g I J = some (.inr (.inr (c, as, pc', rest))))
    (k : qC d c as g I J (fun v g2 I2 J2 => v = none ∧ qev (d + 1) m (pc', ls, rest, g2, I2, J2) Q)) : qev (d + 1) m (pc, ls, st, g, I, J) Q := by
  refine e_callX hx hs (k.mono (fun v g2 I2 J2 h hk => ?_))
  obtain ⟨rfl, h⟩ := h
  exact ⟨rfl, h⟩
end QRULES
theorem e_sS {i : Instr} {pc pc' c n : Nat} {ls st as r : List Value} {g : qG} {I : qI} {J : qJ} (hi : ∀ t, qstep (i, 3, c, n, t) pc ls st g I J = qcl (i, 3, c, n, t) (pc + 3) ls st g I J) (hc : Nat.ble 1000 c = false) (hl : n ≤ st.length) (ha : (st.take n).reverse = as) (hr : st.drop n = r) (hf : qfs r ≤ 8) (hp : pc + 3 = pc') : qstep (i, 3, c, n, 1) pc ls st g I J = some (.inr (.inr (c, as, pc', r))) := by
  subst ha hr hp
  rw [hi]
  unfold qcl
  dsimp only
  rw [hc]
  show (if qfs (st.drop n) ≤ 8 ∧ n ≤ st.length then _ else _) = _
  rw [if_pos ⟨hf, hl⟩]
theorem e_sV {i : Instr} {pc pc' c n o t : Nat} {ls st as r : List Value} {g : qG} {I : qI} {J : qJ} (hi : ∀ t, qstep (i, 3, c, n, t) pc ls st g I J = qcl (i, 3, c, n, t) (pc + 3) ls st g I J) (ht : t = 0 ∨ t = 2) (hc : Nat.ble 1000 c = false) (ho : qob g o (qOw c) = true) (ha : (st.take n).reverse = as) (hr : st.drop n = .ref o :: r) (hf : qfs r ≤ 8) (hp : pc + 3 = pc') : qstep (i, 3, c, n, t) pc ls st g I J = some (.inr (.inr (c, .ref o :: as, pc', r))) := by
  subst ha hp
  rw [hi]
  unfold qcl
  dsimp only
  rw [hc, hr]
  rcases ht with rfl | rfl
  · show (if qob g o (qOw c) = true ∧ qfs r ≤ 8 then _ else _) = _
    rw [if_pos ⟨ho, hf⟩]
  · show (if qob g o (qOw c) = true ∧ qfs r ≤ 8 then _ else _) = _
    rw [if_pos ⟨ho, hf⟩]
end
