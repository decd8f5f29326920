section
-- ===== PART A: goes FIRST, ahead of the names: the tables' words, and 'selects' of the private methods out of them =====
/-- a private method of a class that the tables say can be made, by its rows of tables_1 -/
def lw_okq (q : MethodName × Nat) : Prop := (q.1.cls ≠ "java/lang/invoke/MethodHandle" ∧ q.1.cls ≠ "java/lang/invoke/VarHandle") ∧ Cond.instantiable q.1.cls q.2 ∈ tables_1 ∧ Cond.privateMethod q.1 ∈ tables_1 ∧ Cond.instanceMethod q.1 ∈ tables_1
theorem lw_p0 : lw_okq (⟨"MangleLine$Laundry", "clear", "()V"⟩, 9) := ⟨⟨by decide +kernel, by decide +kernel⟩, List.mem_of_getElem? (i := 27) (by decide +kernel), List.mem_of_getElem? (i := 33) (by decide +kernel), List.mem_of_getElem? (i := 34) (by decide +kernel)⟩
theorem lw_p1 : lw_okq (⟨"MangleLine$Tape", "append", "(I)Z"⟩, 6) := ⟨⟨by decide +kernel, by decide +kernel⟩, List.mem_of_getElem? (i := 88) (by decide +kernel), List.mem_of_getElem? (i := 253) (by decide +kernel), List.mem_of_getElem? (i := 254) (by decide +kernel)⟩
theorem lw_p2 : lw_okq (⟨"MangleLine$Script", "tell", "(LMangleLine$Laundry;)I"⟩, 4) := ⟨⟨by decide +kernel, by decide +kernel⟩, List.mem_of_getElem? (i := 117) (by decide +kernel), List.mem_of_getElem? (i := 265) (by decide +kernel), List.mem_of_getElem? (i := 266) (by decide +kernel)⟩
theorem lw_p3 : lw_okq (⟨"MangleLine$Tape", "rewind", "()V"⟩, 6) := ⟨⟨by decide +kernel, by decide +kernel⟩, List.mem_of_getElem? (i := 88) (by decide +kernel), List.mem_of_getElem? (i := 270) (by decide +kernel), List.mem_of_getElem? (i := 271) (by decide +kernel)⟩
theorem lw_p4 : lw_okq (⟨"MangleLine$Script", "takeToken", "()Z"⟩, 4) := ⟨⟨by decide +kernel, by decide +kernel⟩, List.mem_of_getElem? (i := 117) (by decide +kernel), List.mem_of_getElem? (i := 274) (by decide +kernel), List.mem_of_getElem? (i := 275) (by decide +kernel)⟩
theorem lw_p5 : lw_okq (⟨"MangleLine$Tape", "readToken", "()V"⟩, 6) := ⟨⟨by decide +kernel, by decide +kernel⟩, List.mem_of_getElem? (i := 88) (by decide +kernel), List.mem_of_getElem? (i := 278) (by decide +kernel), List.mem_of_getElem? (i := 279) (by decide +kernel)⟩
theorem lw_p6 : lw_okq (⟨"MangleLine$Tape", "readFigures", "()V"⟩, 6) := ⟨⟨by decide +kernel, by decide +kernel⟩, List.mem_of_getElem? (i := 88) (by decide +kernel), List.mem_of_getElem? (i := 285) (by decide +kernel), List.mem_of_getElem? (i := 286) (by decide +kernel)⟩
theorem lw_p7 : lw_okq (⟨"MangleLine$Script", "blame", "(I)Z"⟩, 4) := ⟨⟨by decide +kernel, by decide +kernel⟩, List.mem_of_getElem? (i := 117) (by decide +kernel), List.mem_of_getElem? (i := 289) (by decide +kernel), List.mem_of_getElem? (i := 290) (by decide +kernel)⟩
theorem lw_p8 : lw_okq (⟨"MangleLine$Script", "tellLine", "(LMangleLine$Laundry;)Z"⟩, 4) := ⟨⟨by decide +kernel, by decide +kernel⟩, List.mem_of_getElem? (i := 117) (by decide +kernel), List.mem_of_getElem? (i := 293) (by decide +kernel), List.mem_of_getElem? (i := 294) (by decide +kernel)⟩
theorem lw_p9 : lw_okq (⟨"MangleLine$Tape", "word", "()I"⟩, 6) := ⟨⟨by decide +kernel, by decide +kernel⟩, List.mem_of_getElem? (i := 88) (by decide +kernel), List.mem_of_getElem? (i := 297) (by decide +kernel), List.mem_of_getElem? (i := 298) (by decide +kernel)⟩
theorem lw_p10 : lw_okq (⟨"MangleLine$Tape", "isSpelt", "(Ljava/lang/String;)Z"⟩, 6) := ⟨⟨by decide +kernel, by decide +kernel⟩, List.mem_of_getElem? (i := 88) (by decide +kernel), List.mem_of_getElem? (i := 314) (by decide +kernel), List.mem_of_getElem? (i := 315) (by decide +kernel)⟩
theorem lw_p11 : lw_okq (⟨"MangleLine$Script", "tellOne", "(LMangleLine$Laundry;I)Z"⟩, 4) := ⟨⟨by decide +kernel, by decide +kernel⟩, List.mem_of_getElem? (i := 117) (by decide +kernel), List.mem_of_getElem? (i := 366) (by decide +kernel), List.mem_of_getElem? (i := 367) (by decide +kernel)⟩
theorem lw_p12 : lw_okq (⟨"MangleLine$Script", "isNumber", "(II)Z"⟩, 4) := ⟨⟨by decide +kernel, by decide +kernel⟩, List.mem_of_getElem? (i := 117) (by decide +kernel), List.mem_of_getElem? (i := 370) (by decide +kernel), List.mem_of_getElem? (i := 371) (by decide +kernel)⟩
theorem lw_p13 : lw_okq (⟨"MangleLine$Laundry", "admit", "(II)I"⟩, 9) := ⟨⟨by decide +kernel, by decide +kernel⟩, List.mem_of_getElem? (i := 27) (by decide +kernel), List.mem_of_getElem? (i := 375) (by decide +kernel), List.mem_of_getElem? (i := 376) (by decide +kernel)⟩
theorem lw_p14 : lw_okq (⟨"MangleLine$Script", "isStop", "()Z"⟩, 4) := ⟨⟨by decide +kernel, by decide +kernel⟩, List.mem_of_getElem? (i := 117) (by decide +kernel), List.mem_of_getElem? (i := 380) (by decide +kernel), List.mem_of_getElem? (i := 381) (by decide +kernel)⟩
theorem lw_p15 : lw_okq (⟨"MangleLine$Script", "tellSuns", "(LMangleLine$Laundry;)Z"⟩, 4) := ⟨⟨by decide +kernel, by decide +kernel⟩, List.mem_of_getElem? (i := 117) (by decide +kernel), List.mem_of_getElem? (i := 384) (by decide +kernel), List.mem_of_getElem? (i := 385) (by decide +kernel)⟩
def lw_privs_1 : List (MethodName × Nat) := [(⟨"MangleLine$Laundry", "clear", "()V"⟩, 9), (⟨"MangleLine$Tape", "append", "(I)Z"⟩, 6), (⟨"MangleLine$Script", "tell", "(LMangleLine$Laundry;)I"⟩, 4), (⟨"MangleLine$Tape", "rewind", "()V"⟩, 6), (⟨"MangleLine$Script", "takeToken", "()Z"⟩, 4), (⟨"MangleLine$Tape", "readToken", "()V"⟩, 6), (⟨"MangleLine$Tape", "readFigures", "()V"⟩, 6), (⟨"MangleLine$Script", "blame", "(I)Z"⟩, 4), (⟨"MangleLine$Script", "tellLine", "(LMangleLine$Laundry;)Z"⟩, 4), (⟨"MangleLine$Tape", "word", "()I"⟩, 6), (⟨"MangleLine$Tape", "isSpelt", "(Ljava/lang/String;)Z"⟩, 6), (⟨"MangleLine$Script", "tellOne", "(LMangleLine$Laundry;I)Z"⟩, 4), (⟨"MangleLine$Script", "isNumber", "(II)Z"⟩, 4), (⟨"MangleLine$Laundry", "admit", "(II)I"⟩, 9), (⟨"MangleLine$Script", "isStop", "()Z"⟩, 4), (⟨"MangleLine$Script", "tellSuns", "(LMangleLine$Laundry;)Z"⟩, 4)]
theorem lw_r1 : ∀ q ∈ lw_privs_1, lw_okq q := List.forall_mem_cons.mpr ⟨lw_p0, List.forall_mem_cons.mpr ⟨lw_p1, List.forall_mem_cons.mpr ⟨lw_p2, List.forall_mem_cons.mpr ⟨lw_p3, List.forall_mem_cons.mpr ⟨lw_p4, List.forall_mem_cons.mpr ⟨lw_p5, List.forall_mem_cons.mpr ⟨lw_p6, List.forall_mem_cons.mpr ⟨lw_p7, List.forall_mem_cons.mpr ⟨lw_p8, List.forall_mem_cons.mpr ⟨lw_p9, List.forall_mem_cons.mpr ⟨lw_p10, List.forall_mem_cons.mpr ⟨lw_p11, List.forall_mem_cons.mpr ⟨lw_p12, List.forall_mem_cons.mpr ⟨lw_p13, List.forall_mem_cons.mpr ⟨lw_p14, List.forall_mem_cons.mpr ⟨lw_p15, fun _ h => absurd h List.not_mem_nil⟩⟩⟩⟩⟩⟩⟩⟩⟩⟩⟩⟩⟩⟩⟩⟩
theorem lw_p16 : lw_okq (⟨"MangleLine$Script", "tellRule", "(LMangleLine$Laundry;I)Z"⟩, 4) := ⟨⟨by decide +kernel, by decide +kernel⟩, List.mem_of_getElem? (i := 117) (by decide +kernel), List.mem_of_getElem? (i := 388) (by decide +kernel), List.mem_of_getElem? (i := 389) (by decide +kernel)⟩
theorem lw_p17 : lw_okq (⟨"MangleLine$Laundry", "become", "(LMangleLine$Laundry;)V"⟩, 9) := ⟨⟨by decide +kernel, by decide +kernel⟩, List.mem_of_getElem? (i := 27) (by decide +kernel), List.mem_of_getElem? (i := 396) (by decide +kernel), List.mem_of_getElem? (i := 397) (by decide +kernel)⟩
theorem lw_p18 : lw_okq (⟨"MangleLine$Laundry", "whoIsAt", "(I)I"⟩, 9) := ⟨⟨by decide +kernel, by decide +kernel⟩, List.mem_of_getElem? (i := 27) (by decide +kernel), List.mem_of_getElem? (i := 409) (by decide +kernel), List.mem_of_getElem? (i := 410) (by decide +kernel)⟩
theorem lw_p19 : lw_okq (⟨"MangleLine$Laundry", "greyOfAll", "()I"⟩, 9) := ⟨⟨by decide +kernel, by decide +kernel⟩, List.mem_of_getElem? (i := 27) (by decide +kernel), List.mem_of_getElem? (i := 413) (by decide +kernel), List.mem_of_getElem? (i := 414) (by decide +kernel)⟩
theorem lw_p20 : lw_okq (⟨"MangleLine$Laundry", "sunToday", "()I"⟩, 9) := ⟨⟨by decide +kernel, by decide +kernel⟩, List.mem_of_getElem? (i := 27) (by decide +kernel), List.mem_of_getElem? (i := 420) (by decide +kernel), List.mem_of_getElem? (i := 421) (by decide +kernel)⟩
theorem lw_p21 : lw_okq (⟨"MangleLine", "isOne", "(I)Z"⟩, 11) := ⟨⟨by decide +kernel, by decide +kernel⟩, List.mem_of_getElem? (i := 19) (by decide +kernel), List.mem_of_getElem? (i := 432) (by decide +kernel), List.mem_of_getElem? (i := 433) (by decide +kernel)⟩
theorem lw_p22 : lw_okq (⟨"MangleLine$Laundry", "scrubs", "(I)I"⟩, 9) := ⟨⟨by decide +kernel, by decide +kernel⟩, List.mem_of_getElem? (i := 27) (by decide +kernel), List.mem_of_getElem? (i := 436) (by decide +kernel), List.mem_of_getElem? (i := 437) (by decide +kernel)⟩
theorem lw_p23 : lw_okq (⟨"MangleLine$Laundry", "dries", "(II)I"⟩, 9) := ⟨⟨by decide +kernel, by decide +kernel⟩, List.mem_of_getElem? (i := 27) (by decide +kernel), List.mem_of_getElem? (i := 440) (by decide +kernel), List.mem_of_getElem? (i := 441) (by decide +kernel)⟩
theorem lw_p24 : lw_okq (⟨"MangleLine$Laundry", "passDays", "(I)I"⟩, 9) := ⟨⟨by decide +kernel, by decide +kernel⟩, List.mem_of_getElem? (i := 27) (by decide +kernel), List.mem_of_getElem? (i := 481) (by decide +kernel), List.mem_of_getElem? (i := 482) (by decide +kernel)⟩
theorem lw_p25 : lw_okq (⟨"MangleLine$Laundry", "passDay", "(I)I"⟩, 9) := ⟨⟨by decide +kernel, by decide +kernel⟩, List.mem_of_getElem? (i := 27) (by decide +kernel), List.mem_of_getElem? (i := 486) (by decide +kernel), List.mem_of_getElem? (i := 487) (by decide +kernel)⟩
theorem lw_p26 : lw_okq (⟨"MangleLine$Laundry", "boilBatch", "()V"⟩, 9) := ⟨⟨by decide +kernel, by decide +kernel⟩, List.mem_of_getElem? (i := 27) (by decide +kernel), List.mem_of_getElem? (i := 490) (by decide +kernel), List.mem_of_getElem? (i := 491) (by decide +kernel)⟩
theorem lw_p27 : lw_okq (⟨"MangleLine$Laundry", "dryLine", "(I)I"⟩, 9) := ⟨⟨by decide +kernel, by decide +kernel⟩, List.mem_of_getElem? (i := 27) (by decide +kernel), List.mem_of_getElem? (i := 505) (by decide +kernel), List.mem_of_getElem? (i := 506) (by decide +kernel)⟩
theorem lw_p28 : lw_okq (⟨"MangleLine$Laundry", "daysTillHome", "(II)I"⟩, 9) := ⟨⟨by decide +kernel, by decide +kernel⟩, List.mem_of_getElem? (i := 27) (by decide +kernel), List.mem_of_getElem? (i := 524) (by decide +kernel), List.mem_of_getElem? (i := 525) (by decide +kernel)⟩
theorem lw_p29 : lw_okq (⟨"MangleLine", "daysAsItIs", "()I"⟩, 11) := ⟨⟨by decide +kernel, by decide +kernel⟩, List.mem_of_getElem? (i := 19) (by decide +kernel), List.mem_of_getElem? (i := 535) (by decide +kernel), List.mem_of_getElem? (i := 536) (by decide +kernel)⟩
theorem lw_p30 : lw_okq (⟨"MangleLine$Laundry", "daysTillDone", "(I)I"⟩, 9) := ⟨⟨by decide +kernel, by decide +kernel⟩, List.mem_of_getElem? (i := 27) (by decide +kernel), List.mem_of_getElem? (i := 539) (by decide +kernel), List.mem_of_getElem? (i := 540) (by decide +kernel)⟩
theorem lw_p31 : lw_okq (⟨"MangleLine$Laundry", "allAreHome", "()Z"⟩, 9) := ⟨⟨by decide +kernel, by decide +kernel⟩, List.mem_of_getElem? (i := 27) (by decide +kernel), List.mem_of_getElem? (i := 543) (by decide +kernel), List.mem_of_getElem? (i := 544) (by decide +kernel)⟩
def lw_privs_2 : List (MethodName × Nat) := [(⟨"MangleLine$Script", "tellRule", "(LMangleLine$Laundry;I)Z"⟩, 4), (⟨"MangleLine$Laundry", "become", "(LMangleLine$Laundry;)V"⟩, 9), (⟨"MangleLine$Laundry", "whoIsAt", "(I)I"⟩, 9), (⟨"MangleLine$Laundry", "greyOfAll", "()I"⟩, 9), (⟨"MangleLine$Laundry", "sunToday", "()I"⟩, 9), (⟨"MangleLine", "isOne", "(I)Z"⟩, 11), (⟨"MangleLine$Laundry", "scrubs", "(I)I"⟩, 9), (⟨"MangleLine$Laundry", "dries", "(II)I"⟩, 9), (⟨"MangleLine$Laundry", "passDays", "(I)I"⟩, 9), (⟨"MangleLine$Laundry", "passDay", "(I)I"⟩, 9), (⟨"MangleLine$Laundry", "boilBatch", "()V"⟩, 9), (⟨"MangleLine$Laundry", "dryLine", "(I)I"⟩, 9), (⟨"MangleLine$Laundry", "daysTillHome", "(II)I"⟩, 9), (⟨"MangleLine", "daysAsItIs", "()I"⟩, 11), (⟨"MangleLine$Laundry", "daysTillDone", "(I)I"⟩, 9), (⟨"MangleLine$Laundry", "allAreHome", "()Z"⟩, 9)]
theorem lw_r2 : ∀ q ∈ lw_privs_2, lw_okq q := List.forall_mem_cons.mpr ⟨lw_p16, List.forall_mem_cons.mpr ⟨lw_p17, List.forall_mem_cons.mpr ⟨lw_p18, List.forall_mem_cons.mpr ⟨lw_p19, List.forall_mem_cons.mpr ⟨lw_p20, List.forall_mem_cons.mpr ⟨lw_p21, List.forall_mem_cons.mpr ⟨lw_p22, List.forall_mem_cons.mpr ⟨lw_p23, List.forall_mem_cons.mpr ⟨lw_p24, List.forall_mem_cons.mpr ⟨lw_p25, List.forall_mem_cons.mpr ⟨lw_p26, List.forall_mem_cons.mpr ⟨lw_p27, List.forall_mem_cons.mpr ⟨lw_p28, List.forall_mem_cons.mpr ⟨lw_p29, List.forall_mem_cons.mpr ⟨lw_p30, List.forall_mem_cons.mpr ⟨lw_p31, fun _ h => absurd h List.not_mem_nil⟩⟩⟩⟩⟩⟩⟩⟩⟩⟩⟩⟩⟩⟩⟩⟩
theorem lw_p32 : lw_okq (⟨"MangleLine", "leastOfRule", "(II)I"⟩, 11) := ⟨⟨by decide +kernel, by decide +kernel⟩, List.mem_of_getElem? (i := 19) (by decide +kernel), List.mem_of_getElem? (i := 551) (by decide +kernel), List.mem_of_getElem? (i := 552) (by decide +kernel)⟩
theorem lw_p33 : lw_okq (⟨"MangleLine$Choice", "begin", "(I)V"⟩, 2) := ⟨⟨by decide +kernel, by decide +kernel⟩, List.mem_of_getElem? (i := 157) (by decide +kernel), List.mem_of_getElem? (i := 566) (by decide +kernel), List.mem_of_getElem? (i := 567) (by decide +kernel)⟩
theorem lw_p34 : lw_okq (⟨"MangleLine$Choice", "offer", "(II)V"⟩, 2) := ⟨⟨by decide +kernel, by decide +kernel⟩, List.mem_of_getElem? (i := 157) (by decide +kernel), List.mem_of_getElem? (i := 570) (by decide +kernel), List.mem_of_getElem? (i := 571) (by decide +kernel)⟩
theorem lw_p35 : lw_okq (⟨"MangleLine$Choice", "tell", "(I)I"⟩, 2) := ⟨⟨by decide +kernel, by decide +kernel⟩, List.mem_of_getElem? (i := 157) (by decide +kernel), List.mem_of_getElem? (i := 574) (by decide +kernel), List.mem_of_getElem? (i := 575) (by decide +kernel)⟩
theorem lw_p36 : lw_okq (⟨"MangleLine$Laundry", "exchange", "(II)V"⟩, 9) := ⟨⟨by decide +kernel, by decide +kernel⟩, List.mem_of_getElem? (i := 27) (by decide +kernel), List.mem_of_getElem? (i := 582) (by decide +kernel), List.mem_of_getElem? (i := 583) (by decide +kernel)⟩
theorem lw_p37 : lw_okq (⟨"MangleLine", "rainFraction", "(IIII)J"⟩, 11) := ⟨⟨by decide +kernel, by decide +kernel⟩, List.mem_of_getElem? (i := 19) (by decide +kernel), List.mem_of_getElem? (i := 606) (by decide +kernel), List.mem_of_getElem? (i := 607) (by decide +kernel)⟩
theorem lw_p38 : lw_okq (⟨"MangleLine", "weigh", "(IIII)J"⟩, 11) := ⟨⟨by decide +kernel, by decide +kernel⟩, List.mem_of_getElem? (i := 19) (by decide +kernel), List.mem_of_getElem? (i := 610) (by decide +kernel), List.mem_of_getElem? (i := 611) (by decide +kernel)⟩
theorem lw_p39 : lw_okq (⟨"MangleLine", "weighUnder", "(IIIII)J"⟩, 11) := ⟨⟨by decide +kernel, by decide +kernel⟩, List.mem_of_getElem? (i := 19) (by decide +kernel), List.mem_of_getElem? (i := 617) (by decide +kernel), List.mem_of_getElem? (i := 618) (by decide +kernel)⟩
theorem lw_p40 : lw_okq (⟨"MangleLine$Sightings", "note", "(III)Z"⟩, 4) := ⟨⟨by decide +kernel, by decide +kernel⟩, List.mem_of_getElem? (i := 137) (by decide +kernel), List.mem_of_getElem? (i := 635) (by decide +kernel), List.mem_of_getElem? (i := 636) (by decide +kernel)⟩
theorem lw_p41 : lw_okq (⟨"MangleLine$Sightings", "agreeWith", "(LMangleLine$Laundry;)Z"⟩, 4) := ⟨⟨by decide +kernel, by decide +kernel⟩, List.mem_of_getElem? (i := 137) (by decide +kernel), List.mem_of_getElem? (i := 647) (by decide +kernel), List.mem_of_getElem? (i := 648) (by decide +kernel)⟩
theorem lw_p42 : lw_okq (⟨"MangleLine$Sightings", "lastLook", "()I"⟩, 4) := ⟨⟨by decide +kernel, by decide +kernel⟩, List.mem_of_getElem? (i := 137) (by decide +kernel), List.mem_of_getElem? (i := 651) (by decide +kernel), List.mem_of_getElem? (i := 652) (by decide +kernel)⟩
theorem lw_p43 : lw_okq (⟨"MangleLine$Sightings", "agreeOn", "(ILMangleLine$Laundry;)Z"⟩, 4) := ⟨⟨by decide +kernel, by decide +kernel⟩, List.mem_of_getElem? (i := 137) (by decide +kernel), List.mem_of_getElem? (i := 656) (by decide +kernel), List.mem_of_getElem? (i := 657) (by decide +kernel)⟩
theorem lw_p44 : lw_okq (⟨"MangleLine", "greysAsSeen", "(I)I"⟩, 11) := ⟨⟨by decide +kernel, by decide +kernel⟩, List.mem_of_getElem? (i := 19) (by decide +kernel), List.mem_of_getElem? (i := 666) (by decide +kernel), List.mem_of_getElem? (i := 667) (by decide +kernel)⟩
theorem lw_p45 : lw_okq (⟨"MangleLine", "tallyPlaces", "(II)V"⟩, 11) := ⟨⟨by decide +kernel, by decide +kernel⟩, List.mem_of_getElem? (i := 19) (by decide +kernel), List.mem_of_getElem? (i := 674) (by decide +kernel), List.mem_of_getElem? (i := 675) (by decide +kernel)⟩
theorem lw_p46 : lw_okq (⟨"MangleLine", "mostLeft", "(II)I"⟩, 11) := ⟨⟨by decide +kernel, by decide +kernel⟩, List.mem_of_getElem? (i := 19) (by decide +kernel), List.mem_of_getElem? (i := 682) (by decide +kernel), List.mem_of_getElem? (i := 683) (by decide +kernel)⟩
theorem lw_p47 : lw_okq (⟨"MangleLine$Laundry", "soil", "(II)V"⟩, 9) := ⟨⟨by decide +kernel, by decide +kernel⟩, List.mem_of_getElem? (i := 27) (by decide +kernel), List.mem_of_getElem? (i := 692) (by decide +kernel), List.mem_of_getElem? (i := 693) (by decide +kernel)⟩
def lw_privs_3 : List (MethodName × Nat) := [(⟨"MangleLine", "leastOfRule", "(II)I"⟩, 11), (⟨"MangleLine$Choice", "begin", "(I)V"⟩, 2), (⟨"MangleLine$Choice", "offer", "(II)V"⟩, 2), (⟨"MangleLine$Choice", "tell", "(I)I"⟩, 2), (⟨"MangleLine$Laundry", "exchange", "(II)V"⟩, 9), (⟨"MangleLine", "rainFraction", "(IIII)J"⟩, 11), (⟨"MangleLine", "weigh", "(IIII)J"⟩, 11), (⟨"MangleLine", "weighUnder", "(IIIII)J"⟩, 11), (⟨"MangleLine$Sightings", "note", "(III)Z"⟩, 4), (⟨"MangleLine$Sightings", "agreeWith", "(LMangleLine$Laundry;)Z"⟩, 4), (⟨"MangleLine$Sightings", "lastLook", "()I"⟩, 4), (⟨"MangleLine$Sightings", "agreeOn", "(ILMangleLine$Laundry;)Z"⟩, 4), (⟨"MangleLine", "greysAsSeen", "(I)I"⟩, 11), (⟨"MangleLine", "tallyPlaces", "(II)V"⟩, 11), (⟨"MangleLine", "mostLeft", "(II)I"⟩, 11), (⟨"MangleLine$Laundry", "soil", "(II)V"⟩, 9)]
theorem lw_r3 : ∀ q ∈ lw_privs_3, lw_okq q := List.forall_mem_cons.mpr ⟨lw_p32, List.forall_mem_cons.mpr ⟨lw_p33, List.forall_mem_cons.mpr ⟨lw_p34, List.forall_mem_cons.mpr ⟨lw_p35, List.forall_mem_cons.mpr ⟨lw_p36, List.forall_mem_cons.mpr ⟨lw_p37, List.forall_mem_cons.mpr ⟨lw_p38, List.forall_mem_cons.mpr ⟨lw_p39, List.forall_mem_cons.mpr ⟨lw_p40, List.forall_mem_cons.mpr ⟨lw_p41, List.forall_mem_cons.mpr ⟨lw_p42, List.forall_mem_cons.mpr ⟨lw_p43, List.forall_mem_cons.mpr ⟨lw_p44, List.forall_mem_cons.mpr ⟨lw_p45, List.forall_mem_cons.mpr ⟨lw_p46, List.forall_mem_cons.mpr ⟨lw_p47, fun _ h => absurd h List.not_mem_nil⟩⟩⟩⟩⟩⟩⟩⟩⟩⟩⟩⟩⟩⟩⟩⟩
theorem lw_p48 : lw_okq (⟨"MangleLine$Sightings", "become", "(LMangleLine$Sightings;)V"⟩, 4) := ⟨⟨by decide +kernel, by decide +kernel⟩, List.mem_of_getElem? (i := 137) (by decide +kernel), List.mem_of_getElem? (i := 703) (by decide +kernel), List.mem_of_getElem? (i := 704) (by decide +kernel)⟩
theorem lw_p49 : lw_okq (⟨"MangleLine$Sheet", "renew", "(II)V"⟩, 3) := ⟨⟨by decide +kernel, by decide +kernel⟩, List.mem_of_getElem? (i := 194) (by decide +kernel), List.mem_of_getElem? (i := 722) (by decide +kernel), List.mem_of_getElem? (i := 723) (by decide +kernel)⟩
theorem lw_p50 : lw_okq (⟨"MangleLine$Sheet", "isNothing", "()Z"⟩, 3) := ⟨⟨by decide +kernel, by decide +kernel⟩, List.mem_of_getElem? (i := 194) (by decide +kernel), List.mem_of_getElem? (i := 731) (by decide +kernel), List.mem_of_getElem? (i := 732) (by decide +kernel)⟩
theorem lw_p51 : lw_okq (⟨"MangleLine$Sheet", "hasCell", "(I)Z"⟩, 3) := ⟨⟨by decide +kernel, by decide +kernel⟩, List.mem_of_getElem? (i := 194) (by decide +kernel), List.mem_of_getElem? (i := 735) (by decide +kernel), List.mem_of_getElem? (i := 736) (by decide +kernel)⟩
theorem lw_p52 : lw_okq (⟨"MangleLine$Sheet", "write", "(II)V"⟩, 3) := ⟨⟨by decide +kernel, by decide +kernel⟩, List.mem_of_getElem? (i := 194) (by decide +kernel), List.mem_of_getElem? (i := 740) (by decide +kernel), List.mem_of_getElem? (i := 741) (by decide +kernel)⟩
theorem lw_p53 : lw_okq (⟨"MangleLine$Sheet", "wholePairs", "(III)I"⟩, 3) := ⟨⟨by decide +kernel, by decide +kernel⟩, List.mem_of_getElem? (i := 194) (by decide +kernel), List.mem_of_getElem? (i := 748) (by decide +kernel), List.mem_of_getElem? (i := 749) (by decide +kernel)⟩
theorem lw_p54 : lw_okq (⟨"MangleLine$Sheet", "isAnotherLane", "(I)Z"⟩, 3) := ⟨⟨by decide +kernel, by decide +kernel⟩, List.mem_of_getElem? (i := 194) (by decide +kernel), List.mem_of_getElem? (i := 753) (by decide +kernel), List.mem_of_getElem? (i := 754) (by decide +kernel)⟩
theorem lw_p55 : lw_okq (⟨"MangleLine$Sheet", "faultOfReading", "(IZ)I"⟩, 3) := ⟨⟨by decide +kernel, by decide +kernel⟩, List.mem_of_getElem? (i := 194) (by decide +kernel), List.mem_of_getElem? (i := 759) (by decide +kernel), List.mem_of_getElem? (i := 760) (by decide +kernel)⟩
theorem lw_p56 : lw_okq (⟨"MangleLine", "imagesKept", "()I"⟩, 11) := ⟨⟨by decide +kernel, by decide +kernel⟩, List.mem_of_getElem? (i := 19) (by decide +kernel), List.mem_of_getElem? (i := 771) (by decide +kernel), List.mem_of_getElem? (i := 772) (by decide +kernel)⟩
theorem lw_p57 : lw_okq (⟨"MangleLine$Laundry", "wetOfAll", "()I"⟩, 9) := ⟨⟨by decide +kernel, by decide +kernel⟩, List.mem_of_getElem? (i := 27) (by decide +kernel), List.mem_of_getElem? (i := 775) (by decide +kernel), List.mem_of_getElem? (i := 776) (by decide +kernel)⟩
theorem lw_p58 : lw_okq (⟨"MangleLine$Laundry", "sunOfAll", "()I"⟩, 9) := ⟨⟨by decide +kernel, by decide +kernel⟩, List.mem_of_getElem? (i := 27) (by decide +kernel), List.mem_of_getElem? (i := 779) (by decide +kernel), List.mem_of_getElem? (i := 780) (by decide +kernel)⟩
theorem lw_p59 : lw_okq (⟨"MangleLineModel", "firstDraft", "()V"⟩, 28) := ⟨⟨by decide +kernel, by decide +kernel⟩, List.mem_of_getElem? (i := 783) (by decide +kernel), List.mem_of_getElem? (i := 789) (by decide +kernel), List.mem_of_getElem? (i := 790) (by decide +kernel)⟩
theorem lw_p60 : lw_okq (⟨"MangleLineModel", "keepDraft", "()V"⟩, 28) := ⟨⟨by decide +kernel, by decide +kernel⟩, List.mem_of_getElem? (i := 783) (by decide +kernel), List.mem_of_getElem? (i := 793) (by decide +kernel), List.mem_of_getElem? (i := 794) (by decide +kernel)⟩
theorem lw_p61 : lw_okq (⟨"MangleLineModel", "reads", "()V"⟩, 28) := ⟨⟨by decide +kernel, by decide +kernel⟩, List.mem_of_getElem? (i := 783) (by decide +kernel), List.mem_of_getElem? (i := 899) (by decide +kernel), List.mem_of_getElem? (i := 900) (by decide +kernel)⟩
theorem lw_p62 : lw_okq (⟨"MangleLineModel", "byteAt", "(I)I"⟩, 28) := ⟨⟨by decide +kernel, by decide +kernel⟩, List.mem_of_getElem? (i := 783) (by decide +kernel), List.mem_of_getElem? (i := 903) (by decide +kernel), List.mem_of_getElem? (i := 904) (by decide +kernel)⟩
theorem lw_p63 : lw_okq (⟨"MangleLineModel", "requires", "(ZI)V"⟩, 28) := ⟨⟨by decide +kernel, by decide +kernel⟩, List.mem_of_getElem? (i := 783) (by decide +kernel), List.mem_of_getElem? (i := 911) (by decide +kernel), List.mem_of_getElem? (i := 912) (by decide +kernel)⟩
def lw_privs_4 : List (MethodName × Nat) := [(⟨"MangleLine$Sightings", "become", "(LMangleLine$Sightings;)V"⟩, 4), (⟨"MangleLine$Sheet", "renew", "(II)V"⟩, 3), (⟨"MangleLine$Sheet", "isNothing", "()Z"⟩, 3), (⟨"MangleLine$Sheet", "hasCell", "(I)Z"⟩, 3), (⟨"MangleLine$Sheet", "write", "(II)V"⟩, 3), (⟨"MangleLine$Sheet", "wholePairs", "(III)I"⟩, 3), (⟨"MangleLine$Sheet", "isAnotherLane", "(I)Z"⟩, 3), (⟨"MangleLine$Sheet", "faultOfReading", "(IZ)I"⟩, 3), (⟨"MangleLine", "imagesKept", "()I"⟩, 11), (⟨"MangleLine$Laundry", "wetOfAll", "()I"⟩, 9), (⟨"MangleLine$Laundry", "sunOfAll", "()I"⟩, 9), (⟨"MangleLineModel", "firstDraft", "()V"⟩, 28), (⟨"MangleLineModel", "keepDraft", "()V"⟩, 28), (⟨"MangleLineModel", "reads", "()V"⟩, 28), (⟨"MangleLineModel", "byteAt", "(I)I"⟩, 28), (⟨"MangleLineModel", "requires", "(ZI)V"⟩, 28)]
theorem lw_r4 : ∀ q ∈ lw_privs_4, lw_okq q := List.forall_mem_cons.mpr ⟨lw_p48, List.forall_mem_cons.mpr ⟨lw_p49, List.forall_mem_cons.mpr ⟨lw_p50, List.forall_mem_cons.mpr ⟨lw_p51, List.forall_mem_cons.mpr ⟨lw_p52, List.forall_mem_cons.mpr ⟨lw_p53, List.forall_mem_cons.mpr ⟨lw_p54, List.forall_mem_cons.mpr ⟨lw_p55, List.forall_mem_cons.mpr ⟨lw_p56, List.forall_mem_cons.mpr ⟨lw_p57, List.forall_mem_cons.mpr ⟨lw_p58, List.forall_mem_cons.mpr ⟨lw_p59, List.forall_mem_cons.mpr ⟨lw_p60, List.forall_mem_cons.mpr ⟨lw_p61, List.forall_mem_cons.mpr ⟨lw_p62, List.forall_mem_cons.mpr ⟨lw_p63, fun _ h => absurd h List.not_mem_nil⟩⟩⟩⟩⟩⟩⟩⟩⟩⟩⟩⟩⟩⟩⟩⟩
theorem lw_p64 : lw_okq (⟨"MangleLineModel", "readLine", "()V"⟩, 28) := ⟨⟨by decide +kernel, by decide +kernel⟩, List.mem_of_getElem? (i := 783) (by decide +kernel), List.mem_of_getElem? (i := 915) (by decide +kernel), List.mem_of_getElem? (i := 916) (by decide +kernel)⟩
theorem lw_p65 : lw_okq (⟨"MangleLineModel", "lineNow", "()I"⟩, 28) := ⟨⟨by decide +kernel, by decide +kernel⟩, List.mem_of_getElem? (i := 783) (by decide +kernel), List.mem_of_getElem? (i := 919) (by decide +kernel), List.mem_of_getElem? (i := 920) (by decide +kernel)⟩
theorem lw_p66 : lw_okq (⟨"MangleLineModel", "is", "(IIII)Z"⟩, 28) := ⟨⟨by decide +kernel, by decide +kernel⟩, List.mem_of_getElem? (i := 783) (by decide +kernel), List.mem_of_getElem? (i := 923) (by decide +kernel), List.mem_of_getElem? (i := 924) (by decide +kernel)⟩
theorem lw_p67 : lw_okq (⟨"MangleLineModel", "endsIn", "(III)Z"⟩, 28) := ⟨⟨by decide +kernel, by decide +kernel⟩, List.mem_of_getElem? (i := 783) (by decide +kernel), List.mem_of_getElem? (i := 927) (by decide +kernel), List.mem_of_getElem? (i := 928) (by decide +kernel)⟩
theorem lw_p68 : lw_okq (⟨"MangleLineModel", "ruleNow", "()I"⟩, 28) := ⟨⟨by decide +kernel, by decide +kernel⟩, List.mem_of_getElem? (i := 783) (by decide +kernel), List.mem_of_getElem? (i := 931) (by decide +kernel), List.mem_of_getElem? (i := 932) (by decide +kernel)⟩
theorem lw_p69 : lw_okq (⟨"MangleLineModel", "readLineOf", "(I)V"⟩, 28) := ⟨⟨by decide +kernel, by decide +kernel⟩, List.mem_of_getElem? (i := 783) (by decide +kernel), List.mem_of_getElem? (i := 935) (by decide +kernel), List.mem_of_getElem? (i := 936) (by decide +kernel)⟩
theorem lw_p70 : lw_okq (⟨"MangleLineModel", "readNumber", "(II)I"⟩, 28) := ⟨⟨by decide +kernel, by decide +kernel⟩, List.mem_of_getElem? (i := 783) (by decide +kernel), List.mem_of_getElem? (i := 939) (by decide +kernel), List.mem_of_getElem? (i := 940) (by decide +kernel)⟩
theorem lw_p71 : lw_okq (⟨"MangleLineModel", "readSuns", "()V"⟩, 28) := ⟨⟨by decide +kernel, by decide +kernel⟩, List.mem_of_getElem? (i := 783) (by decide +kernel), List.mem_of_getElem? (i := 943) (by decide +kernel), List.mem_of_getElem? (i := 944) (by decide +kernel)⟩
theorem lw_p72 : lw_okq (⟨"MangleLineModel", "starts", "()V"⟩, 28) := ⟨⟨by decide +kernel, by decide +kernel⟩, List.mem_of_getElem? (i := 783) (by decide +kernel), List.mem_of_getElem? (i := 961) (by decide +kernel), List.mem_of_getElem? (i := 962) (by decide +kernel)⟩
theorem lw_p73 : lw_okq (⟨"MangleLineModel", "those", "(I)I"⟩, 28) := ⟨⟨by decide +kernel, by decide +kernel⟩, List.mem_of_getElem? (i := 783) (by decide +kernel), List.mem_of_getElem? (i := 965) (by decide +kernel), List.mem_of_getElem? (i := 966) (by decide +kernel)⟩
theorem lw_p74 : lw_okq (⟨"MangleLineModel", "of", "(II)I"⟩, 28) := ⟨⟨by decide +kernel, by decide +kernel⟩, List.mem_of_getElem? (i := 783) (by decide +kernel), List.mem_of_getElem? (i := 969) (by decide +kernel), List.mem_of_getElem? (i := 970) (by decide +kernel)⟩
theorem lw_p75 : lw_okq (⟨"MangleLineModel", "sumOf", "(I)I"⟩, 28) := ⟨⟨by decide +kernel, by decide +kernel⟩, List.mem_of_getElem? (i := 783) (by decide +kernel), List.mem_of_getElem? (i := 976) (by decide +kernel), List.mem_of_getElem? (i := 977) (by decide +kernel)⟩
theorem lw_p76 : lw_okq (⟨"MangleLineModel", "sunNow", "()I"⟩, 28) := ⟨⟨by decide +kernel, by decide +kernel⟩, List.mem_of_getElem? (i := 783) (by decide +kernel), List.mem_of_getElem? (i := 980) (by decide +kernel), List.mem_of_getElem? (i := 981) (by decide +kernel)⟩
theorem lw_p77 : lw_okq (⟨"MangleLineModel", "isOne", "(I)Z"⟩, 28) := ⟨⟨by decide +kernel, by decide +kernel⟩, List.mem_of_getElem? (i := 783) (by decide +kernel), List.mem_of_getElem? (i := 993) (by decide +kernel), List.mem_of_getElem? (i := 994) (by decide +kernel)⟩
theorem lw_p78 : lw_okq (⟨"MangleLineModel", "scrubs", "(I)I"⟩, 28) := ⟨⟨by decide +kernel, by decide +kernel⟩, List.mem_of_getElem? (i := 783) (by decide +kernel), List.mem_of_getElem? (i := 997) (by decide +kernel), List.mem_of_getElem? (i := 998) (by decide +kernel)⟩
theorem lw_p79 : lw_okq (⟨"MangleLineModel", "dries", "(II)I"⟩, 28) := ⟨⟨by decide +kernel, by decide +kernel⟩, List.mem_of_getElem? (i := 783) (by decide +kernel), List.mem_of_getElem? (i := 1004) (by decide +kernel), List.mem_of_getElem? (i := 1005) (by decide +kernel)⟩
def lw_privs_5 : List (MethodName × Nat) := [(⟨"MangleLineModel", "readLine", "()V"⟩, 28), (⟨"MangleLineModel", "lineNow", "()I"⟩, 28), (⟨"MangleLineModel", "is", "(IIII)Z"⟩, 28), (⟨"MangleLineModel", "endsIn", "(III)Z"⟩, 28), (⟨"MangleLineModel", "ruleNow", "()I"⟩, 28), (⟨"MangleLineModel", "readLineOf", "(I)V"⟩, 28), (⟨"MangleLineModel", "readNumber", "(II)I"⟩, 28), (⟨"MangleLineModel", "readSuns", "()V"⟩, 28), (⟨"MangleLineModel", "starts", "()V"⟩, 28), (⟨"MangleLineModel", "those", "(I)I"⟩, 28), (⟨"MangleLineModel", "of", "(II)I"⟩, 28), (⟨"MangleLineModel", "sumOf", "(I)I"⟩, 28), (⟨"MangleLineModel", "sunNow", "()I"⟩, 28), (⟨"MangleLineModel", "isOne", "(I)Z"⟩, 28), (⟨"MangleLineModel", "scrubs", "(I)I"⟩, 28), (⟨"MangleLineModel", "dries", "(II)I"⟩, 28)]
theorem lw_r5 : ∀ q ∈ lw_privs_5, lw_okq q := List.forall_mem_cons.mpr ⟨lw_p64, List.forall_mem_cons.mpr ⟨lw_p65, List.forall_mem_cons.mpr ⟨lw_p66, List.forall_mem_cons.mpr ⟨lw_p67, List.forall_mem_cons.mpr ⟨lw_p68, List.forall_mem_cons.mpr ⟨lw_p69, List.forall_mem_cons.mpr ⟨lw_p70, List.forall_mem_cons.mpr ⟨lw_p71, List.forall_mem_cons.mpr ⟨lw_p72, List.forall_mem_cons.mpr ⟨lw_p73, List.forall_mem_cons.mpr ⟨lw_p74, List.forall_mem_cons.mpr ⟨lw_p75, List.forall_mem_cons.mpr ⟨lw_p76, List.forall_mem_cons.mpr ⟨lw_p77, List.forall_mem_cons.mpr ⟨lw_p78, List.forall_mem_cons.mpr ⟨lw_p79, fun _ h => absurd h List.not_mem_nil⟩⟩⟩⟩⟩⟩⟩⟩⟩⟩⟩⟩⟩⟩⟩⟩
theorem lw_p80 : lw_okq (⟨"MangleLineModel", "becomes", "(II)I"⟩, 28) := ⟨⟨by decide +kernel, by decide +kernel⟩, List.mem_of_getElem? (i := 783) (by decide +kernel), List.mem_of_getElem? (i := 1020) (by decide +kernel), List.mem_of_getElem? (i := 1021) (by decide +kernel)⟩
theorem lw_p81 : lw_okq (⟨"MangleLineModel", "daysGo", "(I)V"⟩, 28) := ⟨⟨by decide +kernel, by decide +kernel⟩, List.mem_of_getElem? (i := 783) (by decide +kernel), List.mem_of_getElem? (i := 1046) (by decide +kernel), List.mem_of_getElem? (i := 1047) (by decide +kernel)⟩
theorem lw_p82 : lw_okq (⟨"MangleLineModel", "dayGoesBy", "(I)V"⟩, 28) := ⟨⟨by decide +kernel, by decide +kernel⟩, List.mem_of_getElem? (i := 783) (by decide +kernel), List.mem_of_getElem? (i := 1050) (by decide +kernel), List.mem_of_getElem? (i := 1051) (by decide +kernel)⟩
theorem lw_p83 : lw_okq (⟨"MangleLineModel", "boils", "()V"⟩, 28) := ⟨⟨by decide +kernel, by decide +kernel⟩, List.mem_of_getElem? (i := 783) (by decide +kernel), List.mem_of_getElem? (i := 1054) (by decide +kernel), List.mem_of_getElem? (i := 1055) (by decide +kernel)⟩
theorem lw_p84 : lw_okq (⟨"MangleLineModel", "becomesOf", "(III)V"⟩, 28) := ⟨⟨by decide +kernel, by decide +kernel⟩, List.mem_of_getElem? (i := 783) (by decide +kernel), List.mem_of_getElem? (i := 1058) (by decide +kernel), List.mem_of_getElem? (i := 1059) (by decide +kernel)⟩
theorem lw_p85 : lw_okq (⟨"MangleLineModel", "manyAt", "(I)I"⟩, 28) := ⟨⟨by decide +kernel, by decide +kernel⟩, List.mem_of_getElem? (i := 783) (by decide +kernel), List.mem_of_getElem? (i := 1062) (by decide +kernel), List.mem_of_getElem? (i := 1063) (by decide +kernel)⟩
theorem lw_p86 : lw_okq (⟨"MangleLineModel", "hangs", "(II)V"⟩, 28) := ⟨⟨by decide +kernel, by decide +kernel⟩, List.mem_of_getElem? (i := 783) (by decide +kernel), List.mem_of_getElem? (i := 1066) (by decide +kernel), List.mem_of_getElem? (i := 1067) (by decide +kernel)⟩
theorem lw_p87 : lw_okq (⟨"MangleLineModel", "settles", "()V"⟩, 28) := ⟨⟨by decide +kernel, by decide +kernel⟩, List.mem_of_getElem? (i := 783) (by decide +kernel), List.mem_of_getElem? (i := 1070) (by decide +kernel), List.mem_of_getElem? (i := 1071) (by decide +kernel)⟩
theorem lw_p88 : lw_okq (⟨"MangleLineModel", "daysTo", "()I"⟩, 28) := ⟨⟨by decide +kernel, by decide +kernel⟩, List.mem_of_getElem? (i := 783) (by decide +kernel), List.mem_of_getElem? (i := 1094) (by decide +kernel), List.mem_of_getElem? (i := 1095) (by decide +kernel)⟩
theorem lw_p89 : lw_okq (⟨"MangleLineModel", "isDone", "()Z"⟩, 28) := ⟨⟨by decide +kernel, by decide +kernel⟩, List.mem_of_getElem? (i := 783) (by decide +kernel), List.mem_of_getElem? (i := 1098) (by decide +kernel), List.mem_of_getElem? (i := 1099) (by decide +kernel)⟩
theorem lw_p90 : lw_okq (⟨"MangleLineModel", "leastRule", "(II)I"⟩, 28) := ⟨⟨by decide +kernel, by decide +kernel⟩, List.mem_of_getElem? (i := 783) (by decide +kernel), List.mem_of_getElem? (i := 1106) (by decide +kernel), List.mem_of_getElem? (i := 1107) (by decide +kernel)⟩
theorem lw_p91 : lw_okq (⟨"MangleLineModel", "startsJudging", "(I)V"⟩, 28) := ⟨⟨by decide +kernel, by decide +kernel⟩, List.mem_of_getElem? (i := 783) (by decide +kernel), List.mem_of_getElem? (i := 1121) (by decide +kernel), List.mem_of_getElem? (i := 1122) (by decide +kernel)⟩
theorem lw_p92 : lw_okq (⟨"MangleLineModel", "judges", "(II)V"⟩, 28) := ⟨⟨by decide +kernel, by decide +kernel⟩, List.mem_of_getElem? (i := 783) (by decide +kernel), List.mem_of_getElem? (i := 1126) (by decide +kernel), List.mem_of_getElem? (i := 1127) (by decide +kernel)⟩
theorem lw_p93 : lw_okq (⟨"MangleLineModel", "judged", "(I)I"⟩, 28) := ⟨⟨by decide +kernel, by decide +kernel⟩, List.mem_of_getElem? (i := 783) (by decide +kernel), List.mem_of_getElem? (i := 1130) (by decide +kernel), List.mem_of_getElem? (i := 1131) (by decide +kernel)⟩
theorem lw_p94 : lw_okq (⟨"MangleLineModel", "findOdds", "(III)V"⟩, 28) := ⟨⟨by decide +kernel, by decide +kernel⟩, List.mem_of_getElem? (i := 783) (by decide +kernel), List.mem_of_getElem? (i := 1157) (by decide +kernel), List.mem_of_getElem? (i := 1158) (by decide +kernel)⟩
theorem lw_p95 : lw_okq (⟨"MangleLineModel", "which", "(II)I"⟩, 28) := ⟨⟨by decide +kernel, by decide +kernel⟩, List.mem_of_getElem? (i := 783) (by decide +kernel), List.mem_of_getElem? (i := 1183) (by decide +kernel), List.mem_of_getElem? (i := 1184) (by decide +kernel)⟩
def lw_privs_6 : List (MethodName × Nat) := [(⟨"MangleLineModel", "becomes", "(II)I"⟩, 28), (⟨"MangleLineModel", "daysGo", "(I)V"⟩, 28), (⟨"MangleLineModel", "dayGoesBy", "(I)V"⟩, 28), (⟨"MangleLineModel", "boils", "()V"⟩, 28), (⟨"MangleLineModel", "becomesOf", "(III)V"⟩, 28), (⟨"MangleLineModel", "manyAt", "(I)I"⟩, 28), (⟨"MangleLineModel", "hangs", "(II)V"⟩, 28), (⟨"MangleLineModel", "settles", "()V"⟩, 28), (⟨"MangleLineModel", "daysTo", "()I"⟩, 28), (⟨"MangleLineModel", "isDone", "()Z"⟩, 28), (⟨"MangleLineModel", "leastRule", "(II)I"⟩, 28), (⟨"MangleLineModel", "startsJudging", "(I)V"⟩, 28), (⟨"MangleLineModel", "judges", "(II)V"⟩, 28), (⟨"MangleLineModel", "judged", "(I)I"⟩, 28), (⟨"MangleLineModel", "findOdds", "(III)V"⟩, 28), (⟨"MangleLineModel", "which", "(II)I"⟩, 28)]
theorem lw_r6 : ∀ q ∈ lw_privs_6, lw_okq q := List.forall_mem_cons.mpr ⟨lw_p80, List.forall_mem_cons.mpr ⟨lw_p81, List.forall_mem_cons.mpr ⟨lw_p82, List.forall_mem_cons.mpr ⟨lw_p83, List.forall_mem_cons.mpr ⟨lw_p84, List.forall_mem_cons.mpr ⟨lw_p85, List.forall_mem_cons.mpr ⟨lw_p86, List.forall_mem_cons.mpr ⟨lw_p87, List.forall_mem_cons.mpr ⟨lw_p88, List.forall_mem_cons.mpr ⟨lw_p89, List.forall_mem_cons.mpr ⟨lw_p90, List.forall_mem_cons.mpr ⟨lw_p91, List.forall_mem_cons.mpr ⟨lw_p92, List.forall_mem_cons.mpr ⟨lw_p93, List.forall_mem_cons.mpr ⟨lw_p94, List.forall_mem_cons.mpr ⟨lw_p95, fun _ h => absurd h List.not_mem_nil⟩⟩⟩⟩⟩⟩⟩⟩⟩⟩⟩⟩⟩⟩⟩⟩
theorem lw_p96 : lw_okq (⟨"MangleLineModel", "isSoWith", "(II)Z"⟩, 28) := ⟨⟨by decide +kernel, by decide +kernel⟩, List.mem_of_getElem? (i := 783) (by decide +kernel), List.mem_of_getElem? (i := 1187) (by decide +kernel), List.mem_of_getElem? (i := 1188) (by decide +kernel)⟩
theorem lw_p97 : lw_okq (⟨"MangleLineModel", "copies", "(II)V"⟩, 28) := ⟨⟨by decide +kernel, by decide +kernel⟩, List.mem_of_getElem? (i := 783) (by decide +kernel), List.mem_of_getElem? (i := 1211) (by decide +kernel), List.mem_of_getElem? (i := 1212) (by decide +kernel)⟩
def lw_privs_7 : List (MethodName × Nat) := [(⟨"MangleLineModel", "isSoWith", "(II)Z"⟩, 28), (⟨"MangleLineModel", "copies", "(II)V"⟩, 28)]
theorem lw_r7 : ∀ q ∈ lw_privs_7, lw_okq q := List.forall_mem_cons.mpr ⟨lw_p96, List.forall_mem_cons.mpr ⟨lw_p97, fun _ h => absurd h List.not_mem_nil⟩⟩
def lw_privs : List (MethodName × Nat) := lw_privs_1 ++ (lw_privs_2 ++ (lw_privs_3 ++ (lw_privs_4 ++ (lw_privs_5 ++ (lw_privs_6 ++ (lw_privs_7))))))
def lw_tbl : List Cond := k2_sels lw_privs ++ tables_1
theorem lw_privs_ok : ∀ q ∈ lw_privs, lw_okq q := by
  show ∀ q ∈ lw_privs_1 ++ (lw_privs_2 ++ (lw_privs_3 ++ (lw_privs_4 ++ (lw_privs_5 ++ (lw_privs_6 ++ (lw_privs_7)))))), lw_okq q
  exact List.forall_mem_append.mpr ⟨lw_r1, List.forall_mem_append.mpr ⟨lw_r2, List.forall_mem_append.mpr ⟨lw_r3, List.forall_mem_append.mpr ⟨lw_r4, List.forall_mem_append.mpr ⟨lw_r5, List.forall_mem_append.mpr ⟨lw_r6, lw_r7⟩⟩⟩⟩⟩⟩
end
section
theorem goodIn_r {big : List Cond} (ws : List Cond) (ps : List Nat) (hp : ws = ps.filterMap (fun i => big[i]?)) (h : ws.all goodWord = true) : GoodIn big ws := by
  intro w hw
  have h1 := List.all_eq_true.mp h w hw
  rw [hp] at hw
  obtain ⟨i, -, hi⟩ := List.mem_filterMap.mp hw
  have hm : w ∈ big := by first | exact List.mem_of_getElem? hi | exact List.getElem?_mem hi
  exact ⟨hm, good_of_word h1⟩
theorem goodIn_app {big a b : List Cond} (ha : GoodIn big a) (hb : GoodIn big b) : GoodIn big (a ++ b) := fun w h => (List.mem_append.mp h).elim (ha w) (hb w)
theorem goodIn_ca {big a b : List Cond} {c : Cond} (ha : GoodIn big (c :: a)) (hb : GoodIn big b) : GoodIn big (c :: (a ++ b)) := fun w h => (List.mem_cons.mp h).elim (fun e => ha w (List.mem_cons.mpr (Or.inl e))) (fun h => (List.mem_append.mp h).elim (fun h => ha w (List.mem_cons.mpr (Or.inr h))) (hb w))
theorem goodIn_sub {big ws : List Cond} (hm : ∀ w ∈ ws, w ∈ big) (h : ws.all goodWord = true) : GoodIn big ws := fun w hw => ⟨hm w hw, good_of_word (List.all_eq_true.mp h w hw)⟩
def RX0 : String := "MangleLine$Choice"
def TX0 : u_T := fun k => match k with
  | 0 => ("MangleLine$Choice", "pick", "I", false)
  | _ => ("MangleLine$Choice", "cost", "I", false)
def tyX0 : Nat → FieldType := fun k => match k with
  | 0 => .int
  | _ => .int
abbrev wsX00 : List Cond := u_ws RX0 TX0 2
theorem nmX0 : ∀ a, a < 2 → ∀ b, b < 2 → a ≠ b → (TX0 a).2.1 ≠ (TX0 b).2.1 := by decide +kernel
theorem tyX0_ok : ∀ k, k < 2 → parseFieldDescriptor (TX0 k).2.2.1 = some (tyX0 k) := by decide +kernel
abbrev cX0_init : ByteArray := prog_2_method_1_code
def yX0_init : MethodName := ⟨RX0, "<init>", "()V"⟩
abbrev cX0_begin : ByteArray := prog_2_method_2_code
def yX0_begin : MethodName := ⟨RX0, "begin", "(I)V"⟩
abbrev cX0_offer : ByteArray := prog_2_method_3_code
def yX0_offer : MethodName := ⟨RX0, "offer", "(II)V"⟩
abbrev cX0_tell : ByteArray := prog_2_method_4_code
def yX0_tell : MethodName := ⟨RX0, "tell", "(I)I"⟩
def RX1 : String := "MangleLine$Image"
def TX1 : u_T := fun k => match k with
  | 0 => ("MangleLine$Image", "kept", "Z", false)
  | 1 => ("MangleLine$Image", "laundry", "LMangleLine$Laundry;", true)
  | _ => ("MangleLine$Image", "seen", "LMangleLine$Sightings;", true)
def tyX1 : Nat → FieldType := fun k => match k with
  | 0 => .boolean
  | 1 => .object "MangleLine$Laundry"
  | _ => .object "MangleLine$Sightings"
abbrev wsX10 : List Cond := u_ws RX1 TX1 3
theorem nmX1 : ∀ a, a < 3 → ∀ b, b < 3 → a ≠ b → (TX1 a).2.1 ≠ (TX1 b).2.1 := by decide +kernel
theorem tyX1_ok : ∀ k, k < 3 → parseFieldDescriptor (TX1 k).2.2.1 = some (tyX1 k) := by decide +kernel
abbrev cX1_init : ByteArray := prog_3_method_1_code
def yX1_init : MethodName := ⟨RX1, "<init>", "()V"⟩
def RX2 : String := "MangleLine$Laundry"
def TX2 : u_T := fun k => match k with
  | 0 => ("MangleLine$Laundry", "size", "I", false)
  | 1 => ("MangleLine$Laundry", "day", "I", false)
  | 2 => ("MangleLine$Laundry", "boiled", "I", false)
  | 3 => ("MangleLine$Laundry", "kinds", "[I", true)
  | 4 => ("MangleLine$Laundry", "greys", "[I", true)
  | 5 => ("MangleLine$Laundry", "wets", "[I", true)
  | 6 => ("MangleLine$Laundry", "places", "[I", true)
  | 7 => ("MangleLine$Laundry", "rules", "[I", true)
  | _ => ("MangleLine$Laundry", "suns", "[I", true)
def tyX2 : Nat → FieldType := fun k => match k with
  | 0 => .int
  | 1 => .int
  | 2 => .int
  | 3 => .array .int
  | 4 => .array .int
  | 5 => .array .int
  | 6 => .array .int
  | 7 => .array .int
  | _ => .array .int
abbrev wsX20 : List Cond := u_ws RX2 TX2 9
theorem nmX2 : ∀ a, a < 9 → ∀ b, b < 9 → a ≠ b → (TX2 a).2.1 ≠ (TX2 b).2.1 := by decide +kernel
theorem tyX2_ok : ∀ k, k < 9 → parseFieldDescriptor (TX2 k).2.2.1 = some (tyX2 k) := by decide +kernel
abbrev cX2_init : ByteArray := prog_4_method_1_code
def yX2_init : MethodName := ⟨RX2, "<init>", "()V"⟩
abbrev cX2_clear : ByteArray := prog_4_method_2_code
def yX2_clear : MethodName := ⟨RX2, "clear", "()V"⟩
abbrev cX2_become : ByteArray := prog_4_method_3_code
def yX2_become : MethodName := ⟨RX2, "become", "(LMangleLine$Laundry;)V"⟩
abbrev cX2_admit : ByteArray := prog_4_method_4_code
def yX2_admit : MethodName := ⟨RX2, "admit", "(II)I"⟩
abbrev cX2_exchange : ByteArray := prog_4_method_5_code
def yX2_exchange : MethodName := ⟨RX2, "exchange", "(II)V"⟩
abbrev cX2_exchangeIn : ByteArray := prog_4_method_6_code
def yX2_exchangeIn : MethodName := ⟨RX2, "exchangeIn", "([III)V"⟩
abbrev cX2_soil : ByteArray := prog_4_method_7_code
def yX2_soil : MethodName := ⟨RX2, "soil", "(II)V"⟩
abbrev cX2_scrubs : ByteArray := prog_4_method_8_code
def yX2_scrubs : MethodName := ⟨RX2, "scrubs", "(I)I"⟩
abbrev cX2_dries : ByteArray := prog_4_method_9_code
def yX2_dries : MethodName := ⟨RX2, "dries", "(II)I"⟩
abbrev cX2_sunToday : ByteArray := prog_4_method_10_code
def yX2_sunToday : MethodName := ⟨RX2, "sunToday", "()I"⟩
abbrev cX2_passDays : ByteArray := prog_4_method_11_code
def yX2_passDays : MethodName := ⟨RX2, "passDays", "(I)I"⟩
abbrev cX2_daysTillHome : ByteArray := prog_4_method_12_code
def yX2_daysTillHome : MethodName := ⟨RX2, "daysTillHome", "(II)I"⟩
abbrev cX2_daysTillDone : ByteArray := prog_4_method_13_code
def yX2_daysTillDone : MethodName := ⟨RX2, "daysTillDone", "(I)I"⟩
abbrev cX2_passDay : ByteArray := prog_4_method_14_code
def yX2_passDay : MethodName := ⟨RX2, "passDay", "(I)I"⟩
abbrev cX2_boilBatch : ByteArray := prog_4_method_15_code
def yX2_boilBatch : MethodName := ⟨RX2, "boilBatch", "()V"⟩
abbrev cX2_dryLine : ByteArray := prog_4_method_16_code
def yX2_dryLine : MethodName := ⟨RX2, "dryLine", "(I)I"⟩
abbrev cX2_whoIsAt : ByteArray := prog_4_method_17_code
def yX2_whoIsAt : MethodName := ⟨RX2, "whoIsAt", "(I)I"⟩
abbrev cX2_allAreHome : ByteArray := prog_4_method_18_code
def yX2_allAreHome : MethodName := ⟨RX2, "allAreHome", "()Z"⟩
abbrev cX2_greyOfAll : ByteArray := prog_4_method_19_code
def yX2_greyOfAll : MethodName := ⟨RX2, "greyOfAll", "()I"⟩
abbrev cX2_wetOfAll : ByteArray := prog_4_method_20_code
def yX2_wetOfAll : MethodName := ⟨RX2, "wetOfAll", "()I"⟩
abbrev cX2_sunOfAll : ByteArray := prog_4_method_21_code
def yX2_sunOfAll : MethodName := ⟨RX2, "sunOfAll", "()I"⟩
abbrev cX2_sumOf : ByteArray := prog_4_method_22_code
def yX2_sumOf : MethodName := ⟨RX2, "sumOf", "([II)I"⟩
def RX3 : String := "MangleLine$Script"
def TX3 : u_T := fun k => match k with
  | 0 => ("MangleLine$Script", "tape", "LMangleLine$Tape;", true)
  | 1 => ("MangleLine$Script", "fault", "I", false)
  | 2 => ("MangleLine$Script", "faultPlace", "I", false)
  | _ => ("MangleLine$Script", "stood", "I", false)
def tyX3 : Nat → FieldType := fun k => match k with
  | 0 => .object "MangleLine$Tape"
  | 1 => .int
  | 2 => .int
  | _ => .int
abbrev wsX30 : List Cond := u_ws RX3 TX3 4
theorem nmX3 : ∀ a, a < 4 → ∀ b, b < 4 → a ≠ b → (TX3 a).2.1 ≠ (TX3 b).2.1 := by decide +kernel
theorem tyX3_ok : ∀ k, k < 4 → parseFieldDescriptor (TX3 k).2.2.1 = some (tyX3 k) := by decide +kernel
abbrev cX3_init : ByteArray := prog_5_method_1_code
def yX3_init : MethodName := ⟨RX3, "<init>", "(LMangleLine$Tape;)V"⟩
abbrev cX3_tell : ByteArray := prog_5_method_2_code
def yX3_tell : MethodName := ⟨RX3, "tell", "(LMangleLine$Laundry;)I"⟩
abbrev cX3_blame : ByteArray := prog_5_method_3_code
def yX3_blame : MethodName := ⟨RX3, "blame", "(I)Z"⟩
abbrev cX3_takeToken : ByteArray := prog_5_method_4_code
def yX3_takeToken : MethodName := ⟨RX3, "takeToken", "()Z"⟩
abbrev cX3_tellLine : ByteArray := prog_5_method_5_code
def yX3_tellLine : MethodName := ⟨RX3, "tellLine", "(LMangleLine$Laundry;)Z"⟩
abbrev cX3_tellOne : ByteArray := prog_5_method_6_code
def yX3_tellOne : MethodName := ⟨RX3, "tellOne", "(LMangleLine$Laundry;I)Z"⟩
abbrev cX3_tellRule : ByteArray := prog_5_method_7_code
def yX3_tellRule : MethodName := ⟨RX3, "tellRule", "(LMangleLine$Laundry;I)Z"⟩
abbrev cX3_tellSuns : ByteArray := prog_5_method_8_code
def yX3_tellSuns : MethodName := ⟨RX3, "tellSuns", "(LMangleLine$Laundry;)Z"⟩
abbrev cX3_isNumber : ByteArray := prog_5_method_9_code
def yX3_isNumber : MethodName := ⟨RX3, "isNumber", "(II)Z"⟩
abbrev cX3_isStop : ByteArray := prog_5_method_10_code
def yX3_isStop : MethodName := ⟨RX3, "isStop", "()Z"⟩
def RX4 : String := "MangleLine$Sheet"
def TX4 : u_T := fun k => match k with
  | 0 => ("MangleLine$Sheet", "lane", "I", false)
  | 1 => ("MangleLine$Sheet", "length", "I", false)
  | _ => ("MangleLine$Sheet", "cells", "[I", true)
def tyX4 : Nat → FieldType := fun k => match k with
  | 0 => .int
  | 1 => .int
  | _ => .array .int
abbrev wsX40 : List Cond := u_ws RX4 TX4 3
theorem nmX4 : ∀ a, a < 3 → ∀ b, b < 3 → a ≠ b → (TX4 a).2.1 ≠ (TX4 b).2.1 := by decide +kernel
theorem tyX4_ok : ∀ k, k < 3 → parseFieldDescriptor (TX4 k).2.2.1 = some (tyX4 k) := by decide +kernel
abbrev cX4_init : ByteArray := prog_6_method_1_code
def yX4_init : MethodName := ⟨RX4, "<init>", "()V"⟩
abbrev cX4_renew : ByteArray := prog_6_method_2_code
def yX4_renew : MethodName := ⟨RX4, "renew", "(II)V"⟩
abbrev cX4_isNothing : ByteArray := prog_6_method_3_code
def yX4_isNothing : MethodName := ⟨RX4, "isNothing", "()Z"⟩
abbrev cX4_hasCell : ByteArray := prog_6_method_4_code
def yX4_hasCell : MethodName := ⟨RX4, "hasCell", "(I)Z"⟩
abbrev cX4_write : ByteArray := prog_6_method_5_code
def yX4_write : MethodName := ⟨RX4, "write", "(II)V"⟩
abbrev cX4_isAnotherLane : ByteArray := prog_6_method_6_code
def yX4_isAnotherLane : MethodName := ⟨RX4, "isAnotherLane", "(I)Z"⟩
abbrev cX4_wholePairs : ByteArray := prog_6_method_7_code
def yX4_wholePairs : MethodName := ⟨RX4, "wholePairs", "(III)I"⟩
abbrev cX4_faultOfReading : ByteArray := prog_6_method_8_code
def yX4_faultOfReading : MethodName := ⟨RX4, "faultOfReading", "(IZ)I"⟩
def RX5 : String := "MangleLine$Sightings"
def TX5 : u_T := fun k => match k with
  | 0 => ("MangleLine$Sightings", "size", "I", false)
  | 1 => ("MangleLine$Sightings", "looks", "[I", true)
  | 2 => ("MangleLine$Sightings", "whos", "[I", true)
  | _ => ("MangleLine$Sightings", "places", "[I", true)
def tyX5 : Nat → FieldType := fun k => match k with
  | 0 => .int
  | 1 => .array .int
  | 2 => .array .int
  | _ => .array .int
abbrev wsX50 : List Cond := u_ws RX5 TX5 4
theorem nmX5 : ∀ a, a < 4 → ∀ b, b < 4 → a ≠ b → (TX5 a).2.1 ≠ (TX5 b).2.1 := by decide +kernel
theorem tyX5_ok : ∀ k, k < 4 → parseFieldDescriptor (TX5 k).2.2.1 = some (tyX5 k) := by decide +kernel
abbrev cX5_init : ByteArray := prog_7_method_1_code
def yX5_init : MethodName := ⟨RX5, "<init>", "()V"⟩
abbrev cX5_note : ByteArray := prog_7_method_2_code
def yX5_note : MethodName := ⟨RX5, "note", "(III)Z"⟩
abbrev cX5_become : ByteArray := prog_7_method_3_code
def yX5_become : MethodName := ⟨RX5, "become", "(LMangleLine$Sightings;)V"⟩
abbrev cX5_agreeWith : ByteArray := prog_7_method_4_code
def yX5_agreeWith : MethodName := ⟨RX5, "agreeWith", "(LMangleLine$Laundry;)Z"⟩
abbrev cX5_lastLook : ByteArray := prog_7_method_5_code
def yX5_lastLook : MethodName := ⟨RX5, "lastLook", "()I"⟩
abbrev cX5_agreeOn : ByteArray := prog_7_method_6_code
def yX5_agreeOn : MethodName := ⟨RX5, "agreeOn", "(ILMangleLine$Laundry;)Z"⟩
def RX6 : String := "MangleLine$Tape"
def TX6 : u_T := fun k => match k with
  | 0 => ("MangleLine$Tape", "bytes", "[I", true)
  | 1 => ("MangleLine$Tape", "length", "I", false)
  | 2 => ("MangleLine$Tape", "at", "I", false)
  | 3 => ("MangleLine$Tape", "token", "I", false)
  | 4 => ("MangleLine$Tape", "start", "I", false)
  | _ => ("MangleLine$Tape", "number", "I", false)
def tyX6 : Nat → FieldType := fun k => match k with
  | 0 => .array .int
  | 1 => .int
  | 2 => .int
  | 3 => .int
  | 4 => .int
  | _ => .int
abbrev wsX60 : List Cond := u_ws RX6 TX6 6
theorem nmX6 : ∀ a, a < 6 → ∀ b, b < 6 → a ≠ b → (TX6 a).2.1 ≠ (TX6 b).2.1 := by decide +kernel
theorem tyX6_ok : ∀ k, k < 6 → parseFieldDescriptor (TX6 k).2.2.1 = some (tyX6 k) := by decide +kernel
abbrev cX6_init : ByteArray := prog_8_method_1_code
def yX6_init : MethodName := ⟨RX6, "<init>", "()V"⟩
abbrev cX6_append : ByteArray := prog_8_method_2_code
def yX6_append : MethodName := ⟨RX6, "append", "(I)Z"⟩
abbrev cX6_rewind : ByteArray := prog_8_method_3_code
def yX6_rewind : MethodName := ⟨RX6, "rewind", "()V"⟩
abbrev cX6_readToken : ByteArray := prog_8_method_4_code
def yX6_readToken : MethodName := ⟨RX6, "readToken", "()V"⟩
abbrev cX6_readFigures : ByteArray := prog_8_method_5_code
def yX6_readFigures : MethodName := ⟨RX6, "readFigures", "()V"⟩
abbrev cX6_tokenWith : ByteArray := prog_8_method_6_code
def yX6_tokenWith : MethodName := ⟨RX6, "tokenWith", "(I)I"⟩
abbrev cX6_word : ByteArray := prog_8_method_7_code
def yX6_word : MethodName := ⟨RX6, "word", "()I"⟩
abbrev cX6_wordOf : ByteArray := prog_8_method_8_code
def yX6_wordOf : MethodName := ⟨RX6, "wordOf", "(I)Ljava/lang/String;"⟩
abbrev cX6_isSpelt : ByteArray := prog_8_method_9_code
def yX6_isSpelt : MethodName := ⟨RX6, "isSpelt", "(Ljava/lang/String;)Z"⟩
def RX7 : String := "MangleLine"
def TX7 : u_T := fun k => match k with
  | 0 => ("MangleLine", "now", "LMangleLine$Laundry;", true)
  | 1 => ("MangleLine", "trial", "LMangleLine$Laundry;", true)
  | 2 => ("MangleLine", "weathers", "[LMangleLine$Laundry;", true)
  | 3 => ("MangleLine", "tape", "LMangleLine$Tape;", true)
  | 4 => ("MangleLine", "script", "LMangleLine$Script;", true)
  | 5 => ("MangleLine", "seen", "LMangleLine$Sightings;", true)
  | 6 => ("MangleLine", "choice", "LMangleLine$Choice;", true)
  | 7 => ("MangleLine", "tallies", "[I", true)
  | 8 => ("MangleLine", "images", "[LMangleLine$Image;", true)
  | 9 => ("MangleLine", "sheets", "[LMangleLine$Sheet;", true)
  | _ => ("MangleLine", "readFault", "I", false)
def tyX7 : Nat → FieldType := fun k => match k with
  | 0 => .object "MangleLine$Laundry"
  | 1 => .object "MangleLine$Laundry"
  | 2 => .array (.object "MangleLine$Laundry")
  | 3 => .object "MangleLine$Tape"
  | 4 => .object "MangleLine$Script"
  | 5 => .object "MangleLine$Sightings"
  | 6 => .object "MangleLine$Choice"
  | 7 => .array .int
  | 8 => .array (.object "MangleLine$Image")
  | 9 => .array (.object "MangleLine$Sheet")
  | _ => .int
abbrev wsX70 : List Cond := u_ws RX7 TX7 11
theorem nmX7 : ∀ a, a < 11 → ∀ b, b < 11 → a ≠ b → (TX7 a).2.1 ≠ (TX7 b).2.1 := by decide +kernel
theorem tyX7_ok : ∀ k, k < 11 → parseFieldDescriptor (TX7 k).2.2.1 = some (tyX7 k) := by decide +kernel
abbrev cX7_init : ByteArray := prog_1_method_1_code
def yX7_init : MethodName := ⟨RX7, "<init>", "()V"⟩
abbrev cX7_feed : ByteArray := prog_1_method_2_code
def yX7_feed : MethodName := ⟨RX7, "feed", "(I)I"⟩
abbrev cX7_end : ByteArray := prog_1_method_3_code
def yX7_end : MethodName := ⟨RX7, "end", "(I)I"⟩
abbrev cX7_text : ByteArray := prog_1_method_4_code
def yX7_text : MethodName := ⟨RX7, "text", "()I"⟩
abbrev cX7_fault : ByteArray := prog_1_method_5_code
def yX7_fault : MethodName := ⟨RX7, "fault", "()I"⟩
abbrev cX7_rule : ByteArray := prog_1_method_6_code
def yX7_rule : MethodName := ⟨RX7, "rule", "(I)I"⟩
abbrev cX7_told : ByteArray := prog_1_method_7_code
def yX7_told : MethodName := ⟨RX7, "told", "(I)I"⟩
abbrev cX7_one : ByteArray := prog_1_method_8_code
def yX7_one : MethodName := ⟨RX7, "one", "(II)I"⟩
abbrev cX7_sun : ByteArray := prog_1_method_9_code
def yX7_sun : MethodName := ⟨RX7, "sun", "(I)I"⟩
abbrev cX7_alter : ByteArray := prog_1_method_10_code
def yX7_alter : MethodName := ⟨RX7, "alter", "(III)I"⟩
abbrev cX7_set : ByteArray := prog_1_method_11_code
def yX7_set : MethodName := ⟨RX7, "set", "(II)I"⟩
abbrev cX7_shine : ByteArray := prog_1_method_12_code
def yX7_shine : MethodName := ⟨RX7, "shine", "(II)I"⟩
abbrev cX7_bring : ByteArray := prog_1_method_13_code
def yX7_bring : MethodName := ⟨RX7, "bring", "(II)I"⟩
abbrev cX7_fetch : ByteArray := prog_1_method_14_code
def yX7_fetch : MethodName := ⟨RX7, "fetch", "(I)I"⟩
abbrev cX7_days : ByteArray := prog_1_method_15_code
def yX7_days : MethodName := ⟨RX7, "days", "(I)I"⟩
abbrev cX7_runs : ByteArray := prog_1_method_16_code
def yX7_runs : MethodName := ⟨RX7, "runs", "(II)I"⟩
abbrev cX7_ahead : ByteArray := prog_1_method_17_code
def yX7_ahead : MethodName := ⟨RX7, "ahead", "(III)I"⟩
abbrev cX7_home : ByteArray := prog_1_method_18_code
def yX7_home : MethodName := ⟨RX7, "home", "(I)I"⟩
abbrev cX7_done : ByteArray := prog_1_method_19_code
def yX7_done : MethodName := ⟨RX7, "done", "()I"⟩
abbrev cX7_blue : ByteArray := prog_1_method_20_code
def yX7_blue : MethodName := ⟨RX7, "blue", "(I)I"⟩
abbrev cX7_pegs : ByteArray := prog_1_method_21_code
def yX7_pegs : MethodName := ⟨RX7, "pegs", "(I)I"⟩
abbrev cX7_batch : ByteArray := prog_1_method_22_code
def yX7_batch : MethodName := ⟨RX7, "batch", "(I)I"⟩
abbrev cX7_swap : ByteArray := prog_1_method_23_code
def yX7_swap : MethodName := ⟨RX7, "swap", "(I)I"⟩
abbrev cX7_fair : ByteArray := prog_1_method_24_code
def yX7_fair : MethodName := ⟨RX7, "fair", "(I)I"⟩
abbrev cX7_stain : ByteArray := prog_1_method_25_code
def yX7_stain : MethodName := ⟨RX7, "stain", "(II)I"⟩
abbrev cX7_kind : ByteArray := prog_1_method_26_code
def yX7_kind : MethodName := ⟨RX7, "kind", "(II)I"⟩
abbrev cX7_luck : ByteArray := prog_1_method_27_code
def yX7_luck : MethodName := ⟨RX7, "luck", "(IIII)J"⟩
abbrev cX7_mean : ByteArray := prog_1_method_28_code
def yX7_mean : MethodName := ⟨RX7, "mean", "(III)J"⟩
abbrev cX7_see : ByteArray := prog_1_method_29_code
def yX7_see : MethodName := ⟨RX7, "see", "(III)I"⟩
abbrev cX7_forget : ByteArray := prog_1_method_30_code
def yX7_forget : MethodName := ⟨RX7, "forget", "(I)I"⟩
abbrev cX7_kinds : ByteArray := prog_1_method_31_code
def yX7_kinds : MethodName := ⟨RX7, "kinds", "(I)I"⟩
abbrev cX7_greys : ByteArray := prog_1_method_32_code
def yX7_greys : MethodName := ⟨RX7, "greys", "(I)I"⟩
abbrev cX7_ask : ByteArray := prog_1_method_33_code
def yX7_ask : MethodName := ⟨RX7, "ask", "(II)I"⟩
abbrev cX7_drift : ByteArray := prog_1_method_34_code
def yX7_drift : MethodName := ⟨RX7, "drift", "(III)I"⟩
abbrev cX7_keep : ByteArray := prog_1_method_35_code
def yX7_keep : MethodName := ⟨RX7, "keep", "(I)I"⟩
abbrev cX7_back : ByteArray := prog_1_method_36_code
def yX7_back : MethodName := ⟨RX7, "back", "(I)I"⟩
abbrev cX7_sheet : ByteArray := prog_1_method_37_code
def yX7_sheet : MethodName := ⟨RX7, "sheet", "(III)I"⟩
abbrev cX7_lay : ByteArray := prog_1_method_38_code
def yX7_lay : MethodName := ⟨RX7, "lay", "(III)I"⟩
abbrev cX7_read : ByteArray := prog_1_method_39_code
def yX7_read : MethodName := ⟨RX7, "read", "(IIII)I"⟩
abbrev cX7_torn : ByteArray := prog_1_method_40_code
def yX7_torn : MethodName := ⟨RX7, "torn", "()I"⟩
abbrev cX7_count : ByteArray := prog_1_method_41_code
def yX7_count : MethodName := ⟨RX7, "count", "(I)I"⟩
abbrev cX7_within : ByteArray := prog_1_method_42_code
def yX7_within : MethodName := ⟨RX7, "within", "(III)Z"⟩
abbrev cX7_isHalf : ByteArray := prog_1_method_43_code
def yX7_isHalf : MethodName := ⟨RX7, "isHalf", "(I)Z"⟩
abbrev cX7_isWeekday : ByteArray := prog_1_method_44_code
def yX7_isWeekday : MethodName := ⟨RX7, "isWeekday", "(I)Z"⟩
abbrev cX7_isSheet : ByteArray := prog_1_method_45_code
def yX7_isSheet : MethodName := ⟨RX7, "isSheet", "(I)Z"⟩
abbrev cX7_isLane : ByteArray := prog_1_method_46_code
def yX7_isLane : MethodName := ⟨RX7, "isLane", "(I)Z"⟩
abbrev cX7_isOne : ByteArray := prog_1_method_47_code
def yX7_isOne : MethodName := ⟨RX7, "isOne", "(I)Z"⟩
abbrev cX7_replace : ByteArray := prog_1_method_48_code
def yX7_replace : MethodName := ⟨RX7, "replace", "([IIII)I"⟩
abbrev cX7_imagesKept : ByteArray := prog_1_method_49_code
def yX7_imagesKept : MethodName := ⟨RX7, "imagesKept", "()I"⟩
abbrev cX7_daysAsItIs : ByteArray := prog_1_method_50_code
def yX7_daysAsItIs : MethodName := ⟨RX7, "daysAsItIs", "()I"⟩
abbrev cX7_orNone : ByteArray := prog_1_method_51_code
def yX7_orNone : MethodName := ⟨RX7, "orNone", "(I)I"⟩
abbrev cX7_leastOfRule : ByteArray := prog_1_method_52_code
def yX7_leastOfRule : MethodName := ⟨RX7, "leastOfRule", "(II)I"⟩
abbrev cX7_rainFraction : ByteArray := prog_1_method_53_code
def yX7_rainFraction : MethodName := ⟨RX7, "rainFraction", "(IIII)J"⟩
abbrev cX7_weigh : ByteArray := prog_1_method_54_code
def yX7_weigh : MethodName := ⟨RX7, "weigh", "(IIII)J"⟩
abbrev cX7_weighUnder : ByteArray := prog_1_method_55_code
def yX7_weighUnder : MethodName := ⟨RX7, "weighUnder", "(IIIII)J"⟩
abbrev cX7_worth : ByteArray := prog_1_method_56_code
def yX7_worth : MethodName := ⟨RX7, "worth", "(LMangleLine$Laundry;I)J"⟩
abbrev cX7_inLowestTerms : ByteArray := prog_1_method_57_code
def yX7_inLowestTerms : MethodName := ⟨RX7, "inLowestTerms", "(JJII)J"⟩
abbrev cX7_greysAsSeen : ByteArray := prog_1_method_58_code
def yX7_greysAsSeen : MethodName := ⟨RX7, "greysAsSeen", "(I)I"⟩
abbrev cX7_tallyPlaces : ByteArray := prog_1_method_59_code
def yX7_tallyPlaces : MethodName := ⟨RX7, "tallyPlaces", "(II)V"⟩
abbrev cX7_tallyAt : ByteArray := prog_1_method_60_code
def yX7_tallyAt : MethodName := ⟨RX7, "tallyAt", "(II)I"⟩
abbrev cX7_mostLeft : ByteArray := prog_1_method_61_code
def yX7_mostLeft : MethodName := ⟨RX7, "mostLeft", "(II)I"⟩
def RX8 : String := "MangleLineModel"
def TX8 : u_T := fun k => match k with
  | 0 => ("MangleLineModel", "st", "[I", true)
  | 1 => ("MangleLineModel", "now", "[I", true)
  | 2 => ("MangleLineModel", "isKept", "[Z", true)
  | 3 => ("MangleLineModel", "draft", "[I", true)
  | 4 => ("MangleLineModel", "toldRules", "I", false)
  | 5 => ("MangleLineModel", "suns", "I", false)
  | 6 => ("MangleLineModel", "tape", "[I", true)
  | 7 => ("MangleLineModel", "taped", "I", false)
  | 8 => ("MangleLineModel", "pos", "I", false)
  | 9 => ("MangleLineModel", "begun", "I", false)
  | 10 => ("MangleLineModel", "sort", "I", false)
  | 11 => ("MangleLineModel", "value", "I", false)
  | 12 => ("MangleLineModel", "fault", "I", false)
  | 13 => ("MangleLineModel", "wrongAt", "I", false)
  | 14 => ("MangleLineModel", "boilings", "I", false)
  | 15 => ("MangleLineModel", "homings", "I", false)
  | 16 => ("MangleLineModel", "bestCode", "I", false)
  | 17 => ("MangleLineModel", "bestMuch", "I", false)
  | 18 => ("MangleLineModel", "homeSum", "J", false)
  | 19 => ("MangleLineModel", "greySum", "J", false)
  | 20 => ("MangleLineModel", "allWays", "J", false)
  | 21 => ("MangleLineModel", "were", "[I", true)
  | 22 => ("MangleLineModel", "byWhere", "[I", true)
  | 23 => ("MangleLineModel", "lanes", "[I", true)
  | 24 => ("MangleLineModel", "sizes", "[I", true)
  | 25 => ("MangleLineModel", "cells", "[I", true)
  | 26 => ("MangleLineModel", "torn", "I", false)
  | _ => ("MangleLineModel", "before", "[I", true)
def tyX8 : Nat → FieldType := fun k => match k with
  | 0 => .array .int
  | 1 => .array .int
  | 2 => .array .boolean
  | 3 => .array .int
  | 4 => .int
  | 5 => .int
  | 6 => .array .int
  | 7 => .int
  | 8 => .int
  | 9 => .int
  | 10 => .int
  | 11 => .int
  | 12 => .int
  | 13 => .int
  | 14 => .int
  | 15 => .int
  | 16 => .int
  | 17 => .int
  | 18 => .long
  | 19 => .long
  | 20 => .long
  | 21 => .array .int
  | 22 => .array .int
  | 23 => .array .int
  | 24 => .array .int
  | 25 => .array .int
  | 26 => .int
  | _ => .array .int
abbrev wsX80 : List Cond := u_ws RX8 TX8 28
theorem nmX8 : ∀ a, a < 28 → ∀ b, b < 28 → a ≠ b → (TX8 a).2.1 ≠ (TX8 b).2.1 := by decide +kernel
theorem tyX8_ok : ∀ k, k < 28 → parseFieldDescriptor (TX8 k).2.2.1 = some (tyX8 k) := by decide +kernel
abbrev cX8_init : ByteArray := prog_10_method_1_code
def yX8_init : MethodName := ⟨RX8, "<init>", "()V"⟩
abbrev cX8_in : ByteArray := prog_10_method_3_code
def yX8_in : MethodName := ⟨RX8, "in", "(JJJ)Z"⟩
abbrev cX8_flag : ByteArray := prog_10_method_4_code
def yX8_flag : MethodName := ⟨RX8, "flag", "(Z)I"⟩
abbrev cX8_lesser : ByteArray := prog_10_method_5_code
def yX8_lesser : MethodName := ⟨RX8, "lesser", "(II)I"⟩
abbrev cX8_less : ByteArray := prog_10_method_6_code
def yX8_less : MethodName := ⟨RX8, "less", "(II)I"⟩
abbrev cX8_firstDraft : ByteArray := prog_10_method_7_code
def yX8_firstDraft : MethodName := ⟨RX8, "firstDraft", "()V"⟩
abbrev cX8_keepDraft : ByteArray := prog_10_method_8_code
def yX8_keepDraft : MethodName := ⟨RX8, "keepDraft", "()V"⟩
abbrev cX8_feed : ByteArray := prog_10_method_9_code
def yX8_feed : MethodName := ⟨RX8, "feed", "(I)I"⟩
abbrev cX8_end : ByteArray := prog_10_method_10_code
def yX8_end : MethodName := ⟨RX8, "end", "(I)I"⟩
abbrev cX8_requires : ByteArray := prog_10_method_11_code
def yX8_requires : MethodName := ⟨RX8, "requires", "(ZI)V"⟩
abbrev cX8_byteAt : ByteArray := prog_10_method_12_code
def yX8_byteAt : MethodName := ⟨RX8, "byteAt", "(I)I"⟩
abbrev cX8_is : ByteArray := prog_10_method_13_code
def yX8_is : MethodName := ⟨RX8, "is", "(IIII)Z"⟩
abbrev cX8_endsIn : ByteArray := prog_10_method_14_code
def yX8_endsIn : MethodName := ⟨RX8, "endsIn", "(III)Z"⟩
abbrev cX8_ruleNow : ByteArray := prog_10_method_15_code
def yX8_ruleNow : MethodName := ⟨RX8, "ruleNow", "()I"⟩
abbrev cX8_lineNow : ByteArray := prog_10_method_16_code
def yX8_lineNow : MethodName := ⟨RX8, "lineNow", "()I"⟩
abbrev cX8_reads : ByteArray := prog_10_method_17_code
def yX8_reads : MethodName := ⟨RX8, "reads", "()V"⟩
abbrev cX8_readNumber : ByteArray := prog_10_method_18_code
def yX8_readNumber : MethodName := ⟨RX8, "readNumber", "(II)I"⟩
abbrev cX8_lowOf : ByteArray := prog_10_method_19_code
def yX8_lowOf : MethodName := ⟨RX8, "lowOf", "(I)I"⟩
abbrev cX8_mostOf : ByteArray := prog_10_method_20_code
def yX8_mostOf : MethodName := ⟨RX8, "mostOf", "(I)I"⟩
abbrev cX8_readSuns : ByteArray := prog_10_method_21_code
def yX8_readSuns : MethodName := ⟨RX8, "readSuns", "()V"⟩
abbrev cX8_readLineOf : ByteArray := prog_10_method_22_code
def yX8_readLineOf : MethodName := ⟨RX8, "readLineOf", "(I)V"⟩
abbrev cX8_readLine : ByteArray := prog_10_method_23_code
def yX8_readLine : MethodName := ⟨RX8, "readLine", "()V"⟩
abbrev cX8_text : ByteArray := prog_10_method_24_code
def yX8_text : MethodName := ⟨RX8, "text", "()I"⟩
abbrev cX8_fault : ByteArray := prog_10_method_25_code
def yX8_fault : MethodName := ⟨RX8, "fault", "()I"⟩
abbrev cX8_isOne : ByteArray := prog_10_method_26_code
def yX8_isOne : MethodName := ⟨RX8, "isOne", "(I)Z"⟩
abbrev cX8_isPart : ByteArray := prog_10_method_27_code
def yX8_isPart : MethodName := ⟨RX8, "isPart", "(I)Z"⟩
abbrev cX8_starts : ByteArray := prog_10_method_28_code
def yX8_starts : MethodName := ⟨RX8, "starts", "()V"⟩
abbrev cX8_settles : ByteArray := prog_10_method_29_code
def yX8_settles : MethodName := ⟨RX8, "settles", "()V"⟩
abbrev cX8_of : ByteArray := prog_10_method_30_code
def yX8_of : MethodName := ⟨RX8, "of", "(II)I"⟩
abbrev cX8_becomesOf : ByteArray := prog_10_method_31_code
def yX8_becomesOf : MethodName := ⟨RX8, "becomesOf", "(III)V"⟩
abbrev cX8_those : ByteArray := prog_10_method_32_code
def yX8_those : MethodName := ⟨RX8, "those", "(I)I"⟩
abbrev cX8_manyAt : ByteArray := prog_10_method_33_code
def yX8_manyAt : MethodName := ⟨RX8, "manyAt", "(I)I"⟩
abbrev cX8_sumOf : ByteArray := prog_10_method_34_code
def yX8_sumOf : MethodName := ⟨RX8, "sumOf", "(I)I"⟩
abbrev cX8_scrubs : ByteArray := prog_10_method_35_code
def yX8_scrubs : MethodName := ⟨RX8, "scrubs", "(I)I"⟩
abbrev cX8_dries : ByteArray := prog_10_method_36_code
def yX8_dries : MethodName := ⟨RX8, "dries", "(II)I"⟩
abbrev cX8_boils : ByteArray := prog_10_method_37_code
def yX8_boils : MethodName := ⟨RX8, "boils", "()V"⟩
abbrev cX8_hangs : ByteArray := prog_10_method_38_code
def yX8_hangs : MethodName := ⟨RX8, "hangs", "(II)V"⟩
abbrev cX8_dayGoesBy : ByteArray := prog_10_method_39_code
def yX8_dayGoesBy : MethodName := ⟨RX8, "dayGoesBy", "(I)V"⟩
abbrev cX8_sunNow : ByteArray := prog_10_method_40_code
def yX8_sunNow : MethodName := ⟨RX8, "sunNow", "()I"⟩
abbrev cX8_daysGo : ByteArray := prog_10_method_41_code
def yX8_daysGo : MethodName := ⟨RX8, "daysGo", "(I)V"⟩
abbrev cX8_isDone : ByteArray := prog_10_method_42_code
def yX8_isDone : MethodName := ⟨RX8, "isDone", "()Z"⟩
abbrev cX8_rule : ByteArray := prog_10_method_43_code
def yX8_rule : MethodName := ⟨RX8, "rule", "(I)I"⟩
abbrev cX8_told : ByteArray := prog_10_method_44_code
def yX8_told : MethodName := ⟨RX8, "told", "(I)I"⟩
abbrev cX8_one : ByteArray := prog_10_method_45_code
def yX8_one : MethodName := ⟨RX8, "one", "(II)I"⟩
abbrev cX8_sun : ByteArray := prog_10_method_46_code
def yX8_sun : MethodName := ⟨RX8, "sun", "(I)I"⟩
abbrev cX8_becomes : ByteArray := prog_10_method_47_code
def yX8_becomes : MethodName := ⟨RX8, "becomes", "(II)I"⟩
abbrev cX8_alter : ByteArray := prog_10_method_48_code
def yX8_alter : MethodName := ⟨RX8, "alter", "(III)I"⟩
abbrev cX8_set : ByteArray := prog_10_method_49_code
def yX8_set : MethodName := ⟨RX8, "set", "(II)I"⟩
abbrev cX8_shine : ByteArray := prog_10_method_50_code
def yX8_shine : MethodName := ⟨RX8, "shine", "(II)I"⟩
abbrev cX8_bring : ByteArray := prog_10_method_51_code
def yX8_bring : MethodName := ⟨RX8, "bring", "(II)I"⟩
abbrev cX8_fetch : ByteArray := prog_10_method_52_code
def yX8_fetch : MethodName := ⟨RX8, "fetch", "(I)I"⟩
abbrev cX8_days : ByteArray := prog_10_method_53_code
def yX8_days : MethodName := ⟨RX8, "days", "(I)I"⟩
abbrev cX8_isFar : ByteArray := prog_10_method_54_code
def yX8_isFar : MethodName := ⟨RX8, "isFar", "(I)Z"⟩
abbrev cX8_runs : ByteArray := prog_10_method_55_code
def yX8_runs : MethodName := ⟨RX8, "runs", "(II)I"⟩
abbrev cX8_ahead : ByteArray := prog_10_method_56_code
def yX8_ahead : MethodName := ⟨RX8, "ahead", "(III)I"⟩
abbrev cX8_home : ByteArray := prog_10_method_57_code
def yX8_home : MethodName := ⟨RX8, "home", "(I)I"⟩
abbrev cX8_daysTo : ByteArray := prog_10_method_58_code
def yX8_daysTo : MethodName := ⟨RX8, "daysTo", "()I"⟩
abbrev cX8_done : ByteArray := prog_10_method_59_code
def yX8_done : MethodName := ⟨RX8, "done", "()I"⟩
abbrev cX8_leastRule : ByteArray := prog_10_method_60_code
def yX8_leastRule : MethodName := ⟨RX8, "leastRule", "(II)I"⟩
abbrev cX8_blue : ByteArray := prog_10_method_61_code
def yX8_blue : MethodName := ⟨RX8, "blue", "(I)I"⟩
abbrev cX8_pegs : ByteArray := prog_10_method_62_code
def yX8_pegs : MethodName := ⟨RX8, "pegs", "(I)I"⟩
abbrev cX8_startsJudging : ByteArray := prog_10_method_63_code
def yX8_startsJudging : MethodName := ⟨RX8, "startsJudging", "(I)V"⟩
abbrev cX8_judges : ByteArray := prog_10_method_64_code
def yX8_judges : MethodName := ⟨RX8, "judges", "(II)V"⟩
abbrev cX8_judged : ByteArray := prog_10_method_65_code
def yX8_judged : MethodName := ⟨RX8, "judged", "(I)I"⟩
abbrev cX8_batch : ByteArray := prog_10_method_66_code
def yX8_batch : MethodName := ⟨RX8, "batch", "(I)I"⟩
abbrev cX8_swap : ByteArray := prog_10_method_67_code
def yX8_swap : MethodName := ⟨RX8, "swap", "(I)I"⟩
abbrev cX8_fair : ByteArray := prog_10_method_68_code
def yX8_fair : MethodName := ⟨RX8, "fair", "(I)I"⟩
abbrev cX8_stain : ByteArray := prog_10_method_69_code
def yX8_stain : MethodName := ⟨RX8, "stain", "(II)I"⟩
abbrev cX8_kind : ByteArray := prog_10_method_70_code
def yX8_kind : MethodName := ⟨RX8, "kind", "(II)I"⟩
abbrev cX8_common : ByteArray := prog_10_method_71_code
def yX8_common : MethodName := ⟨RX8, "common", "(JJ)J"⟩
abbrev cX8_lowest : ByteArray := prog_10_method_72_code
def yX8_lowest : MethodName := ⟨RX8, "lowest", "(JJI)J"⟩
abbrev cX8_findOdds : ByteArray := prog_10_method_73_code
def yX8_findOdds : MethodName := ⟨RX8, "findOdds", "(III)V"⟩
abbrev cX8_luck : ByteArray := prog_10_method_74_code
def yX8_luck : MethodName := ⟨RX8, "luck", "(IIII)J"⟩
abbrev cX8_mean : ByteArray := prog_10_method_75_code
def yX8_mean : MethodName := ⟨RX8, "mean", "(III)J"⟩
abbrev cX8_see : ByteArray := prog_10_method_76_code
def yX8_see : MethodName := ⟨RX8, "see", "(III)I"⟩
abbrev cX8_forget : ByteArray := prog_10_method_77_code
def yX8_forget : MethodName := ⟨RX8, "forget", "(I)I"⟩
abbrev cX8_isSoWith : ByteArray := prog_10_method_78_code
def yX8_isSoWith : MethodName := ⟨RX8, "isSoWith", "(II)Z"⟩
abbrev cX8_which : ByteArray := prog_10_method_79_code
def yX8_which : MethodName := ⟨RX8, "which", "(II)I"⟩
abbrev cX8_kinds : ByteArray := prog_10_method_80_code
def yX8_kinds : MethodName := ⟨RX8, "kinds", "(I)I"⟩
abbrev cX8_greys : ByteArray := prog_10_method_81_code
def yX8_greys : MethodName := ⟨RX8, "greys", "(I)I"⟩
abbrev cX8_ask : ByteArray := prog_10_method_82_code
def yX8_ask : MethodName := ⟨RX8, "ask", "(II)I"⟩
abbrev cX8_drift : ByteArray := prog_10_method_83_code
def yX8_drift : MethodName := ⟨RX8, "drift", "(III)I"⟩
abbrev cX8_copies : ByteArray := prog_10_method_84_code
def yX8_copies : MethodName := ⟨RX8, "copies", "(II)V"⟩
abbrev cX8_keep : ByteArray := prog_10_method_85_code
def yX8_keep : MethodName := ⟨RX8, "keep", "(I)I"⟩
abbrev cX8_back : ByteArray := prog_10_method_86_code
def yX8_back : MethodName := ⟨RX8, "back", "(I)I"⟩
abbrev cX8_isSheet : ByteArray := prog_10_method_87_code
def yX8_isSheet : MethodName := ⟨RX8, "isSheet", "(II)Z"⟩
abbrev cX8_sheet : ByteArray := prog_10_method_88_code
def yX8_sheet : MethodName := ⟨RX8, "sheet", "(III)I"⟩
abbrev cX8_lay : ByteArray := prog_10_method_89_code
def yX8_lay : MethodName := ⟨RX8, "lay", "(III)I"⟩
abbrev cX8_read : ByteArray := prog_10_method_90_code
def yX8_read : MethodName := ⟨RX8, "read", "(IIII)I"⟩
abbrev cX8_torn : ByteArray := prog_10_method_91_code
def yX8_torn : MethodName := ⟨RX8, "torn", "()I"⟩
abbrev cX8_count : ByteArray := prog_10_method_92_code
def yX8_count : MethodName := ⟨RX8, "count", "(I)I"⟩
def RJx145de : String := "java/io/Serializable"
def TJx145de : u_T := fun k => match k with
  | _ => ("", "", "", false)
def tyJx145de : Nat → FieldType := fun k => match k with
  | _ => .int
abbrev wsJx145de0 : List Cond := u_ws RJx145de TJx145de 0
theorem nmJx145de : ∀ a, a < 0 → ∀ b, b < 0 → a ≠ b → (TJx145de a).2.1 ≠ (TJx145de b).2.1 := by decide +kernel
theorem tyJx145de_ok : ∀ k, k < 0 → parseFieldDescriptor (TJx145de k).2.2.1 = some (tyJx145de k) := by decide +kernel
def RJx9f9b0 : String := "java/lang/CharSequence"
def TJx9f9b0 : u_T := fun k => match k with
  | _ => ("", "", "", false)
def tyJx9f9b0 : Nat → FieldType := fun k => match k with
  | _ => .int
abbrev wsJx9f9b00 : List Cond := u_ws RJx9f9b0 TJx9f9b0 0
theorem nmJx9f9b0 : ∀ a, a < 0 → ∀ b, b < 0 → a ≠ b → (TJx9f9b0 a).2.1 ≠ (TJx9f9b0 b).2.1 := by decide +kernel
theorem tyJx9f9b0_ok : ∀ k, k < 0 → parseFieldDescriptor (TJx9f9b0 k).2.2.1 = some (tyJx9f9b0 k) := by decide +kernel
def RJxb160c : String := "java/lang/Comparable"
def TJxb160c : u_T := fun k => match k with
  | _ => ("", "", "", false)
def tyJxb160c : Nat → FieldType := fun k => match k with
  | _ => .int
abbrev wsJxb160c0 : List Cond := u_ws RJxb160c TJxb160c 0
theorem nmJxb160c : ∀ a, a < 0 → ∀ b, b < 0 → a ≠ b → (TJxb160c a).2.1 ≠ (TJxb160c b).2.1 := by decide +kernel
theorem tyJxb160c_ok : ∀ k, k < 0 → parseFieldDescriptor (TJxb160c k).2.2.1 = some (tyJxb160c k) := by decide +kernel
def RJ6 : String := "java/lang/Integer"
def TJ6 : u_T := fun k => match k with
  | _ => ("", "", "", false)
def tyJ6 : Nat → FieldType := fun k => match k with
  | _ => .int
abbrev wsJ60 : List Cond := u_ws RJ6 TJ6 0
theorem nmJ6 : ∀ a, a < 0 → ∀ b, b < 0 → a ≠ b → (TJ6 a).2.1 ≠ (TJ6 b).2.1 := by decide +kernel
theorem tyJ6_ok : ∀ k, k < 0 → parseFieldDescriptor (TJ6 k).2.2.1 = some (tyJ6 k) := by decide +kernel
abbrev cJ6_bitCount_0f7a4 : ByteArray := prog_11_method_49_code
def yJ6_bitCount_0f7a4 : MethodName := ⟨RJ6, "bitCount", "(I)I"⟩
def RJ9 : String := "java/lang/Math"
def TJ9 : u_T := fun k => match k with
  | _ => ("", "", "", false)
def tyJ9 : Nat → FieldType := fun k => match k with
  | _ => .int
abbrev wsJ90 : List Cond := u_ws RJ9 TJ9 0
theorem nmJ9 : ∀ a, a < 0 → ∀ b, b < 0 → a ≠ b → (TJ9 a).2.1 ≠ (TJ9 b).2.1 := by decide +kernel
theorem tyJ9_ok : ∀ k, k < 0 → parseFieldDescriptor (TJ9 k).2.2.1 = some (tyJ9 k) := by decide +kernel
abbrev cJ9_max_7cf53 : ByteArray := prog_12_method_65_code
def yJ9_max_7cf53 : MethodName := ⟨RJ9, "max", "(II)I"⟩
abbrev cJ9_min_7cf53 : ByteArray := prog_12_method_69_code
def yJ9_min_7cf53 : MethodName := ⟨RJ9, "min", "(II)I"⟩
def RJ0 : String := "java/lang/String"
def TJ0 : u_T := fun k => match k with
  | _ => ("", "", "", false)
def tyJ0 : Nat → FieldType := fun k => match k with
  | _ => .int
abbrev wsJ00 : List Cond := u_ws RJ0 TJ0 0
theorem nmJ0 : ∀ a, a < 0 → ∀ b, b < 0 → a ≠ b → (TJ0 a).2.1 ≠ (TJ0 b).2.1 := by decide +kernel
theorem tyJ0_ok : ∀ k, k < 0 → parseFieldDescriptor (TJ0 k).2.2.1 = some (tyJ0 k) := by decide +kernel
abbrev cJ0_length_8abf5 : ByteArray := prog_13_method_54_code
def yJ0_length_8abf5 : MethodName := ⟨RJ0, "length", "()I"⟩
abbrev cJ0_charAt_5068e : ByteArray := prog_13_method_56_code
def yJ0_charAt_5068e : MethodName := ⟨RJ0, "charAt", "(I)C"⟩
abbrev cJ0_coder_7d493 : ByteArray := prog_13_method_152_code
def yJ0_coder_7d493 : MethodName := ⟨RJ0, "coder", "()B"⟩
abbrev cJ0_isLatin1_aae02 : ByteArray := prog_13_method_154_code
def yJ0_isLatin1_aae02 : MethodName := ⟨RJ0, "isLatin1", "()Z"⟩
abbrev cJ0_checkIndex_df160 : ByteArray := prog_13_method_155_code
def yJ0_checkIndex_df160 : MethodName := ⟨RJ0, "checkIndex", "(II)V"⟩
def RJ1 : String := "java/lang/StringLatin1"
def TJ1 : u_T := fun k => match k with
  | _ => ("", "", "", false)
def tyJ1 : Nat → FieldType := fun k => match k with
  | _ => .int
abbrev wsJ10 : List Cond := u_ws RJ1 TJ1 0
theorem nmJ1 : ∀ a, a < 0 → ∀ b, b < 0 → a ≠ b → (TJ1 a).2.1 ≠ (TJ1 b).2.1 := by decide +kernel
theorem tyJ1_ok : ∀ k, k < 0 → parseFieldDescriptor (TJ1 k).2.2.1 = some (tyJ1 k) := by decide +kernel
abbrev cJ1_charAt_3b067 : ByteArray := prog_14_method_2_code
def yJ1_charAt_3b067 : MethodName := ⟨RJ1, "charAt", "([BI)C"⟩
def RJ2 : String := "java/lang/StringUTF16"
def TJ2 : u_T := fun k => match k with
  | _ => ("", "", "", false)
def tyJ2 : Nat → FieldType := fun k => match k with
  | _ => .int
abbrev wsJ20 : List Cond := u_ws RJ2 TJ2 0
theorem nmJ2 : ∀ a, a < 0 → ∀ b, b < 0 → a ≠ b → (TJ2 a).2.1 ≠ (TJ2 b).2.1 := by decide +kernel
theorem tyJ2_ok : ∀ k, k < 0 → parseFieldDescriptor (TJ2 k).2.2.1 = some (tyJ2 k) := by decide +kernel
abbrev cJ2_getChar_3b067 : ByteArray := prog_15_method_5_code
def yJ2_getChar_3b067 : MethodName := ⟨RJ2, "getChar", "([BI)C"⟩
abbrev cJ2_length_9d52b : ByteArray := prog_15_method_6_code
def yJ2_length_9d52b : MethodName := ⟨RJ2, "length", "([B)I"⟩
abbrev cJ2_charAt_3b067 : ByteArray := prog_15_method_83_code
def yJ2_charAt_3b067 : MethodName := ⟨RJ2, "charAt", "([BI)C"⟩
abbrev cJ2_checkIndex_2214a : ByteArray := prog_15_method_91_code
def yJ2_checkIndex_2214a : MethodName := ⟨RJ2, "checkIndex", "(I[B)V"⟩
def RJ10 : String := "java/lang/System"
def TJ10 : u_T := fun k => match k with
  | _ => ("", "", "", false)
def tyJ10 : Nat → FieldType := fun k => match k with
  | _ => .int
abbrev wsJ100 : List Cond := u_ws RJ10 TJ10 0
theorem nmJ10 : ∀ a, a < 0 → ∀ b, b < 0 → a ≠ b → (TJ10 a).2.1 ≠ (TJ10 b).2.1 := by decide +kernel
theorem tyJ10_ok : ∀ k, k < 0 → parseFieldDescriptor (TJ10 k).2.2.1 = some (tyJ10 k) := by decide +kernel
def RJxfd54e : String := "java/lang/constant/Constable"
def TJxfd54e : u_T := fun k => match k with
  | _ => ("", "", "", false)
def tyJxfd54e : Nat → FieldType := fun k => match k with
  | _ => .int
abbrev wsJxfd54e0 : List Cond := u_ws RJxfd54e TJxfd54e 0
theorem nmJxfd54e : ∀ a, a < 0 → ∀ b, b < 0 → a ≠ b → (TJxfd54e a).2.1 ≠ (TJxfd54e b).2.1 := by decide +kernel
theorem tyJxfd54e_ok : ∀ k, k < 0 → parseFieldDescriptor (TJxfd54e k).2.2.1 = some (tyJxfd54e k) := by decide +kernel
def RJx3cf43 : String := "java/lang/constant/ConstantDesc"
def TJx3cf43 : u_T := fun k => match k with
  | _ => ("", "", "", false)
def tyJx3cf43 : Nat → FieldType := fun k => match k with
  | _ => .int
abbrev wsJx3cf430 : List Cond := u_ws RJx3cf43 TJx3cf43 0
theorem nmJx3cf43 : ∀ a, a < 0 → ∀ b, b < 0 → a ≠ b → (TJx3cf43 a).2.1 ≠ (TJx3cf43 b).2.1 := by decide +kernel
theorem tyJx3cf43_ok : ∀ k, k < 0 → parseFieldDescriptor (TJx3cf43 k).2.2.1 = some (tyJx3cf43 k) := by decide +kernel
def RJ7 : String := "java/util/Arrays"
def TJ7 : u_T := fun k => match k with
  | _ => ("", "", "", false)
def tyJ7 : Nat → FieldType := fun k => match k with
  | _ => .int
abbrev wsJ70 : List Cond := u_ws RJ7 TJ7 0
theorem nmJ7 : ∀ a, a < 0 → ∀ b, b < 0 → a ≠ b → (TJ7 a).2.1 ≠ (TJ7 b).2.1 := by decide +kernel
theorem tyJ7_ok : ∀ k, k < 0 → parseFieldDescriptor (TJ7 k).2.2.1 = some (tyJ7 k) := by decide +kernel
abbrev cJ7_fill_53178 : ByteArray := prog_17_method_103_code
def yJ7_fill_53178 : MethodName := ⟨RJ7, "fill", "([II)V"⟩
def RJ3 : String := "jdk/internal/util/Preconditions"
def TJ3 : u_T := fun k => match k with
  | _ => ("", "", "", false)
def tyJ3 : Nat → FieldType := fun k => match k with
  | _ => .int
abbrev wsJ30 : List Cond := u_ws RJ3 TJ3 0
theorem nmJ3 : ∀ a, a < 0 → ∀ b, b < 0 → a ≠ b → (TJ3 a).2.1 ≠ (TJ3 b).2.1 := by decide +kernel
theorem tyJ3_ok : ∀ k, k < 0 → parseFieldDescriptor (TJ3 k).2.2.1 = some (tyJ3 k) := by decide +kernel
abbrev cJ3_checkIndex_8e157 : ByteArray := prog_18_method_11_code
def yJ3_checkIndex_8e157 : MethodName := ⟨RJ3, "checkIndex", "(IILjava/util/function/BiFunction;)I"⟩
def RL : String := "MangleLineLaw"
abbrev cL_law : ByteArray := code
def yL_law : MethodName := ⟨RL, "law", "([I)Z"⟩
abbrev vwCl : List vw_C := [(RX0, TX0, 2), (RX1, TX1, 3), (RX2, TX2, 9), (RX3, TX3, 4), (RX4, TX4, 3), (RX5, TX5, 4), (RX6, TX6, 6), (RX7, TX7, 11), (RX8, TX8, 28)]
end
section
/-! the tables' words that a method may take along, all of them; each by its place -/
def mm_ws : List Cond := lw_tbl.filter goodWord
theorem mm_ws_good {w : Cond} (h : w ∈ mm_ws) : (w.onTables && w.keeps) = true ∨ ∃ ty, w = .arrayClass ty := good_of_word (List.mem_filter.mp h).2
theorem mm_ws_tbl {w : Cond} (h : w ∈ mm_ws) : w ∈ lw_tbl := (List.mem_filter.mp h).1
theorem mm_i0 {w : Cond} {i : Nat} (h : (k2_sels lw_privs)[i]? = some w) (hg : goodWord w = true) : w ∈ mm_ws := List.mem_filter.mpr ⟨List.mem_append_left _ (List.mem_of_getElem? h), hg⟩
theorem mm_i1 {w : Cond} {i : Nat} (h : tables_1_1[i]? = some w) (hg : goodWord w = true) : w ∈ mm_ws := List.mem_filter.mpr ⟨List.mem_append_right _ (List.mem_append_left _ (List.mem_of_getElem? h)), hg⟩
theorem mm_i2 {w : Cond} {i : Nat} (h : tables_1_2[i]? = some w) (hg : goodWord w = true) : w ∈ mm_ws := List.mem_filter.mpr ⟨List.mem_append_right _ (List.mem_append_right _ (List.mem_append_left _ (List.mem_of_getElem? h))), hg⟩
theorem mm_i3 {w : Cond} {i : Nat} (h : tables_1_3[i]? = some w) (hg : goodWord w = true) : w ∈ mm_ws := List.mem_filter.mpr ⟨List.mem_append_right _ (List.mem_append_right _ (List.mem_append_right _ (List.mem_append_left _ (List.mem_of_getElem? h)))), hg⟩
theorem mm_i4 {w : Cond} {i : Nat} (h : tables_1_4[i]? = some w) (hg : goodWord w = true) : w ∈ mm_ws := List.mem_filter.mpr ⟨List.mem_append_right _ (List.mem_append_right _ (List.mem_append_right _ (List.mem_append_right _ (List.mem_append_left _ (List.mem_of_getElem? h))))), hg⟩
theorem mm_i5 {w : Cond} {i : Nat} (h : tables_1_5[i]? = some w) (hg : goodWord w = true) : w ∈ mm_ws := List.mem_filter.mpr ⟨List.mem_append_right _ (List.mem_append_right _ (List.mem_append_right _ (List.mem_append_right _ (List.mem_append_right _ (List.mem_append_left _ (List.mem_of_getElem? h)))))), hg⟩
theorem mm_i6 {w : Cond} {i : Nat} (h : tables_1_6[i]? = some w) (hg : goodWord w = true) : w ∈ mm_ws := List.mem_filter.mpr ⟨List.mem_append_right _ (List.mem_append_right _ (List.mem_append_right _ (List.mem_append_right _ (List.mem_append_right _ (List.mem_append_right _ (List.mem_of_getElem? h)))))), hg⟩
theorem mw_1_0 : (Jvm.Cond.initialized "MangleLineLaw") ∈ mm_ws := mm_i1 (i := 0) rfl rfl
theorem mw_1_1 : (Jvm.Cond.initialized "MangleLine") ∈ mm_ws := mm_i1 (i := 1) rfl rfl
theorem mw_1_2 : (Jvm.Cond.initialized "MangleLine$Laundry") ∈ mm_ws := mm_i1 (i := 2) rfl rfl
theorem mw_1_3 : (Jvm.Cond.initialized "java/lang/System") ∈ mm_ws := mm_i1 (i := 3) rfl rfl
theorem mw_1_4 : (Jvm.Cond.initialized "java/util/Arrays") ∈ mm_ws := mm_i1 (i := 4) rfl rfl
theorem mw_1_5 : (Jvm.Cond.initialized "MangleLine$Tape") ∈ mm_ws := mm_i1 (i := 5) rfl rfl
theorem mw_1_6 : (Jvm.Cond.initialized "MangleLine$Script") ∈ mm_ws := mm_i1 (i := 6) rfl rfl
theorem mw_1_7 : (Jvm.Cond.initialized "MangleLine$Sightings") ∈ mm_ws := mm_i1 (i := 7) rfl rfl
theorem mw_1_8 : (Jvm.Cond.initialized "MangleLine$Choice") ∈ mm_ws := mm_i1 (i := 8) rfl rfl
theorem mw_1_9 : (Jvm.Cond.initialized "MangleLine$Image") ∈ mm_ws := mm_i1 (i := 9) rfl rfl
theorem mw_1_10 : (Jvm.Cond.initialized "MangleLine$Sheet") ∈ mm_ws := mm_i1 (i := 10) rfl rfl
theorem mw_1_11 : (Jvm.Cond.initialized "MangleLineModel") ∈ mm_ws := mm_i1 (i := 11) rfl rfl
theorem mw_1_12 : (Jvm.Cond.initialized "java/lang/String") ∈ mm_ws := mm_i1 (i := 12) rfl rfl
theorem mw_1_13 : (Jvm.Cond.initialized "java/lang/StringLatin1") ∈ mm_ws := mm_i1 (i := 13) rfl rfl
theorem mw_1_14 : (Jvm.Cond.initialized "jdk/internal/util/Preconditions") ∈ mm_ws := mm_i1 (i := 14) rfl rfl
theorem mw_1_15 : (Jvm.Cond.initialized "java/lang/StringUTF16") ∈ mm_ws := mm_i1 (i := 15) rfl rfl
theorem mw_1_16 : (Jvm.Cond.initialized "java/lang/Integer") ∈ mm_ws := mm_i1 (i := 16) rfl rfl
theorem mw_1_17 : (Jvm.Cond.initialized "java/lang/Math") ∈ mm_ws := mm_i1 (i := 17) rfl rfl
theorem mw_1_18 : (Jvm.Cond.classLink "MangleLineLaw" (7 : Nat) "MangleLine") ∈ mm_ws := mm_i1 (i := 18) rfl rfl
theorem mw_1_19 : (Jvm.Cond.instantiable "MangleLine" (11 : Nat)) ∈ mm_ws := mm_i1 (i := 19) rfl rfl
theorem mw_1_20 : (Jvm.Cond.methodLink "MangleLineLaw" (9 : Nat) ({ cls := "MangleLine", name := "<init>", desc := "()V" } : Jvm.MethodName)) ∈ mm_ws := mm_i1 (i := 20) rfl rfl
theorem mw_1_21 : (Jvm.Cond.instanceMethod ({ cls := "MangleLine", name := "<init>", desc := "()V" } : Jvm.MethodName)) ∈ mm_ws := mm_i1 (i := 21) rfl rfl
theorem mw_1_22 : (Jvm.Cond.code ({ cls := "MangleLine", name := "<init>", desc := "()V" } : Jvm.MethodName) prog_1_method_1_code (2 : Nat) (Option.none : Option Jvm.ClassFile.FieldType)) ∈ mm_ws := mm_i1 (i := 22) rfl rfl
theorem mw_1_23 : (Jvm.Cond.methodLink "MangleLine" (3 : Nat) ({ cls := "java/lang/Object", name := "<init>", desc := "()V" } : Jvm.MethodName)) ∈ mm_ws := mm_i1 (i := 23) rfl rfl
theorem mw_1_24 : (Jvm.Cond.instanceMethod ({ cls := "java/lang/Object", name := "<init>", desc := "()V" } : Jvm.MethodName)) ∈ mm_ws := mm_i1 (i := 24) rfl rfl
theorem mw_1_25 : (Jvm.Cond.code ({ cls := "java/lang/Object", name := "<init>", desc := "()V" } : Jvm.MethodName) object_method_1_code (1 : Nat) (Option.none : Option Jvm.ClassFile.FieldType)) ∈ mm_ws := mm_i1 (i := 25) rfl rfl
theorem mw_1_26 : (Jvm.Cond.classLink "MangleLine" (9 : Nat) "MangleLine$Laundry") ∈ mm_ws := mm_i1 (i := 26) rfl rfl
theorem mw_1_27 : (Jvm.Cond.instantiable "MangleLine$Laundry" (9 : Nat)) ∈ mm_ws := mm_i1 (i := 27) rfl rfl
theorem mw_1_29 : (Jvm.Cond.instanceMethod ({ cls := "MangleLine$Laundry", name := "<init>", desc := "()V" } : Jvm.MethodName)) ∈ mm_ws := mm_i1 (i := 29) rfl rfl
theorem mw_1_30 : (Jvm.Cond.code ({ cls := "MangleLine$Laundry", name := "<init>", desc := "()V" } : Jvm.MethodName) prog_4_method_1_code (1 : Nat) (Option.none : Option Jvm.ClassFile.FieldType)) ∈ mm_ws := mm_i1 (i := 30) rfl rfl
theorem mw_1_31 : (Jvm.Cond.methodLink "MangleLine$Laundry" (3 : Nat) ({ cls := "java/lang/Object", name := "<init>", desc := "()V" } : Jvm.MethodName)) ∈ mm_ws := mm_i1 (i := 31) rfl rfl
theorem mw_1_32 : (Jvm.Cond.methodLink "MangleLine$Laundry" (30 : Nat) ({ cls := "MangleLine$Laundry", name := "clear", desc := "()V" } : Jvm.MethodName)) ∈ mm_ws := mm_i1 (i := 32) rfl rfl
theorem mw_1_34 : (Jvm.Cond.instanceMethod ({ cls := "MangleLine$Laundry", name := "clear", desc := "()V" } : Jvm.MethodName)) ∈ mm_ws := mm_i1 (i := 34) rfl rfl
theorem mw_1_35 : (Jvm.Cond.code ({ cls := "MangleLine$Laundry", name := "clear", desc := "()V" } : Jvm.MethodName) prog_4_method_2_code (1 : Nat) (Option.none : Option Jvm.ClassFile.FieldType)) ∈ mm_ws := mm_i1 (i := 35) rfl rfl
theorem mw_1_38 : (Jvm.Cond.methodLink "MangleLine$Laundry" (43 : Nat) ({ cls := "java/lang/System", name := "arraycopy", desc := "(Ljava/lang/Object;ILjava/lang/Object;II)V" } : Jvm.MethodName)) ∈ mm_ws := mm_i1 (i := 38) rfl rfl
theorem mw_1_39 : (Jvm.Cond.static ({ cls := "java/lang/System", name := "arraycopy", desc := "(Ljava/lang/Object;ILjava/lang/Object;II)V" } : Jvm.MethodName)) ∈ mm_ws := mm_i1 (i := 39) rfl rfl
theorem mw_1_40 : (Jvm.Cond.native ({ cls := "java/lang/System", name := "arraycopy", desc := "(Ljava/lang/Object;ILjava/lang/Object;II)V" } : Jvm.MethodName)) ∈ mm_ws := mm_i1 (i := 40) rfl rfl
theorem mw_1_41 : (Jvm.Cond.methodLink "MangleLine$Laundry" (49 : Nat) ({ cls := "java/util/Arrays", name := "fill", desc := "([II)V" } : Jvm.MethodName)) ∈ mm_ws := mm_i1 (i := 41) rfl rfl
theorem mw_1_42 : (Jvm.Cond.static ({ cls := "java/util/Arrays", name := "fill", desc := "([II)V" } : Jvm.MethodName)) ∈ mm_ws := mm_i1 (i := 42) rfl rfl
theorem mw_1_43 : (Jvm.Cond.code ({ cls := "java/util/Arrays", name := "fill", desc := "([II)V" } : Jvm.MethodName) prog_17_method_103_code (4 : Nat) (Option.none : Option Jvm.ClassFile.FieldType)) ∈ mm_ws := mm_i1 (i := 43) rfl rfl
theorem mw_1_44 : (Jvm.Cond.fieldLink "MangleLine$Laundry" (33 : Nat) "MangleLine$Laundry" "size" "I") ∈ mm_ws := mm_i1 (i := 44) rfl rfl
theorem mw_1_47 : (Jvm.Cond.fieldLink "MangleLine$Laundry" (37 : Nat) "MangleLine$Laundry" "day" "I") ∈ mm_ws := mm_i1 (i := 47) rfl rfl
theorem mw_1_49 : (Jvm.Cond.fieldLink "MangleLine$Laundry" (95 : Nat) "MangleLine$Laundry" "boiled" "I") ∈ mm_ws := mm_i1 (i := 49) rfl rfl
theorem mw_1_51 : (Jvm.Cond.fieldLink "MangleLine$Laundry" (9 : Nat) "MangleLine$Laundry" "kinds" "[I") ∈ mm_ws := mm_i1 (i := 51) rfl rfl
theorem mw_1_53 : (Jvm.Cond.fieldLink "MangleLine$Laundry" (15 : Nat) "MangleLine$Laundry" "greys" "[I") ∈ mm_ws := mm_i1 (i := 53) rfl rfl
theorem mw_1_55 : (Jvm.Cond.fieldLink "MangleLine$Laundry" (18 : Nat) "MangleLine$Laundry" "wets" "[I") ∈ mm_ws := mm_i1 (i := 55) rfl rfl
theorem mw_1_57 : (Jvm.Cond.fieldLink "MangleLine$Laundry" (21 : Nat) "MangleLine$Laundry" "places" "[I") ∈ mm_ws := mm_i1 (i := 57) rfl rfl
theorem mw_1_60 : (Jvm.Cond.fieldLink "MangleLine$Laundry" (24 : Nat) "MangleLine$Laundry" "rules" "[I") ∈ mm_ws := mm_i1 (i := 60) rfl rfl
theorem mw_1_63 : (Jvm.Cond.fieldLink "MangleLine$Laundry" (27 : Nat) "MangleLine$Laundry" "suns" "[I") ∈ mm_ws := mm_i1 (i := 63) rfl rfl
theorem mw_1_66 : (Jvm.Cond.lays "MangleLine$Laundry" "MangleLine$Laundry" "size" "I") ∈ mm_ws := mm_i1 (i := 66) rfl rfl
theorem mw_1_68 : (Jvm.Cond.lays "MangleLine$Laundry" "MangleLine$Laundry" "day" "I") ∈ mm_ws := mm_i1 (i := 68) rfl rfl
theorem mw_1_70 : (Jvm.Cond.lays "MangleLine$Laundry" "MangleLine$Laundry" "boiled" "I") ∈ mm_ws := mm_i1 (i := 70) rfl rfl
theorem mw_1_72 : (Jvm.Cond.laysFinal "MangleLine$Laundry" "MangleLine$Laundry" "kinds" "[I") ∈ mm_ws := mm_i1 (i := 72) rfl rfl
theorem mw_1_74 : (Jvm.Cond.laysFinal "MangleLine$Laundry" "MangleLine$Laundry" "greys" "[I") ∈ mm_ws := mm_i1 (i := 74) rfl rfl
theorem mw_1_76 : (Jvm.Cond.laysFinal "MangleLine$Laundry" "MangleLine$Laundry" "wets" "[I") ∈ mm_ws := mm_i1 (i := 76) rfl rfl
theorem mw_1_78 : (Jvm.Cond.laysFinal "MangleLine$Laundry" "MangleLine$Laundry" "places" "[I") ∈ mm_ws := mm_i1 (i := 78) rfl rfl
theorem mw_1_80 : (Jvm.Cond.laysFinal "MangleLine$Laundry" "MangleLine$Laundry" "rules" "[I") ∈ mm_ws := mm_i1 (i := 80) rfl rfl
theorem mw_1_82 : (Jvm.Cond.laysFinal "MangleLine$Laundry" "MangleLine$Laundry" "suns" "[I") ∈ mm_ws := mm_i1 (i := 82) rfl rfl
theorem mw_1_85 : (Jvm.Cond.arrayClass Jvm.ClassFile.FieldType.int) ∈ mm_ws := mm_i1 (i := 85) rfl rfl
theorem mw_1_87 : (Jvm.Cond.classLink "MangleLine" (23 : Nat) "MangleLine$Tape") ∈ mm_ws := mm_i1 (i := 87) rfl rfl
theorem mw_1_88 : (Jvm.Cond.instantiable "MangleLine$Tape" (6 : Nat)) ∈ mm_ws := mm_i1 (i := 88) rfl rfl
theorem mw_1_90 : (Jvm.Cond.instanceMethod ({ cls := "MangleLine$Tape", name := "<init>", desc := "()V" } : Jvm.MethodName)) ∈ mm_ws := mm_i1 (i := 90) rfl rfl
theorem mw_1_91 : (Jvm.Cond.code ({ cls := "MangleLine$Tape", name := "<init>", desc := "()V" } : Jvm.MethodName) prog_8_method_1_code (1 : Nat) (Option.none : Option Jvm.ClassFile.FieldType)) ∈ mm_ws := mm_i1 (i := 91) rfl rfl
theorem mw_1_92 : (Jvm.Cond.methodLink "MangleLine$Tape" (3 : Nat) ({ cls := "java/lang/Object", name := "<init>", desc := "()V" } : Jvm.MethodName)) ∈ mm_ws := mm_i1 (i := 92) rfl rfl
theorem mw_1_93 : (Jvm.Cond.fieldLink "MangleLine$Tape" (11 : Nat) "MangleLine$Tape" "bytes" "[I") ∈ mm_ws := mm_i1 (i := 93) rfl rfl
theorem mw_1_94 : (Jvm.Cond.fieldLink "MangleLine$Tape" (15 : Nat) "MangleLine$Tape" "length" "I") ∈ mm_ws := mm_i1 (i := 94) rfl rfl
theorem mw_1_96 : (Jvm.Cond.fieldLink "MangleLine$Tape" (19 : Nat) "MangleLine$Tape" "at" "I") ∈ mm_ws := mm_i1 (i := 96) rfl rfl
theorem mw_1_98 : (Jvm.Cond.fieldLink "MangleLine$Tape" (29 : Nat) "MangleLine$Tape" "token" "I") ∈ mm_ws := mm_i1 (i := 98) rfl rfl
theorem mw_1_100 : (Jvm.Cond.fieldLink "MangleLine$Tape" (22 : Nat) "MangleLine$Tape" "start" "I") ∈ mm_ws := mm_i1 (i := 100) rfl rfl
theorem mw_1_101 : (Jvm.Cond.fieldLink "MangleLine$Tape" (35 : Nat) "MangleLine$Tape" "number" "I") ∈ mm_ws := mm_i1 (i := 101) rfl rfl
theorem mw_1_103 : (Jvm.Cond.laysFinal "MangleLine$Tape" "MangleLine$Tape" "bytes" "[I") ∈ mm_ws := mm_i1 (i := 103) rfl rfl
theorem mw_1_105 : (Jvm.Cond.lays "MangleLine$Tape" "MangleLine$Tape" "length" "I") ∈ mm_ws := mm_i1 (i := 105) rfl rfl
theorem mw_1_107 : (Jvm.Cond.lays "MangleLine$Tape" "MangleLine$Tape" "at" "I") ∈ mm_ws := mm_i1 (i := 107) rfl rfl
theorem mw_1_109 : (Jvm.Cond.lays "MangleLine$Tape" "MangleLine$Tape" "token" "I") ∈ mm_ws := mm_i1 (i := 109) rfl rfl
theorem mw_1_111 : (Jvm.Cond.lays "MangleLine$Tape" "MangleLine$Tape" "start" "I") ∈ mm_ws := mm_i1 (i := 111) rfl rfl
theorem mw_1_113 : (Jvm.Cond.lays "MangleLine$Tape" "MangleLine$Tape" "number" "I") ∈ mm_ws := mm_i1 (i := 113) rfl rfl
theorem mw_1_116 : (Jvm.Cond.classLink "MangleLine" (30 : Nat) "MangleLine$Script") ∈ mm_ws := mm_i1 (i := 116) rfl rfl
theorem mw_1_117 : (Jvm.Cond.instantiable "MangleLine$Script" (4 : Nat)) ∈ mm_ws := mm_i1 (i := 117) rfl rfl
theorem mw_1_119 : (Jvm.Cond.instanceMethod ({ cls := "MangleLine$Script", name := "<init>", desc := "(LMangleLine$Tape;)V" } : Jvm.MethodName)) ∈ mm_ws := mm_i1 (i := 119) rfl rfl
theorem mw_1_120 : (Jvm.Cond.code ({ cls := "MangleLine$Script", name := "<init>", desc := "(LMangleLine$Tape;)V" } : Jvm.MethodName) prog_5_method_1_code (2 : Nat) (Option.none : Option Jvm.ClassFile.FieldType)) ∈ mm_ws := mm_i1 (i := 120) rfl rfl
theorem mw_1_121 : (Jvm.Cond.methodLink "MangleLine$Script" (3 : Nat) ({ cls := "java/lang/Object", name := "<init>", desc := "()V" } : Jvm.MethodName)) ∈ mm_ws := mm_i1 (i := 121) rfl rfl
theorem mw_1_122 : (Jvm.Cond.fieldLink "MangleLine$Script" (9 : Nat) "MangleLine$Script" "tape" "LMangleLine$Tape;") ∈ mm_ws := mm_i1 (i := 122) rfl rfl
theorem mw_1_123 : (Jvm.Cond.fieldLink "MangleLine$Script" (15 : Nat) "MangleLine$Script" "fault" "I") ∈ mm_ws := mm_i1 (i := 123) rfl rfl
theorem mw_1_125 : (Jvm.Cond.fieldLink "MangleLine$Script" (43 : Nat) "MangleLine$Script" "faultPlace" "I") ∈ mm_ws := mm_i1 (i := 125) rfl rfl
theorem mw_1_126 : (Jvm.Cond.fieldLink "MangleLine$Script" (19 : Nat) "MangleLine$Script" "stood" "I") ∈ mm_ws := mm_i1 (i := 126) rfl rfl
theorem mw_1_127 : (Jvm.Cond.laysFinal "MangleLine$Script" "MangleLine$Script" "tape" "LMangleLine$Tape;") ∈ mm_ws := mm_i1 (i := 127) rfl rfl
theorem mw_1_129 : (Jvm.Cond.lays "MangleLine$Script" "MangleLine$Script" "fault" "I") ∈ mm_ws := mm_i1 (i := 129) rfl rfl
theorem mw_1_131 : (Jvm.Cond.lays "MangleLine$Script" "MangleLine$Script" "faultPlace" "I") ∈ mm_ws := mm_i1 (i := 131) rfl rfl
theorem mw_1_133 : (Jvm.Cond.lays "MangleLine$Script" "MangleLine$Script" "stood" "I") ∈ mm_ws := mm_i1 (i := 133) rfl rfl
theorem mw_1_136 : (Jvm.Cond.classLink "MangleLine" (39 : Nat) "MangleLine$Sightings") ∈ mm_ws := mm_i1 (i := 136) rfl rfl
theorem mw_1_137 : (Jvm.Cond.instantiable "MangleLine$Sightings" (4 : Nat)) ∈ mm_ws := mm_i1 (i := 137) rfl rfl
theorem mw_1_139 : (Jvm.Cond.instanceMethod ({ cls := "MangleLine$Sightings", name := "<init>", desc := "()V" } : Jvm.MethodName)) ∈ mm_ws := mm_i1 (i := 139) rfl rfl
theorem mw_1_140 : (Jvm.Cond.code ({ cls := "MangleLine$Sightings", name := "<init>", desc := "()V" } : Jvm.MethodName) prog_7_method_1_code (1 : Nat) (Option.none : Option Jvm.ClassFile.FieldType)) ∈ mm_ws := mm_i1 (i := 140) rfl rfl
theorem mw_1_141 : (Jvm.Cond.methodLink "MangleLine$Sightings" (3 : Nat) ({ cls := "java/lang/Object", name := "<init>", desc := "()V" } : Jvm.MethodName)) ∈ mm_ws := mm_i1 (i := 141) rfl rfl
theorem mw_1_142 : (Jvm.Cond.fieldLink "MangleLine$Sightings" (21 : Nat) "MangleLine$Sightings" "size" "I") ∈ mm_ws := mm_i1 (i := 142) rfl rfl
theorem mw_1_144 : (Jvm.Cond.fieldLink "MangleLine$Sightings" (9 : Nat) "MangleLine$Sightings" "looks" "[I") ∈ mm_ws := mm_i1 (i := 144) rfl rfl
theorem mw_1_145 : (Jvm.Cond.fieldLink "MangleLine$Sightings" (15 : Nat) "MangleLine$Sightings" "whos" "[I") ∈ mm_ws := mm_i1 (i := 145) rfl rfl
theorem mw_1_146 : (Jvm.Cond.fieldLink "MangleLine$Sightings" (18 : Nat) "MangleLine$Sightings" "places" "[I") ∈ mm_ws := mm_i1 (i := 146) rfl rfl
theorem mw_1_147 : (Jvm.Cond.lays "MangleLine$Sightings" "MangleLine$Sightings" "size" "I") ∈ mm_ws := mm_i1 (i := 147) rfl rfl
theorem mw_1_149 : (Jvm.Cond.laysFinal "MangleLine$Sightings" "MangleLine$Sightings" "looks" "[I") ∈ mm_ws := mm_i1 (i := 149) rfl rfl
theorem mw_1_151 : (Jvm.Cond.laysFinal "MangleLine$Sightings" "MangleLine$Sightings" "whos" "[I") ∈ mm_ws := mm_i1 (i := 151) rfl rfl
theorem mw_1_153 : (Jvm.Cond.laysFinal "MangleLine$Sightings" "MangleLine$Sightings" "places" "[I") ∈ mm_ws := mm_i1 (i := 153) rfl rfl
theorem mw_1_156 : (Jvm.Cond.classLink "MangleLine" (46 : Nat) "MangleLine$Choice") ∈ mm_ws := mm_i1 (i := 156) rfl rfl
theorem mw_1_157 : (Jvm.Cond.instantiable "MangleLine$Choice" (2 : Nat)) ∈ mm_ws := mm_i1 (i := 157) rfl rfl
theorem mw_1_159 : (Jvm.Cond.instanceMethod ({ cls := "MangleLine$Choice", name := "<init>", desc := "()V" } : Jvm.MethodName)) ∈ mm_ws := mm_i1 (i := 159) rfl rfl
theorem mw_1_160 : (Jvm.Cond.code ({ cls := "MangleLine$Choice", name := "<init>", desc := "()V" } : Jvm.MethodName) prog_2_method_1_code (1 : Nat) (Option.none : Option Jvm.ClassFile.FieldType)) ∈ mm_ws := mm_i1 (i := 160) rfl rfl
theorem mw_1_161 : (Jvm.Cond.methodLink "MangleLine$Choice" (3 : Nat) ({ cls := "java/lang/Object", name := "<init>", desc := "()V" } : Jvm.MethodName)) ∈ mm_ws := mm_i1 (i := 161) rfl rfl
theorem mw_1_162 : (Jvm.Cond.fieldLink "MangleLine$Choice" (9 : Nat) "MangleLine$Choice" "pick" "I") ∈ mm_ws := mm_i1 (i := 162) rfl rfl
theorem mw_1_163 : (Jvm.Cond.fieldLink "MangleLine$Choice" (15 : Nat) "MangleLine$Choice" "cost" "I") ∈ mm_ws := mm_i1 (i := 163) rfl rfl
theorem mw_1_164 : (Jvm.Cond.lays "MangleLine$Choice" "MangleLine$Choice" "pick" "I") ∈ mm_ws := mm_i1 (i := 164) rfl rfl
theorem mw_1_166 : (Jvm.Cond.lays "MangleLine$Choice" "MangleLine$Choice" "cost" "I") ∈ mm_ws := mm_i1 (i := 166) rfl rfl
theorem mw_1_169 : (Jvm.Cond.classLink "MangleLine" (57 : Nat) "MangleLine$Image") ∈ mm_ws := mm_i1 (i := 169) rfl rfl
theorem mw_1_171 : (Jvm.Cond.classLink "MangleLine" (63 : Nat) "MangleLine$Sheet") ∈ mm_ws := mm_i1 (i := 171) rfl rfl
theorem mw_1_173 : (Jvm.Cond.instantiable "MangleLine$Image" (3 : Nat)) ∈ mm_ws := mm_i1 (i := 173) rfl rfl
theorem mw_1_175 : (Jvm.Cond.instanceMethod ({ cls := "MangleLine$Image", name := "<init>", desc := "()V" } : Jvm.MethodName)) ∈ mm_ws := mm_i1 (i := 175) rfl rfl
theorem mw_1_176 : (Jvm.Cond.code ({ cls := "MangleLine$Image", name := "<init>", desc := "()V" } : Jvm.MethodName) prog_3_method_1_code (1 : Nat) (Option.none : Option Jvm.ClassFile.FieldType)) ∈ mm_ws := mm_i1 (i := 176) rfl rfl
theorem mw_1_177 : (Jvm.Cond.methodLink "MangleLine$Image" (1 : Nat) ({ cls := "java/lang/Object", name := "<init>", desc := "()V" } : Jvm.MethodName)) ∈ mm_ws := mm_i1 (i := 177) rfl rfl
theorem mw_1_178 : (Jvm.Cond.classLink "MangleLine$Image" (7 : Nat) "MangleLine$Laundry") ∈ mm_ws := mm_i1 (i := 178) rfl rfl
theorem mw_1_180 : (Jvm.Cond.classLink "MangleLine$Image" (16 : Nat) "MangleLine$Sightings") ∈ mm_ws := mm_i1 (i := 180) rfl rfl
theorem mw_1_183 : (Jvm.Cond.fieldLink "MangleLine$Image" (10 : Nat) "MangleLine$Image" "laundry" "LMangleLine$Laundry;") ∈ mm_ws := mm_i1 (i := 183) rfl rfl
theorem mw_1_185 : (Jvm.Cond.fieldLink "MangleLine$Image" (19 : Nat) "MangleLine$Image" "seen" "LMangleLine$Sightings;") ∈ mm_ws := mm_i1 (i := 185) rfl rfl
theorem mw_1_187 : (Jvm.Cond.lays "MangleLine$Image" "MangleLine$Image" "kept" "Z") ∈ mm_ws := mm_i1 (i := 187) rfl rfl
theorem mw_1_189 : (Jvm.Cond.laysFinal "MangleLine$Image" "MangleLine$Image" "laundry" "LMangleLine$Laundry;") ∈ mm_ws := mm_i1 (i := 189) rfl rfl
theorem mw_1_191 : (Jvm.Cond.laysFinal "MangleLine$Image" "MangleLine$Image" "seen" "LMangleLine$Sightings;") ∈ mm_ws := mm_i1 (i := 191) rfl rfl
theorem mw_1_194 : (Jvm.Cond.instantiable "MangleLine$Sheet" (3 : Nat)) ∈ mm_ws := mm_i1 (i := 194) rfl rfl
theorem mw_1_196 : (Jvm.Cond.instanceMethod ({ cls := "MangleLine$Sheet", name := "<init>", desc := "()V" } : Jvm.MethodName)) ∈ mm_ws := mm_i1 (i := 196) rfl rfl
theorem mw_1_197 : (Jvm.Cond.code ({ cls := "MangleLine$Sheet", name := "<init>", desc := "()V" } : Jvm.MethodName) prog_6_method_1_code (1 : Nat) (Option.none : Option Jvm.ClassFile.FieldType)) ∈ mm_ws := mm_i1 (i := 197) rfl rfl
theorem mw_1_198 : (Jvm.Cond.methodLink "MangleLine$Sheet" (3 : Nat) ({ cls := "java/lang/Object", name := "<init>", desc := "()V" } : Jvm.MethodName)) ∈ mm_ws := mm_i1 (i := 198) rfl rfl
theorem mw_1_199 : (Jvm.Cond.fieldLink "MangleLine$Sheet" (11 : Nat) "MangleLine$Sheet" "lane" "I") ∈ mm_ws := mm_i1 (i := 199) rfl rfl
theorem mw_1_200 : (Jvm.Cond.fieldLink "MangleLine$Sheet" (19 : Nat) "MangleLine$Sheet" "length" "I") ∈ mm_ws := mm_i1 (i := 200) rfl rfl
theorem mw_1_202 : (Jvm.Cond.fieldLink "MangleLine$Sheet" (15 : Nat) "MangleLine$Sheet" "cells" "[I") ∈ mm_ws := mm_i1 (i := 202) rfl rfl
theorem mw_1_204 : (Jvm.Cond.lays "MangleLine$Sheet" "MangleLine$Sheet" "lane" "I") ∈ mm_ws := mm_i1 (i := 204) rfl rfl
theorem mw_1_206 : (Jvm.Cond.lays "MangleLine$Sheet" "MangleLine$Sheet" "length" "I") ∈ mm_ws := mm_i1 (i := 206) rfl rfl
theorem mw_1_208 : (Jvm.Cond.laysFinal "MangleLine$Sheet" "MangleLine$Sheet" "cells" "[I") ∈ mm_ws := mm_i1 (i := 208) rfl rfl
theorem mw_1_211 : (Jvm.Cond.fieldLink "MangleLine" (12 : Nat) "MangleLine" "now" "LMangleLine$Laundry;") ∈ mm_ws := mm_i1 (i := 211) rfl rfl
theorem mw_1_212 : (Jvm.Cond.fieldLink "MangleLine" (16 : Nat) "MangleLine" "trial" "LMangleLine$Laundry;") ∈ mm_ws := mm_i1 (i := 212) rfl rfl
theorem mw_1_213 : (Jvm.Cond.fieldLink "MangleLine" (19 : Nat) "MangleLine" "weathers" "[LMangleLine$Laundry;") ∈ mm_ws := mm_i1 (i := 213) rfl rfl
theorem mw_1_214 : (Jvm.Cond.fieldLink "MangleLine" (26 : Nat) "MangleLine" "tape" "LMangleLine$Tape;") ∈ mm_ws := mm_i1 (i := 214) rfl rfl
theorem mw_1_215 : (Jvm.Cond.fieldLink "MangleLine" (35 : Nat) "MangleLine" "script" "LMangleLine$Script;") ∈ mm_ws := mm_i1 (i := 215) rfl rfl
theorem mw_1_216 : (Jvm.Cond.fieldLink "MangleLine" (42 : Nat) "MangleLine" "seen" "LMangleLine$Sightings;") ∈ mm_ws := mm_i1 (i := 216) rfl rfl
theorem mw_1_217 : (Jvm.Cond.fieldLink "MangleLine" (49 : Nat) "MangleLine" "choice" "LMangleLine$Choice;") ∈ mm_ws := mm_i1 (i := 217) rfl rfl
theorem mw_1_218 : (Jvm.Cond.fieldLink "MangleLine" (53 : Nat) "MangleLine" "tallies" "[I") ∈ mm_ws := mm_i1 (i := 218) rfl rfl
theorem mw_1_219 : (Jvm.Cond.fieldLink "MangleLine" (59 : Nat) "MangleLine" "images" "[LMangleLine$Image;") ∈ mm_ws := mm_i1 (i := 219) rfl rfl
theorem mw_1_220 : (Jvm.Cond.fieldLink "MangleLine" (65 : Nat) "MangleLine" "sheets" "[LMangleLine$Sheet;") ∈ mm_ws := mm_i1 (i := 220) rfl rfl
theorem mw_1_221 : (Jvm.Cond.fieldLink "MangleLine" (268 : Nat) "MangleLine" "readFault" "I") ∈ mm_ws := mm_i1 (i := 221) rfl rfl
theorem mw_1_222 : (Jvm.Cond.laysFinal "MangleLine" "MangleLine" "now" "LMangleLine$Laundry;") ∈ mm_ws := mm_i1 (i := 222) rfl rfl
theorem mw_1_224 : (Jvm.Cond.laysFinal "MangleLine" "MangleLine" "trial" "LMangleLine$Laundry;") ∈ mm_ws := mm_i1 (i := 224) rfl rfl
theorem mw_1_226 : (Jvm.Cond.laysFinal "MangleLine" "MangleLine" "weathers" "[LMangleLine$Laundry;") ∈ mm_ws := mm_i1 (i := 226) rfl rfl
theorem mw_1_228 : (Jvm.Cond.laysFinal "MangleLine" "MangleLine" "tape" "LMangleLine$Tape;") ∈ mm_ws := mm_i1 (i := 228) rfl rfl
theorem mw_1_230 : (Jvm.Cond.laysFinal "MangleLine" "MangleLine" "script" "LMangleLine$Script;") ∈ mm_ws := mm_i1 (i := 230) rfl rfl
theorem mw_1_232 : (Jvm.Cond.laysFinal "MangleLine" "MangleLine" "seen" "LMangleLine$Sightings;") ∈ mm_ws := mm_i1 (i := 232) rfl rfl
theorem mw_1_234 : (Jvm.Cond.laysFinal "MangleLine" "MangleLine" "choice" "LMangleLine$Choice;") ∈ mm_ws := mm_i1 (i := 234) rfl rfl
theorem mw_1_236 : (Jvm.Cond.laysFinal "MangleLine" "MangleLine" "tallies" "[I") ∈ mm_ws := mm_i1 (i := 236) rfl rfl
theorem mw_1_238 : (Jvm.Cond.laysFinal "MangleLine" "MangleLine" "images" "[LMangleLine$Image;") ∈ mm_ws := mm_i1 (i := 238) rfl rfl
theorem mw_2_0 : (Jvm.Cond.laysFinal "MangleLine" "MangleLine" "sheets" "[LMangleLine$Sheet;") ∈ mm_ws := mm_i2 (i := 0) rfl rfl
theorem mw_2_2 : (Jvm.Cond.lays "MangleLine" "MangleLine" "readFault" "I") ∈ mm_ws := mm_i2 (i := 2) rfl rfl
theorem mw_2_5 : (Jvm.Cond.methodLink "MangleLineLaw" (13 : Nat) ({ cls := "MangleLine", name := "feed", desc := "(I)I" } : Jvm.MethodName)) ∈ mm_ws := mm_i2 (i := 5) rfl rfl
theorem mw_2_6 : (Jvm.Cond.instanceMethod ({ cls := "MangleLine", name := "feed", desc := "(I)I" } : Jvm.MethodName)) ∈ mm_ws := mm_i2 (i := 6) rfl rfl
theorem mw_2_7 : (Jvm.Cond.selects "MangleLine" ({ cls := "MangleLine", name := "feed", desc := "(I)I" } : Jvm.MethodName) ({ cls := "MangleLine", name := "feed", desc := "(I)I" } : Jvm.MethodName)) ∈ mm_ws := mm_i2 (i := 7) rfl rfl
theorem mw_2_8 : (Jvm.Cond.code ({ cls := "MangleLine", name := "feed", desc := "(I)I" } : Jvm.MethodName) prog_1_method_2_code (2 : Nat) (Option.some Jvm.ClassFile.FieldType.int)) ∈ mm_ws := mm_i2 (i := 8) rfl rfl
theorem mw_2_9 : (Jvm.Cond.methodLink "MangleLine" (71 : Nat) ({ cls := "MangleLine", name := "within", desc := "(III)Z" } : Jvm.MethodName)) ∈ mm_ws := mm_i2 (i := 9) rfl rfl
theorem mw_2_10 : (Jvm.Cond.static ({ cls := "MangleLine", name := "within", desc := "(III)Z" } : Jvm.MethodName)) ∈ mm_ws := mm_i2 (i := 10) rfl rfl
theorem mw_2_11 : (Jvm.Cond.code ({ cls := "MangleLine", name := "within", desc := "(III)Z" } : Jvm.MethodName) prog_1_method_42_code (3 : Nat) (Option.some Jvm.ClassFile.FieldType.boolean)) ∈ mm_ws := mm_i2 (i := 11) rfl rfl
theorem mw_2_14 : (Jvm.Cond.instanceMethod ({ cls := "MangleLine$Tape", name := "append", desc := "(I)Z" } : Jvm.MethodName)) ∈ mm_ws := mm_i2 (i := 14) rfl rfl
theorem mw_2_15 : (Jvm.Cond.code ({ cls := "MangleLine$Tape", name := "append", desc := "(I)Z" } : Jvm.MethodName) prog_8_method_2_code (2 : Nat) (Option.some Jvm.ClassFile.FieldType.boolean)) ∈ mm_ws := mm_i2 (i := 15) rfl rfl
theorem mw_2_16 : (Jvm.Cond.methodLink "MangleLineLaw" (18 : Nat) ({ cls := "MangleLine", name := "end", desc := "(I)I" } : Jvm.MethodName)) ∈ mm_ws := mm_i2 (i := 16) rfl rfl
theorem mw_2_17 : (Jvm.Cond.instanceMethod ({ cls := "MangleLine", name := "end", desc := "(I)I" } : Jvm.MethodName)) ∈ mm_ws := mm_i2 (i := 17) rfl rfl
theorem mw_2_18 : (Jvm.Cond.selects "MangleLine" ({ cls := "MangleLine", name := "end", desc := "(I)I" } : Jvm.MethodName) ({ cls := "MangleLine", name := "end", desc := "(I)I" } : Jvm.MethodName)) ∈ mm_ws := mm_i2 (i := 18) rfl rfl
theorem mw_2_19 : (Jvm.Cond.code ({ cls := "MangleLine", name := "end", desc := "(I)I" } : Jvm.MethodName) prog_1_method_3_code (3 : Nat) (Option.some Jvm.ClassFile.FieldType.int)) ∈ mm_ws := mm_i2 (i := 19) rfl rfl
theorem mw_2_20 : (Jvm.Cond.methodLink "MangleLineLaw" (22 : Nat) ({ cls := "MangleLine", name := "text", desc := "()I" } : Jvm.MethodName)) ∈ mm_ws := mm_i2 (i := 20) rfl rfl
theorem mw_2_21 : (Jvm.Cond.instanceMethod ({ cls := "MangleLine", name := "text", desc := "()I" } : Jvm.MethodName)) ∈ mm_ws := mm_i2 (i := 21) rfl rfl
theorem mw_2_22 : (Jvm.Cond.selects "MangleLine" ({ cls := "MangleLine", name := "text", desc := "()I" } : Jvm.MethodName) ({ cls := "MangleLine", name := "text", desc := "()I" } : Jvm.MethodName)) ∈ mm_ws := mm_i2 (i := 22) rfl rfl
theorem mw_2_23 : (Jvm.Cond.code ({ cls := "MangleLine", name := "text", desc := "()I" } : Jvm.MethodName) prog_1_method_4_code (3 : Nat) (Option.some Jvm.ClassFile.FieldType.int)) ∈ mm_ws := mm_i2 (i := 23) rfl rfl
theorem mw_2_26 : (Jvm.Cond.instanceMethod ({ cls := "MangleLine$Script", name := "tell", desc := "(LMangleLine$Laundry;)I" } : Jvm.MethodName)) ∈ mm_ws := mm_i2 (i := 26) rfl rfl
theorem mw_2_27 : (Jvm.Cond.code ({ cls := "MangleLine$Script", name := "tell", desc := "(LMangleLine$Laundry;)I" } : Jvm.MethodName) prog_5_method_2_code (4 : Nat) (Option.some Jvm.ClassFile.FieldType.int)) ∈ mm_ws := mm_i2 (i := 27) rfl rfl
theorem mw_2_31 : (Jvm.Cond.instanceMethod ({ cls := "MangleLine$Tape", name := "rewind", desc := "()V" } : Jvm.MethodName)) ∈ mm_ws := mm_i2 (i := 31) rfl rfl
theorem mw_2_32 : (Jvm.Cond.code ({ cls := "MangleLine$Tape", name := "rewind", desc := "()V" } : Jvm.MethodName) prog_8_method_3_code (1 : Nat) (Option.none : Option Jvm.ClassFile.FieldType)) ∈ mm_ws := mm_i2 (i := 32) rfl rfl
theorem mw_2_33 : (Jvm.Cond.methodLink "MangleLine$Script" (32 : Nat) ({ cls := "MangleLine$Script", name := "takeToken", desc := "()Z" } : Jvm.MethodName)) ∈ mm_ws := mm_i2 (i := 33) rfl rfl
theorem mw_2_35 : (Jvm.Cond.instanceMethod ({ cls := "MangleLine$Script", name := "takeToken", desc := "()Z" } : Jvm.MethodName)) ∈ mm_ws := mm_i2 (i := 35) rfl rfl
theorem mw_2_36 : (Jvm.Cond.code ({ cls := "MangleLine$Script", name := "takeToken", desc := "()Z" } : Jvm.MethodName) prog_5_method_4_code (1 : Nat) (Option.some Jvm.ClassFile.FieldType.boolean)) ∈ mm_ws := mm_i2 (i := 36) rfl rfl
theorem mw_2_39 : (Jvm.Cond.instanceMethod ({ cls := "MangleLine$Tape", name := "readToken", desc := "()V" } : Jvm.MethodName)) ∈ mm_ws := mm_i2 (i := 39) rfl rfl
theorem mw_2_40 : (Jvm.Cond.code ({ cls := "MangleLine$Tape", name := "readToken", desc := "()V" } : Jvm.MethodName) prog_8_method_4_code (1 : Nat) (Option.none : Option Jvm.ClassFile.FieldType)) ∈ mm_ws := mm_i2 (i := 40) rfl rfl
theorem mw_2_41 : (Jvm.Cond.methodLink "MangleLine$Tape" (25 : Nat) ({ cls := "MangleLine$Tape", name := "tokenWith", desc := "(I)I" } : Jvm.MethodName)) ∈ mm_ws := mm_i2 (i := 41) rfl rfl
theorem mw_2_42 : (Jvm.Cond.static ({ cls := "MangleLine$Tape", name := "tokenWith", desc := "(I)I" } : Jvm.MethodName)) ∈ mm_ws := mm_i2 (i := 42) rfl rfl
theorem mw_2_43 : (Jvm.Cond.code ({ cls := "MangleLine$Tape", name := "tokenWith", desc := "(I)I" } : Jvm.MethodName) prog_8_method_6_code (1 : Nat) (Option.some Jvm.ClassFile.FieldType.int)) ∈ mm_ws := mm_i2 (i := 43) rfl rfl
theorem mw_2_44 : (Jvm.Cond.methodLink "MangleLine$Tape" (32 : Nat) ({ cls := "MangleLine$Tape", name := "readFigures", desc := "()V" } : Jvm.MethodName)) ∈ mm_ws := mm_i2 (i := 44) rfl rfl
theorem mw_2_46 : (Jvm.Cond.instanceMethod ({ cls := "MangleLine$Tape", name := "readFigures", desc := "()V" } : Jvm.MethodName)) ∈ mm_ws := mm_i2 (i := 46) rfl rfl
theorem mw_2_47 : (Jvm.Cond.code ({ cls := "MangleLine$Tape", name := "readFigures", desc := "()V" } : Jvm.MethodName) prog_8_method_5_code (2 : Nat) (Option.none : Option Jvm.ClassFile.FieldType)) ∈ mm_ws := mm_i2 (i := 47) rfl rfl
theorem mw_2_48 : (Jvm.Cond.methodLink "MangleLine$Script" (52 : Nat) ({ cls := "MangleLine$Script", name := "blame", desc := "(I)Z" } : Jvm.MethodName)) ∈ mm_ws := mm_i2 (i := 48) rfl rfl
theorem mw_2_50 : (Jvm.Cond.instanceMethod ({ cls := "MangleLine$Script", name := "blame", desc := "(I)Z" } : Jvm.MethodName)) ∈ mm_ws := mm_i2 (i := 50) rfl rfl
theorem mw_2_51 : (Jvm.Cond.code ({ cls := "MangleLine$Script", name := "blame", desc := "(I)Z" } : Jvm.MethodName) prog_5_method_3_code (2 : Nat) (Option.some Jvm.ClassFile.FieldType.boolean)) ∈ mm_ws := mm_i2 (i := 51) rfl rfl
theorem mw_2_52 : (Jvm.Cond.methodLink "MangleLine$Script" (39 : Nat) ({ cls := "MangleLine$Script", name := "tellLine", desc := "(LMangleLine$Laundry;)Z" } : Jvm.MethodName)) ∈ mm_ws := mm_i2 (i := 52) rfl rfl
theorem mw_2_54 : (Jvm.Cond.instanceMethod ({ cls := "MangleLine$Script", name := "tellLine", desc := "(LMangleLine$Laundry;)Z" } : Jvm.MethodName)) ∈ mm_ws := mm_i2 (i := 54) rfl rfl
theorem mw_2_55 : (Jvm.Cond.code ({ cls := "MangleLine$Script", name := "tellLine", desc := "(LMangleLine$Laundry;)Z" } : Jvm.MethodName) prog_5_method_5_code (3 : Nat) (Option.some Jvm.ClassFile.FieldType.boolean)) ∈ mm_ws := mm_i2 (i := 55) rfl rfl
theorem mw_2_58 : (Jvm.Cond.instanceMethod ({ cls := "MangleLine$Tape", name := "word", desc := "()I" } : Jvm.MethodName)) ∈ mm_ws := mm_i2 (i := 58) rfl rfl
theorem mw_2_59 : (Jvm.Cond.code ({ cls := "MangleLine$Tape", name := "word", desc := "()I" } : Jvm.MethodName) prog_8_method_7_code (2 : Nat) (Option.some Jvm.ClassFile.FieldType.int)) ∈ mm_ws := mm_i2 (i := 59) rfl rfl
theorem mw_2_60 : (Jvm.Cond.methodLink "MangleLine$Tape" (38 : Nat) ({ cls := "MangleLine$Tape", name := "wordOf", desc := "(I)Ljava/lang/String;" } : Jvm.MethodName)) ∈ mm_ws := mm_i2 (i := 60) rfl rfl
theorem mw_2_61 : (Jvm.Cond.static ({ cls := "MangleLine$Tape", name := "wordOf", desc := "(I)Ljava/lang/String;" } : Jvm.MethodName)) ∈ mm_ws := mm_i2 (i := 61) rfl rfl
theorem mw_2_62 : (Jvm.Cond.code ({ cls := "MangleLine$Tape", name := "wordOf", desc := "(I)Ljava/lang/String;" } : Jvm.MethodName) prog_8_method_8_code (1 : Nat) (Option.some (Jvm.ClassFile.FieldType.object "java/lang/String"))) ∈ mm_ws := mm_i2 (i := 62) rfl rfl
theorem mw_2_73 : (Jvm.Cond.methodLink "MangleLine$Tape" (42 : Nat) ({ cls := "MangleLine$Tape", name := "isSpelt", desc := "(Ljava/lang/String;)Z" } : Jvm.MethodName)) ∈ mm_ws := mm_i2 (i := 73) rfl rfl
theorem mw_2_75 : (Jvm.Cond.instanceMethod ({ cls := "MangleLine$Tape", name := "isSpelt", desc := "(Ljava/lang/String;)Z" } : Jvm.MethodName)) ∈ mm_ws := mm_i2 (i := 75) rfl rfl
theorem mw_2_76 : (Jvm.Cond.code ({ cls := "MangleLine$Tape", name := "isSpelt", desc := "(Ljava/lang/String;)Z" } : Jvm.MethodName) prog_8_method_9_code (3 : Nat) (Option.some Jvm.ClassFile.FieldType.boolean)) ∈ mm_ws := mm_i2 (i := 76) rfl rfl
theorem mw_2_77 : (Jvm.Cond.methodLink "MangleLine$Tape" (66 : Nat) ({ cls := "java/lang/String", name := "length", desc := "()I" } : Jvm.MethodName)) ∈ mm_ws := mm_i2 (i := 77) rfl rfl
theorem mw_2_78 : (Jvm.Cond.instanceMethod ({ cls := "java/lang/String", name := "length", desc := "()I" } : Jvm.MethodName)) ∈ mm_ws := mm_i2 (i := 78) rfl rfl
theorem mw_2_79 : (Jvm.Cond.selects "java/lang/String" ({ cls := "java/lang/String", name := "length", desc := "()I" } : Jvm.MethodName) ({ cls := "java/lang/String", name := "length", desc := "()I" } : Jvm.MethodName)) ∈ mm_ws := mm_i2 (i := 79) rfl rfl
theorem mw_2_80 : (Jvm.Cond.code ({ cls := "java/lang/String", name := "length", desc := "()I" } : Jvm.MethodName) prog_13_method_54_code (1 : Nat) (Option.some Jvm.ClassFile.FieldType.int)) ∈ mm_ws := mm_i2 (i := 80) rfl rfl
theorem mw_2_81 : (Jvm.Cond.methodLink "java/lang/String" (335 : Nat) ({ cls := "java/lang/String", name := "coder", desc := "()B" } : Jvm.MethodName)) ∈ mm_ws := mm_i2 (i := 81) rfl rfl
theorem mw_2_82 : (Jvm.Cond.instanceMethod ({ cls := "java/lang/String", name := "coder", desc := "()B" } : Jvm.MethodName)) ∈ mm_ws := mm_i2 (i := 82) rfl rfl
theorem mw_2_83 : (Jvm.Cond.selects "java/lang/String" ({ cls := "java/lang/String", name := "coder", desc := "()B" } : Jvm.MethodName) ({ cls := "java/lang/String", name := "coder", desc := "()B" } : Jvm.MethodName)) ∈ mm_ws := mm_i2 (i := 83) rfl rfl
theorem mw_2_84 : (Jvm.Cond.code ({ cls := "java/lang/String", name := "coder", desc := "()B" } : Jvm.MethodName) prog_13_method_152_code (1 : Nat) (Option.some Jvm.ClassFile.FieldType.byte)) ∈ mm_ws := mm_i2 (i := 84) rfl rfl
theorem mw_2_85 : (Jvm.Cond.fieldLink "java/lang/String" (38 : Nat) "java/lang/String" "COMPACT_STRINGS" "Z") ∈ mm_ws := mm_i2 (i := 85) rfl rfl
theorem mw_2_87 : (Jvm.Cond.methodLink "MangleLine$Tape" (71 : Nat) ({ cls := "java/lang/String", name := "charAt", desc := "(I)C" } : Jvm.MethodName)) ∈ mm_ws := mm_i2 (i := 87) rfl rfl
theorem mw_2_88 : (Jvm.Cond.instanceMethod ({ cls := "java/lang/String", name := "charAt", desc := "(I)C" } : Jvm.MethodName)) ∈ mm_ws := mm_i2 (i := 88) rfl rfl
theorem mw_2_89 : (Jvm.Cond.selects "java/lang/String" ({ cls := "java/lang/String", name := "charAt", desc := "(I)C" } : Jvm.MethodName) ({ cls := "java/lang/String", name := "charAt", desc := "(I)C" } : Jvm.MethodName)) ∈ mm_ws := mm_i2 (i := 89) rfl rfl
theorem mw_2_90 : (Jvm.Cond.code ({ cls := "java/lang/String", name := "charAt", desc := "(I)C" } : Jvm.MethodName) prog_13_method_56_code (2 : Nat) (Option.some Jvm.ClassFile.FieldType.char)) ∈ mm_ws := mm_i2 (i := 90) rfl rfl
theorem mw_2_91 : (Jvm.Cond.methodLink "java/lang/String" (492 : Nat) ({ cls := "java/lang/String", name := "isLatin1", desc := "()Z" } : Jvm.MethodName)) ∈ mm_ws := mm_i2 (i := 91) rfl rfl
theorem mw_2_92 : (Jvm.Cond.instanceMethod ({ cls := "java/lang/String", name := "isLatin1", desc := "()Z" } : Jvm.MethodName)) ∈ mm_ws := mm_i2 (i := 92) rfl rfl
theorem mw_2_93 : (Jvm.Cond.selects "java/lang/String" ({ cls := "java/lang/String", name := "isLatin1", desc := "()Z" } : Jvm.MethodName) ({ cls := "java/lang/String", name := "isLatin1", desc := "()Z" } : Jvm.MethodName)) ∈ mm_ws := mm_i2 (i := 93) rfl rfl
theorem mw_2_94 : (Jvm.Cond.code ({ cls := "java/lang/String", name := "isLatin1", desc := "()Z" } : Jvm.MethodName) prog_13_method_154_code (1 : Nat) (Option.some Jvm.ClassFile.FieldType.boolean)) ∈ mm_ws := mm_i2 (i := 94) rfl rfl
theorem mw_2_95 : (Jvm.Cond.methodLink "java/lang/String" (495 : Nat) ({ cls := "java/lang/StringLatin1", name := "charAt", desc := "([BI)C" } : Jvm.MethodName)) ∈ mm_ws := mm_i2 (i := 95) rfl rfl
theorem mw_2_96 : (Jvm.Cond.static ({ cls := "java/lang/StringLatin1", name := "charAt", desc := "([BI)C" } : Jvm.MethodName)) ∈ mm_ws := mm_i2 (i := 96) rfl rfl
theorem mw_2_97 : (Jvm.Cond.code ({ cls := "java/lang/StringLatin1", name := "charAt", desc := "([BI)C" } : Jvm.MethodName) prog_14_method_2_code (2 : Nat) (Option.some Jvm.ClassFile.FieldType.char)) ∈ mm_ws := mm_i2 (i := 97) rfl rfl
theorem mw_2_98 : (Jvm.Cond.methodLink "java/lang/StringLatin1" (9 : Nat) ({ cls := "java/lang/String", name := "checkIndex", desc := "(II)V" } : Jvm.MethodName)) ∈ mm_ws := mm_i2 (i := 98) rfl rfl
theorem mw_2_99 : (Jvm.Cond.static ({ cls := "java/lang/String", name := "checkIndex", desc := "(II)V" } : Jvm.MethodName)) ∈ mm_ws := mm_i2 (i := 99) rfl rfl
theorem mw_2_100 : (Jvm.Cond.code ({ cls := "java/lang/String", name := "checkIndex", desc := "(II)V" } : Jvm.MethodName) prog_13_method_155_code (2 : Nat) (Option.none : Option Jvm.ClassFile.FieldType)) ∈ mm_ws := mm_i2 (i := 100) rfl rfl
theorem mw_2_101 : (Jvm.Cond.fieldLink "java/lang/String" (1053 : Nat) "jdk/internal/util/Preconditions" "SIOOBE_FORMATTER" "Ljava/util/function/BiFunction;") ∈ mm_ws := mm_i2 (i := 101) rfl rfl
theorem mw_2_103 : (Jvm.Cond.methodLink "java/lang/String" (1059 : Nat) ({ cls := "jdk/internal/util/Preconditions", name := "checkIndex", desc := "(IILjava/util/function/BiFunction;)I" } : Jvm.MethodName)) ∈ mm_ws := mm_i2 (i := 103) rfl rfl
theorem mw_2_104 : (Jvm.Cond.static ({ cls := "jdk/internal/util/Preconditions", name := "checkIndex", desc := "(IILjava/util/function/BiFunction;)I" } : Jvm.MethodName)) ∈ mm_ws := mm_i2 (i := 104) rfl rfl
theorem mw_2_105 : (Jvm.Cond.code ({ cls := "jdk/internal/util/Preconditions", name := "checkIndex", desc := "(IILjava/util/function/BiFunction;)I" } : Jvm.MethodName) prog_18_method_11_code (3 : Nat) (Option.some Jvm.ClassFile.FieldType.int)) ∈ mm_ws := mm_i2 (i := 105) rfl rfl
theorem mw_2_106 : (Jvm.Cond.methodLink "java/lang/String" (498 : Nat) ({ cls := "java/lang/StringUTF16", name := "charAt", desc := "([BI)C" } : Jvm.MethodName)) ∈ mm_ws := mm_i2 (i := 106) rfl rfl
theorem mw_2_107 : (Jvm.Cond.static ({ cls := "java/lang/StringUTF16", name := "charAt", desc := "([BI)C" } : Jvm.MethodName)) ∈ mm_ws := mm_i2 (i := 107) rfl rfl
theorem mw_2_108 : (Jvm.Cond.code ({ cls := "java/lang/StringUTF16", name := "charAt", desc := "([BI)C" } : Jvm.MethodName) prog_15_method_83_code (2 : Nat) (Option.some Jvm.ClassFile.FieldType.char)) ∈ mm_ws := mm_i2 (i := 108) rfl rfl
theorem mw_2_109 : (Jvm.Cond.methodLink "java/lang/StringUTF16" (67 : Nat) ({ cls := "java/lang/StringUTF16", name := "checkIndex", desc := "(I[B)V" } : Jvm.MethodName)) ∈ mm_ws := mm_i2 (i := 109) rfl rfl
theorem mw_2_110 : (Jvm.Cond.static ({ cls := "java/lang/StringUTF16", name := "checkIndex", desc := "(I[B)V" } : Jvm.MethodName)) ∈ mm_ws := mm_i2 (i := 110) rfl rfl
theorem mw_2_111 : (Jvm.Cond.code ({ cls := "java/lang/StringUTF16", name := "checkIndex", desc := "(I[B)V" } : Jvm.MethodName) prog_15_method_91_code (2 : Nat) (Option.none : Option Jvm.ClassFile.FieldType)) ∈ mm_ws := mm_i2 (i := 111) rfl rfl
theorem mw_2_112 : (Jvm.Cond.methodLink "java/lang/StringUTF16" (48 : Nat) ({ cls := "java/lang/StringUTF16", name := "length", desc := "([B)I" } : Jvm.MethodName)) ∈ mm_ws := mm_i2 (i := 112) rfl rfl
theorem mw_2_113 : (Jvm.Cond.static ({ cls := "java/lang/StringUTF16", name := "length", desc := "([B)I" } : Jvm.MethodName)) ∈ mm_ws := mm_i2 (i := 113) rfl rfl
theorem mw_2_114 : (Jvm.Cond.code ({ cls := "java/lang/StringUTF16", name := "length", desc := "([B)I" } : Jvm.MethodName) prog_15_method_6_code (1 : Nat) (Option.some Jvm.ClassFile.FieldType.int)) ∈ mm_ws := mm_i2 (i := 114) rfl rfl
theorem mw_2_115 : (Jvm.Cond.methodLink "java/lang/StringUTF16" (414 : Nat) ({ cls := "java/lang/String", name := "checkIndex", desc := "(II)V" } : Jvm.MethodName)) ∈ mm_ws := mm_i2 (i := 115) rfl rfl
theorem mw_2_116 : (Jvm.Cond.methodLink "java/lang/StringUTF16" (71 : Nat) ({ cls := "java/lang/StringUTF16", name := "getChar", desc := "([BI)C" } : Jvm.MethodName)) ∈ mm_ws := mm_i2 (i := 116) rfl rfl
theorem mw_2_117 : (Jvm.Cond.static ({ cls := "java/lang/StringUTF16", name := "getChar", desc := "([BI)C" } : Jvm.MethodName)) ∈ mm_ws := mm_i2 (i := 117) rfl rfl
theorem mw_2_118 : (Jvm.Cond.code ({ cls := "java/lang/StringUTF16", name := "getChar", desc := "([BI)C" } : Jvm.MethodName) prog_15_method_5_code (2 : Nat) (Option.some Jvm.ClassFile.FieldType.char)) ∈ mm_ws := mm_i2 (i := 118) rfl rfl
theorem mw_2_119 : (Jvm.Cond.fieldLink "java/lang/StringUTF16" (44 : Nat) "java/lang/StringUTF16" "$assertionsDisabled" "Z") ∈ mm_ws := mm_i2 (i := 119) rfl rfl
theorem mw_2_121 : (Jvm.Cond.fieldLink "java/lang/StringUTF16" (59 : Nat) "java/lang/StringUTF16" "HI_BYTE_SHIFT" "I") ∈ mm_ws := mm_i2 (i := 121) rfl rfl
theorem mw_2_123 : (Jvm.Cond.fieldLink "java/lang/StringUTF16" (63 : Nat) "java/lang/StringUTF16" "LO_BYTE_SHIFT" "I") ∈ mm_ws := mm_i2 (i := 123) rfl rfl
theorem mw_2_125 : (Jvm.Cond.methodLink "MangleLine$Script" (60 : Nat) ({ cls := "MangleLine$Script", name := "tellOne", desc := "(LMangleLine$Laundry;I)Z" } : Jvm.MethodName)) ∈ mm_ws := mm_i2 (i := 125) rfl rfl
theorem mw_2_127 : (Jvm.Cond.instanceMethod ({ cls := "MangleLine$Script", name := "tellOne", desc := "(LMangleLine$Laundry;I)Z" } : Jvm.MethodName)) ∈ mm_ws := mm_i2 (i := 127) rfl rfl
theorem mw_2_128 : (Jvm.Cond.code ({ cls := "MangleLine$Script", name := "tellOne", desc := "(LMangleLine$Laundry;I)Z" } : Jvm.MethodName) prog_5_method_6_code (3 : Nat) (Option.some Jvm.ClassFile.FieldType.boolean)) ∈ mm_ws := mm_i2 (i := 128) rfl rfl
theorem mw_2_129 : (Jvm.Cond.methodLink "MangleLine$Script" (73 : Nat) ({ cls := "MangleLine$Script", name := "isNumber", desc := "(II)Z" } : Jvm.MethodName)) ∈ mm_ws := mm_i2 (i := 129) rfl rfl
theorem mw_2_131 : (Jvm.Cond.instanceMethod ({ cls := "MangleLine$Script", name := "isNumber", desc := "(II)Z" } : Jvm.MethodName)) ∈ mm_ws := mm_i2 (i := 131) rfl rfl
theorem mw_2_132 : (Jvm.Cond.code ({ cls := "MangleLine$Script", name := "isNumber", desc := "(II)Z" } : Jvm.MethodName) prog_5_method_9_code (3 : Nat) (Option.some Jvm.ClassFile.FieldType.boolean)) ∈ mm_ws := mm_i2 (i := 132) rfl rfl
theorem mw_2_136 : (Jvm.Cond.instanceMethod ({ cls := "MangleLine$Laundry", name := "admit", desc := "(II)I" } : Jvm.MethodName)) ∈ mm_ws := mm_i2 (i := 136) rfl rfl
theorem mw_2_137 : (Jvm.Cond.code ({ cls := "MangleLine$Laundry", name := "admit", desc := "(II)I" } : Jvm.MethodName) prog_4_method_4_code (3 : Nat) (Option.some Jvm.ClassFile.FieldType.int)) ∈ mm_ws := mm_i2 (i := 137) rfl rfl
theorem mw_2_139 : (Jvm.Cond.methodLink "MangleLine$Script" (84 : Nat) ({ cls := "MangleLine$Script", name := "isStop", desc := "()Z" } : Jvm.MethodName)) ∈ mm_ws := mm_i2 (i := 139) rfl rfl
theorem mw_2_141 : (Jvm.Cond.instanceMethod ({ cls := "MangleLine$Script", name := "isStop", desc := "()Z" } : Jvm.MethodName)) ∈ mm_ws := mm_i2 (i := 141) rfl rfl
theorem mw_2_142 : (Jvm.Cond.code ({ cls := "MangleLine$Script", name := "isStop", desc := "()Z" } : Jvm.MethodName) prog_5_method_10_code (1 : Nat) (Option.some Jvm.ClassFile.FieldType.boolean)) ∈ mm_ws := mm_i2 (i := 142) rfl rfl
theorem mw_2_143 : (Jvm.Cond.methodLink "MangleLine$Script" (64 : Nat) ({ cls := "MangleLine$Script", name := "tellSuns", desc := "(LMangleLine$Laundry;)Z" } : Jvm.MethodName)) ∈ mm_ws := mm_i2 (i := 143) rfl rfl
theorem mw_2_145 : (Jvm.Cond.instanceMethod ({ cls := "MangleLine$Script", name := "tellSuns", desc := "(LMangleLine$Laundry;)Z" } : Jvm.MethodName)) ∈ mm_ws := mm_i2 (i := 145) rfl rfl
theorem mw_2_146 : (Jvm.Cond.code ({ cls := "MangleLine$Script", name := "tellSuns", desc := "(LMangleLine$Laundry;)Z" } : Jvm.MethodName) prog_5_method_8_code (3 : Nat) (Option.some Jvm.ClassFile.FieldType.boolean)) ∈ mm_ws := mm_i2 (i := 146) rfl rfl
theorem mw_2_147 : (Jvm.Cond.methodLink "MangleLine$Script" (67 : Nat) ({ cls := "MangleLine$Script", name := "tellRule", desc := "(LMangleLine$Laundry;I)Z" } : Jvm.MethodName)) ∈ mm_ws := mm_i2 (i := 147) rfl rfl
theorem mw_2_149 : (Jvm.Cond.instanceMethod ({ cls := "MangleLine$Script", name := "tellRule", desc := "(LMangleLine$Laundry;I)Z" } : Jvm.MethodName)) ∈ mm_ws := mm_i2 (i := 149) rfl rfl
theorem mw_2_150 : (Jvm.Cond.code ({ cls := "MangleLine$Script", name := "tellRule", desc := "(LMangleLine$Laundry;I)Z" } : Jvm.MethodName) prog_5_method_7_code (3 : Nat) (Option.some Jvm.ClassFile.FieldType.boolean)) ∈ mm_ws := mm_i2 (i := 150) rfl rfl
theorem mw_2_157 : (Jvm.Cond.instanceMethod ({ cls := "MangleLine$Laundry", name := "become", desc := "(LMangleLine$Laundry;)V" } : Jvm.MethodName)) ∈ mm_ws := mm_i2 (i := 157) rfl rfl
theorem mw_2_158 : (Jvm.Cond.code ({ cls := "MangleLine$Laundry", name := "become", desc := "(LMangleLine$Laundry;)V" } : Jvm.MethodName) prog_4_method_3_code (2 : Nat) (Option.none : Option Jvm.ClassFile.FieldType)) ∈ mm_ws := mm_i2 (i := 158) rfl rfl
theorem mw_2_159 : (Jvm.Cond.arrayClass Jvm.ClassFile.FieldType.byte) ∈ mm_ws := mm_i2 (i := 159) rfl rfl
theorem mw_2_160 : (Jvm.Cond.methodLink "MangleLineLaw" (27 : Nat) ({ cls := "MangleLine", name := "fault", desc := "()I" } : Jvm.MethodName)) ∈ mm_ws := mm_i2 (i := 160) rfl rfl
theorem mw_2_161 : (Jvm.Cond.instanceMethod ({ cls := "MangleLine", name := "fault", desc := "()I" } : Jvm.MethodName)) ∈ mm_ws := mm_i2 (i := 161) rfl rfl
theorem mw_2_162 : (Jvm.Cond.selects "MangleLine" ({ cls := "MangleLine", name := "fault", desc := "()I" } : Jvm.MethodName) ({ cls := "MangleLine", name := "fault", desc := "()I" } : Jvm.MethodName)) ∈ mm_ws := mm_i2 (i := 162) rfl rfl
theorem mw_2_163 : (Jvm.Cond.code ({ cls := "MangleLine", name := "fault", desc := "()I" } : Jvm.MethodName) prog_1_method_5_code (1 : Nat) (Option.some Jvm.ClassFile.FieldType.int)) ∈ mm_ws := mm_i2 (i := 163) rfl rfl
theorem mw_2_164 : (Jvm.Cond.methodLink "MangleLineLaw" (31 : Nat) ({ cls := "MangleLine", name := "rule", desc := "(I)I" } : Jvm.MethodName)) ∈ mm_ws := mm_i2 (i := 164) rfl rfl
theorem mw_2_165 : (Jvm.Cond.instanceMethod ({ cls := "MangleLine", name := "rule", desc := "(I)I" } : Jvm.MethodName)) ∈ mm_ws := mm_i2 (i := 165) rfl rfl
theorem mw_2_166 : (Jvm.Cond.selects "MangleLine" ({ cls := "MangleLine", name := "rule", desc := "(I)I" } : Jvm.MethodName) ({ cls := "MangleLine", name := "rule", desc := "(I)I" } : Jvm.MethodName)) ∈ mm_ws := mm_i2 (i := 166) rfl rfl
theorem mw_2_167 : (Jvm.Cond.code ({ cls := "MangleLine", name := "rule", desc := "(I)I" } : Jvm.MethodName) prog_1_method_6_code (2 : Nat) (Option.some Jvm.ClassFile.FieldType.int)) ∈ mm_ws := mm_i2 (i := 167) rfl rfl
theorem mw_2_170 : (Jvm.Cond.instanceMethod ({ cls := "MangleLine$Laundry", name := "whoIsAt", desc := "(I)I" } : Jvm.MethodName)) ∈ mm_ws := mm_i2 (i := 170) rfl rfl
theorem mw_2_171 : (Jvm.Cond.code ({ cls := "MangleLine$Laundry", name := "whoIsAt", desc := "(I)I" } : Jvm.MethodName) prog_4_method_17_code (4 : Nat) (Option.some Jvm.ClassFile.FieldType.int)) ∈ mm_ws := mm_i2 (i := 171) rfl rfl
theorem mw_2_174 : (Jvm.Cond.instanceMethod ({ cls := "MangleLine$Laundry", name := "greyOfAll", desc := "()I" } : Jvm.MethodName)) ∈ mm_ws := mm_i2 (i := 174) rfl rfl
theorem mw_2_175 : (Jvm.Cond.code ({ cls := "MangleLine$Laundry", name := "greyOfAll", desc := "()I" } : Jvm.MethodName) prog_4_method_19_code (1 : Nat) (Option.some Jvm.ClassFile.FieldType.int)) ∈ mm_ws := mm_i2 (i := 175) rfl rfl
theorem mw_2_176 : (Jvm.Cond.methodLink "MangleLine$Laundry" (107 : Nat) ({ cls := "MangleLine$Laundry", name := "sumOf", desc := "([II)I" } : Jvm.MethodName)) ∈ mm_ws := mm_i2 (i := 176) rfl rfl
theorem mw_2_177 : (Jvm.Cond.static ({ cls := "MangleLine$Laundry", name := "sumOf", desc := "([II)I" } : Jvm.MethodName)) ∈ mm_ws := mm_i2 (i := 177) rfl rfl
theorem mw_2_178 : (Jvm.Cond.code ({ cls := "MangleLine$Laundry", name := "sumOf", desc := "([II)I" } : Jvm.MethodName) prog_4_method_22_code (4 : Nat) (Option.some Jvm.ClassFile.FieldType.int)) ∈ mm_ws := mm_i2 (i := 178) rfl rfl
theorem mw_2_181 : (Jvm.Cond.instanceMethod ({ cls := "MangleLine$Laundry", name := "sunToday", desc := "()I" } : Jvm.MethodName)) ∈ mm_ws := mm_i2 (i := 181) rfl rfl
theorem mw_2_182 : (Jvm.Cond.code ({ cls := "MangleLine$Laundry", name := "sunToday", desc := "()I" } : Jvm.MethodName) prog_4_method_10_code (1 : Nat) (Option.some Jvm.ClassFile.FieldType.int)) ∈ mm_ws := mm_i2 (i := 182) rfl rfl
theorem mw_2_183 : (Jvm.Cond.methodLink "MangleLineLaw" (35 : Nat) ({ cls := "MangleLine", name := "told", desc := "(I)I" } : Jvm.MethodName)) ∈ mm_ws := mm_i2 (i := 183) rfl rfl
theorem mw_2_184 : (Jvm.Cond.instanceMethod ({ cls := "MangleLine", name := "told", desc := "(I)I" } : Jvm.MethodName)) ∈ mm_ws := mm_i2 (i := 184) rfl rfl
theorem mw_2_185 : (Jvm.Cond.selects "MangleLine" ({ cls := "MangleLine", name := "told", desc := "(I)I" } : Jvm.MethodName) ({ cls := "MangleLine", name := "told", desc := "(I)I" } : Jvm.MethodName)) ∈ mm_ws := mm_i2 (i := 185) rfl rfl
theorem mw_2_186 : (Jvm.Cond.code ({ cls := "MangleLine", name := "told", desc := "(I)I" } : Jvm.MethodName) prog_1_method_7_code (2 : Nat) (Option.some Jvm.ClassFile.FieldType.int)) ∈ mm_ws := mm_i2 (i := 186) rfl rfl
theorem mw_2_187 : (Jvm.Cond.methodLink "MangleLineLaw" (39 : Nat) ({ cls := "MangleLine", name := "one", desc := "(II)I" } : Jvm.MethodName)) ∈ mm_ws := mm_i2 (i := 187) rfl rfl
theorem mw_2_188 : (Jvm.Cond.instanceMethod ({ cls := "MangleLine", name := "one", desc := "(II)I" } : Jvm.MethodName)) ∈ mm_ws := mm_i2 (i := 188) rfl rfl
theorem mw_2_189 : (Jvm.Cond.selects "MangleLine" ({ cls := "MangleLine", name := "one", desc := "(II)I" } : Jvm.MethodName) ({ cls := "MangleLine", name := "one", desc := "(II)I" } : Jvm.MethodName)) ∈ mm_ws := mm_i2 (i := 189) rfl rfl
theorem mw_2_190 : (Jvm.Cond.code ({ cls := "MangleLine", name := "one", desc := "(II)I" } : Jvm.MethodName) prog_1_method_8_code (3 : Nat) (Option.some Jvm.ClassFile.FieldType.int)) ∈ mm_ws := mm_i2 (i := 190) rfl rfl
theorem mw_2_191 : (Jvm.Cond.methodLink "MangleLine" (119 : Nat) ({ cls := "MangleLine", name := "isOne", desc := "(I)Z" } : Jvm.MethodName)) ∈ mm_ws := mm_i2 (i := 191) rfl rfl
theorem mw_2_193 : (Jvm.Cond.instanceMethod ({ cls := "MangleLine", name := "isOne", desc := "(I)Z" } : Jvm.MethodName)) ∈ mm_ws := mm_i2 (i := 193) rfl rfl
theorem mw_2_194 : (Jvm.Cond.code ({ cls := "MangleLine", name := "isOne", desc := "(I)Z" } : Jvm.MethodName) prog_1_method_47_code (2 : Nat) (Option.some Jvm.ClassFile.FieldType.boolean)) ∈ mm_ws := mm_i2 (i := 194) rfl rfl
theorem mw_2_197 : (Jvm.Cond.instanceMethod ({ cls := "MangleLine$Laundry", name := "scrubs", desc := "(I)I" } : Jvm.MethodName)) ∈ mm_ws := mm_i2 (i := 197) rfl rfl
theorem mw_2_198 : (Jvm.Cond.code ({ cls := "MangleLine$Laundry", name := "scrubs", desc := "(I)I" } : Jvm.MethodName) prog_4_method_8_code (3 : Nat) (Option.some Jvm.ClassFile.FieldType.int)) ∈ mm_ws := mm_i2 (i := 198) rfl rfl
theorem mw_2_201 : (Jvm.Cond.instanceMethod ({ cls := "MangleLine$Laundry", name := "dries", desc := "(II)I" } : Jvm.MethodName)) ∈ mm_ws := mm_i2 (i := 201) rfl rfl
theorem mw_2_202 : (Jvm.Cond.code ({ cls := "MangleLine$Laundry", name := "dries", desc := "(II)I" } : Jvm.MethodName) prog_4_method_9_code (3 : Nat) (Option.some Jvm.ClassFile.FieldType.int)) ∈ mm_ws := mm_i2 (i := 202) rfl rfl
theorem mw_2_203 : (Jvm.Cond.methodLink "MangleLineLaw" (44 : Nat) ({ cls := "MangleLine", name := "sun", desc := "(I)I" } : Jvm.MethodName)) ∈ mm_ws := mm_i2 (i := 203) rfl rfl
theorem mw_2_204 : (Jvm.Cond.instanceMethod ({ cls := "MangleLine", name := "sun", desc := "(I)I" } : Jvm.MethodName)) ∈ mm_ws := mm_i2 (i := 204) rfl rfl
theorem mw_2_205 : (Jvm.Cond.selects "MangleLine" ({ cls := "MangleLine", name := "sun", desc := "(I)I" } : Jvm.MethodName) ({ cls := "MangleLine", name := "sun", desc := "(I)I" } : Jvm.MethodName)) ∈ mm_ws := mm_i2 (i := 205) rfl rfl
theorem mw_2_206 : (Jvm.Cond.code ({ cls := "MangleLine", name := "sun", desc := "(I)I" } : Jvm.MethodName) prog_1_method_9_code (2 : Nat) (Option.some Jvm.ClassFile.FieldType.int)) ∈ mm_ws := mm_i2 (i := 206) rfl rfl
theorem mw_2_207 : (Jvm.Cond.methodLink "MangleLine" (141 : Nat) ({ cls := "MangleLine", name := "isWeekday", desc := "(I)Z" } : Jvm.MethodName)) ∈ mm_ws := mm_i2 (i := 207) rfl rfl
theorem mw_2_208 : (Jvm.Cond.static ({ cls := "MangleLine", name := "isWeekday", desc := "(I)Z" } : Jvm.MethodName)) ∈ mm_ws := mm_i2 (i := 208) rfl rfl
theorem mw_2_209 : (Jvm.Cond.code ({ cls := "MangleLine", name := "isWeekday", desc := "(I)Z" } : Jvm.MethodName) prog_1_method_44_code (1 : Nat) (Option.some Jvm.ClassFile.FieldType.boolean)) ∈ mm_ws := mm_i2 (i := 209) rfl rfl
theorem mw_2_210 : (Jvm.Cond.methodLink "MangleLineLaw" (48 : Nat) ({ cls := "MangleLine", name := "alter", desc := "(III)I" } : Jvm.MethodName)) ∈ mm_ws := mm_i2 (i := 210) rfl rfl
theorem mw_2_211 : (Jvm.Cond.instanceMethod ({ cls := "MangleLine", name := "alter", desc := "(III)I" } : Jvm.MethodName)) ∈ mm_ws := mm_i2 (i := 211) rfl rfl
theorem mw_2_212 : (Jvm.Cond.selects "MangleLine" ({ cls := "MangleLine", name := "alter", desc := "(III)I" } : Jvm.MethodName) ({ cls := "MangleLine", name := "alter", desc := "(III)I" } : Jvm.MethodName)) ∈ mm_ws := mm_i2 (i := 212) rfl rfl
theorem mw_2_213 : (Jvm.Cond.code ({ cls := "MangleLine", name := "alter", desc := "(III)I" } : Jvm.MethodName) prog_1_method_10_code (4 : Nat) (Option.some Jvm.ClassFile.FieldType.int)) ∈ mm_ws := mm_i2 (i := 213) rfl rfl
theorem mw_2_214 : (Jvm.Cond.methodLink "MangleLine" (147 : Nat) ({ cls := "MangleLine", name := "replace", desc := "([IIII)I" } : Jvm.MethodName)) ∈ mm_ws := mm_i2 (i := 214) rfl rfl
theorem mw_2_215 : (Jvm.Cond.static ({ cls := "MangleLine", name := "replace", desc := "([IIII)I" } : Jvm.MethodName)) ∈ mm_ws := mm_i2 (i := 215) rfl rfl
theorem mw_2_216 : (Jvm.Cond.code ({ cls := "MangleLine", name := "replace", desc := "([IIII)I" } : Jvm.MethodName) prog_1_method_48_code (5 : Nat) (Option.some Jvm.ClassFile.FieldType.int)) ∈ mm_ws := mm_i2 (i := 216) rfl rfl
theorem mw_2_217 : (Jvm.Cond.methodLink "MangleLineLaw" (53 : Nat) ({ cls := "MangleLine", name := "set", desc := "(II)I" } : Jvm.MethodName)) ∈ mm_ws := mm_i2 (i := 217) rfl rfl
theorem mw_2_218 : (Jvm.Cond.instanceMethod ({ cls := "MangleLine", name := "set", desc := "(II)I" } : Jvm.MethodName)) ∈ mm_ws := mm_i2 (i := 218) rfl rfl
theorem mw_2_219 : (Jvm.Cond.selects "MangleLine" ({ cls := "MangleLine", name := "set", desc := "(II)I" } : Jvm.MethodName) ({ cls := "MangleLine", name := "set", desc := "(II)I" } : Jvm.MethodName)) ∈ mm_ws := mm_i2 (i := 219) rfl rfl
theorem mw_2_220 : (Jvm.Cond.code ({ cls := "MangleLine", name := "set", desc := "(II)I" } : Jvm.MethodName) prog_1_method_11_code (3 : Nat) (Option.some Jvm.ClassFile.FieldType.int)) ∈ mm_ws := mm_i2 (i := 220) rfl rfl
theorem mw_2_221 : (Jvm.Cond.fieldLink "MangleLine" (151 : Nat) "MangleLine" "RULE_LEAST" "[I") ∈ mm_ws := mm_i2 (i := 221) rfl rfl
theorem mw_2_222 : (Jvm.Cond.fieldLink "MangleLine" (154 : Nat) "MangleLine" "RULE_MOST" "[I") ∈ mm_ws := mm_i2 (i := 222) rfl rfl
theorem mw_2_223 : (Jvm.Cond.methodLink "MangleLineLaw" (57 : Nat) ({ cls := "MangleLine", name := "shine", desc := "(II)I" } : Jvm.MethodName)) ∈ mm_ws := mm_i2 (i := 223) rfl rfl
theorem mw_2_224 : (Jvm.Cond.instanceMethod ({ cls := "MangleLine", name := "shine", desc := "(II)I" } : Jvm.MethodName)) ∈ mm_ws := mm_i2 (i := 224) rfl rfl
theorem mw_2_225 : (Jvm.Cond.selects "MangleLine" ({ cls := "MangleLine", name := "shine", desc := "(II)I" } : Jvm.MethodName) ({ cls := "MangleLine", name := "shine", desc := "(II)I" } : Jvm.MethodName)) ∈ mm_ws := mm_i2 (i := 225) rfl rfl
theorem mw_2_226 : (Jvm.Cond.code ({ cls := "MangleLine", name := "shine", desc := "(II)I" } : Jvm.MethodName) prog_1_method_12_code (3 : Nat) (Option.some Jvm.ClassFile.FieldType.int)) ∈ mm_ws := mm_i2 (i := 226) rfl rfl
theorem mw_2_227 : (Jvm.Cond.methodLink "MangleLineLaw" (61 : Nat) ({ cls := "MangleLine", name := "bring", desc := "(II)I" } : Jvm.MethodName)) ∈ mm_ws := mm_i2 (i := 227) rfl rfl
theorem mw_2_228 : (Jvm.Cond.instanceMethod ({ cls := "MangleLine", name := "bring", desc := "(II)I" } : Jvm.MethodName)) ∈ mm_ws := mm_i2 (i := 228) rfl rfl
theorem mw_2_229 : (Jvm.Cond.selects "MangleLine" ({ cls := "MangleLine", name := "bring", desc := "(II)I" } : Jvm.MethodName) ({ cls := "MangleLine", name := "bring", desc := "(II)I" } : Jvm.MethodName)) ∈ mm_ws := mm_i2 (i := 229) rfl rfl
theorem mw_2_230 : (Jvm.Cond.code ({ cls := "MangleLine", name := "bring", desc := "(II)I" } : Jvm.MethodName) prog_1_method_13_code (3 : Nat) (Option.some Jvm.ClassFile.FieldType.int)) ∈ mm_ws := mm_i2 (i := 230) rfl rfl
theorem mw_2_232 : (Jvm.Cond.methodLink "MangleLineLaw" (65 : Nat) ({ cls := "MangleLine", name := "fetch", desc := "(I)I" } : Jvm.MethodName)) ∈ mm_ws := mm_i2 (i := 232) rfl rfl
theorem mw_2_233 : (Jvm.Cond.instanceMethod ({ cls := "MangleLine", name := "fetch", desc := "(I)I" } : Jvm.MethodName)) ∈ mm_ws := mm_i2 (i := 233) rfl rfl
theorem mw_2_234 : (Jvm.Cond.selects "MangleLine" ({ cls := "MangleLine", name := "fetch", desc := "(I)I" } : Jvm.MethodName) ({ cls := "MangleLine", name := "fetch", desc := "(I)I" } : Jvm.MethodName)) ∈ mm_ws := mm_i2 (i := 234) rfl rfl
theorem mw_2_235 : (Jvm.Cond.code ({ cls := "MangleLine", name := "fetch", desc := "(I)I" } : Jvm.MethodName) prog_1_method_14_code (3 : Nat) (Option.some Jvm.ClassFile.FieldType.int)) ∈ mm_ws := mm_i2 (i := 235) rfl rfl
theorem mw_2_236 : (Jvm.Cond.methodLink "MangleLineLaw" (69 : Nat) ({ cls := "MangleLine", name := "days", desc := "(I)I" } : Jvm.MethodName)) ∈ mm_ws := mm_i2 (i := 236) rfl rfl
theorem mw_2_237 : (Jvm.Cond.instanceMethod ({ cls := "MangleLine", name := "days", desc := "(I)I" } : Jvm.MethodName)) ∈ mm_ws := mm_i2 (i := 237) rfl rfl
theorem mw_2_238 : (Jvm.Cond.selects "MangleLine" ({ cls := "MangleLine", name := "days", desc := "(I)I" } : Jvm.MethodName) ({ cls := "MangleLine", name := "days", desc := "(I)I" } : Jvm.MethodName)) ∈ mm_ws := mm_i2 (i := 238) rfl rfl
theorem mw_2_239 : (Jvm.Cond.code ({ cls := "MangleLine", name := "days", desc := "(I)I" } : Jvm.MethodName) prog_1_method_15_code (2 : Nat) (Option.some Jvm.ClassFile.FieldType.int)) ∈ mm_ws := mm_i2 (i := 239) rfl rfl
theorem mw_3_2 : (Jvm.Cond.instanceMethod ({ cls := "MangleLine$Laundry", name := "passDays", desc := "(I)I" } : Jvm.MethodName)) ∈ mm_ws := mm_i3 (i := 2) rfl rfl
theorem mw_3_3 : (Jvm.Cond.code ({ cls := "MangleLine$Laundry", name := "passDays", desc := "(I)I" } : Jvm.MethodName) prog_4_method_11_code (4 : Nat) (Option.some Jvm.ClassFile.FieldType.int)) ∈ mm_ws := mm_i3 (i := 3) rfl rfl
theorem mw_3_4 : (Jvm.Cond.methodLink "MangleLine$Laundry" (69 : Nat) ({ cls := "MangleLine$Laundry", name := "sunToday", desc := "()I" } : Jvm.MethodName)) ∈ mm_ws := mm_i3 (i := 4) rfl rfl
theorem mw_3_5 : (Jvm.Cond.methodLink "MangleLine$Laundry" (73 : Nat) ({ cls := "MangleLine$Laundry", name := "passDay", desc := "(I)I" } : Jvm.MethodName)) ∈ mm_ws := mm_i3 (i := 5) rfl rfl
theorem mw_3_7 : (Jvm.Cond.instanceMethod ({ cls := "MangleLine$Laundry", name := "passDay", desc := "(I)I" } : Jvm.MethodName)) ∈ mm_ws := mm_i3 (i := 7) rfl rfl
theorem mw_3_8 : (Jvm.Cond.code ({ cls := "MangleLine$Laundry", name := "passDay", desc := "(I)I" } : Jvm.MethodName) prog_4_method_14_code (3 : Nat) (Option.some Jvm.ClassFile.FieldType.int)) ∈ mm_ws := mm_i3 (i := 8) rfl rfl
theorem mw_3_9 : (Jvm.Cond.methodLink "MangleLine$Laundry" (81 : Nat) ({ cls := "MangleLine$Laundry", name := "boilBatch", desc := "()V" } : Jvm.MethodName)) ∈ mm_ws := mm_i3 (i := 9) rfl rfl
theorem mw_3_11 : (Jvm.Cond.instanceMethod ({ cls := "MangleLine$Laundry", name := "boilBatch", desc := "()V" } : Jvm.MethodName)) ∈ mm_ws := mm_i3 (i := 11) rfl rfl
theorem mw_3_12 : (Jvm.Cond.code ({ cls := "MangleLine$Laundry", name := "boilBatch", desc := "()V" } : Jvm.MethodName) prog_4_method_15_code (3 : Nat) (Option.none : Option Jvm.ClassFile.FieldType)) ∈ mm_ws := mm_i3 (i := 12) rfl rfl
theorem mw_3_13 : (Jvm.Cond.methodLink "MangleLine$Laundry" (87 : Nat) ({ cls := "MangleLine$Laundry", name := "whoIsAt", desc := "(I)I" } : Jvm.MethodName)) ∈ mm_ws := mm_i3 (i := 13) rfl rfl
theorem mw_3_14 : (Jvm.Cond.methodLink "MangleLine$Laundry" (90 : Nat) ({ cls := "java/lang/Integer", name := "bitCount", desc := "(I)I" } : Jvm.MethodName)) ∈ mm_ws := mm_i3 (i := 14) rfl rfl
theorem mw_3_15 : (Jvm.Cond.static ({ cls := "java/lang/Integer", name := "bitCount", desc := "(I)I" } : Jvm.MethodName)) ∈ mm_ws := mm_i3 (i := 15) rfl rfl
theorem mw_3_16 : (Jvm.Cond.code ({ cls := "java/lang/Integer", name := "bitCount", desc := "(I)I" } : Jvm.MethodName) prog_11_method_49_code (1 : Nat) (Option.some Jvm.ClassFile.FieldType.int)) ∈ mm_ws := mm_i3 (i := 16) rfl rfl
theorem mw_3_17 : (Jvm.Cond.constant "java/lang/Integer" (265 : Nat) (1431655765 : Int32)) ∈ mm_ws := mm_i3 (i := 17) rfl rfl
theorem mw_3_18 : (Jvm.Cond.constant "java/lang/Integer" (266 : Nat) (858993459 : Int32)) ∈ mm_ws := mm_i3 (i := 18) rfl rfl
theorem mw_3_19 : (Jvm.Cond.constant "java/lang/Integer" (267 : Nat) (252645135 : Int32)) ∈ mm_ws := mm_i3 (i := 19) rfl rfl
theorem mw_3_20 : (Jvm.Cond.methodLink "MangleLine$Laundry" (98 : Nat) ({ cls := "MangleLine$Laundry", name := "scrubs", desc := "(I)I" } : Jvm.MethodName)) ∈ mm_ws := mm_i3 (i := 20) rfl rfl
theorem mw_3_21 : (Jvm.Cond.methodLink "MangleLine$Laundry" (101 : Nat) ({ cls := "java/lang/Math", name := "max", desc := "(II)I" } : Jvm.MethodName)) ∈ mm_ws := mm_i3 (i := 21) rfl rfl
theorem mw_3_22 : (Jvm.Cond.static ({ cls := "java/lang/Math", name := "max", desc := "(II)I" } : Jvm.MethodName)) ∈ mm_ws := mm_i3 (i := 22) rfl rfl
theorem mw_3_23 : (Jvm.Cond.code ({ cls := "java/lang/Math", name := "max", desc := "(II)I" } : Jvm.MethodName) prog_12_method_65_code (2 : Nat) (Option.some Jvm.ClassFile.FieldType.int)) ∈ mm_ws := mm_i3 (i := 23) rfl rfl
theorem mw_3_24 : (Jvm.Cond.methodLink "MangleLine$Laundry" (84 : Nat) ({ cls := "MangleLine$Laundry", name := "dryLine", desc := "(I)I" } : Jvm.MethodName)) ∈ mm_ws := mm_i3 (i := 24) rfl rfl
theorem mw_3_26 : (Jvm.Cond.instanceMethod ({ cls := "MangleLine$Laundry", name := "dryLine", desc := "(I)I" } : Jvm.MethodName)) ∈ mm_ws := mm_i3 (i := 26) rfl rfl
theorem mw_3_27 : (Jvm.Cond.code ({ cls := "MangleLine$Laundry", name := "dryLine", desc := "(I)I" } : Jvm.MethodName) prog_4_method_16_code (6 : Nat) (Option.some Jvm.ClassFile.FieldType.int)) ∈ mm_ws := mm_i3 (i := 27) rfl rfl
theorem mw_3_28 : (Jvm.Cond.methodLink "MangleLine$Laundry" (104 : Nat) ({ cls := "MangleLine$Laundry", name := "dries", desc := "(II)I" } : Jvm.MethodName)) ∈ mm_ws := mm_i3 (i := 28) rfl rfl
theorem mw_3_29 : (Jvm.Cond.methodLink "MangleLineLaw" (73 : Nat) ({ cls := "MangleLine", name := "runs", desc := "(II)I" } : Jvm.MethodName)) ∈ mm_ws := mm_i3 (i := 29) rfl rfl
theorem mw_3_30 : (Jvm.Cond.instanceMethod ({ cls := "MangleLine", name := "runs", desc := "(II)I" } : Jvm.MethodName)) ∈ mm_ws := mm_i3 (i := 30) rfl rfl
theorem mw_3_31 : (Jvm.Cond.selects "MangleLine" ({ cls := "MangleLine", name := "runs", desc := "(II)I" } : Jvm.MethodName) ({ cls := "MangleLine", name := "runs", desc := "(II)I" } : Jvm.MethodName)) ∈ mm_ws := mm_i3 (i := 31) rfl rfl
theorem mw_3_32 : (Jvm.Cond.code ({ cls := "MangleLine", name := "runs", desc := "(II)I" } : Jvm.MethodName) prog_1_method_16_code (6 : Nat) (Option.some Jvm.ClassFile.FieldType.int)) ∈ mm_ws := mm_i3 (i := 32) rfl rfl
theorem mw_3_34 : (Jvm.Cond.methodLink "MangleLine" (169 : Nat) ({ cls := "java/lang/Integer", name := "bitCount", desc := "(I)I" } : Jvm.MethodName)) ∈ mm_ws := mm_i3 (i := 34) rfl rfl
theorem mw_3_35 : (Jvm.Cond.methodLink "MangleLineLaw" (77 : Nat) ({ cls := "MangleLine", name := "ahead", desc := "(III)I" } : Jvm.MethodName)) ∈ mm_ws := mm_i3 (i := 35) rfl rfl
theorem mw_3_36 : (Jvm.Cond.instanceMethod ({ cls := "MangleLine", name := "ahead", desc := "(III)I" } : Jvm.MethodName)) ∈ mm_ws := mm_i3 (i := 36) rfl rfl
theorem mw_3_37 : (Jvm.Cond.selects "MangleLine" ({ cls := "MangleLine", name := "ahead", desc := "(III)I" } : Jvm.MethodName) ({ cls := "MangleLine", name := "ahead", desc := "(III)I" } : Jvm.MethodName)) ∈ mm_ws := mm_i3 (i := 37) rfl rfl
theorem mw_3_38 : (Jvm.Cond.code ({ cls := "MangleLine", name := "ahead", desc := "(III)I" } : Jvm.MethodName) prog_1_method_17_code (4 : Nat) (Option.some Jvm.ClassFile.FieldType.int)) ∈ mm_ws := mm_i3 (i := 38) rfl rfl
theorem mw_3_39 : (Jvm.Cond.methodLink "MangleLineLaw" (81 : Nat) ({ cls := "MangleLine", name := "home", desc := "(I)I" } : Jvm.MethodName)) ∈ mm_ws := mm_i3 (i := 39) rfl rfl
theorem mw_3_40 : (Jvm.Cond.instanceMethod ({ cls := "MangleLine", name := "home", desc := "(I)I" } : Jvm.MethodName)) ∈ mm_ws := mm_i3 (i := 40) rfl rfl
theorem mw_3_41 : (Jvm.Cond.selects "MangleLine" ({ cls := "MangleLine", name := "home", desc := "(I)I" } : Jvm.MethodName) ({ cls := "MangleLine", name := "home", desc := "(I)I" } : Jvm.MethodName)) ∈ mm_ws := mm_i3 (i := 41) rfl rfl
theorem mw_3_42 : (Jvm.Cond.code ({ cls := "MangleLine", name := "home", desc := "(I)I" } : Jvm.MethodName) prog_1_method_18_code (2 : Nat) (Option.some Jvm.ClassFile.FieldType.int)) ∈ mm_ws := mm_i3 (i := 42) rfl rfl
theorem mw_3_45 : (Jvm.Cond.instanceMethod ({ cls := "MangleLine$Laundry", name := "daysTillHome", desc := "(II)I" } : Jvm.MethodName)) ∈ mm_ws := mm_i3 (i := 45) rfl rfl
theorem mw_3_46 : (Jvm.Cond.code ({ cls := "MangleLine$Laundry", name := "daysTillHome", desc := "(II)I" } : Jvm.MethodName) prog_4_method_12_code (4 : Nat) (Option.some Jvm.ClassFile.FieldType.int)) ∈ mm_ws := mm_i3 (i := 46) rfl rfl
theorem mw_3_47 : (Jvm.Cond.methodLink "MangleLine" (177 : Nat) ({ cls := "MangleLine", name := "orNone", desc := "(I)I" } : Jvm.MethodName)) ∈ mm_ws := mm_i3 (i := 47) rfl rfl
theorem mw_3_48 : (Jvm.Cond.static ({ cls := "MangleLine", name := "orNone", desc := "(I)I" } : Jvm.MethodName)) ∈ mm_ws := mm_i3 (i := 48) rfl rfl
theorem mw_3_49 : (Jvm.Cond.code ({ cls := "MangleLine", name := "orNone", desc := "(I)I" } : Jvm.MethodName) prog_1_method_51_code (1 : Nat) (Option.some Jvm.ClassFile.FieldType.int)) ∈ mm_ws := mm_i3 (i := 49) rfl rfl
theorem mw_3_50 : (Jvm.Cond.methodLink "MangleLineLaw" (85 : Nat) ({ cls := "MangleLine", name := "done", desc := "()I" } : Jvm.MethodName)) ∈ mm_ws := mm_i3 (i := 50) rfl rfl
theorem mw_3_51 : (Jvm.Cond.instanceMethod ({ cls := "MangleLine", name := "done", desc := "()I" } : Jvm.MethodName)) ∈ mm_ws := mm_i3 (i := 51) rfl rfl
theorem mw_3_52 : (Jvm.Cond.selects "MangleLine" ({ cls := "MangleLine", name := "done", desc := "()I" } : Jvm.MethodName) ({ cls := "MangleLine", name := "done", desc := "()I" } : Jvm.MethodName)) ∈ mm_ws := mm_i3 (i := 52) rfl rfl
theorem mw_3_53 : (Jvm.Cond.code ({ cls := "MangleLine", name := "done", desc := "()I" } : Jvm.MethodName) prog_1_method_19_code (1 : Nat) (Option.some Jvm.ClassFile.FieldType.int)) ∈ mm_ws := mm_i3 (i := 53) rfl rfl
theorem mw_3_54 : (Jvm.Cond.methodLink "MangleLine" (180 : Nat) ({ cls := "MangleLine", name := "daysAsItIs", desc := "()I" } : Jvm.MethodName)) ∈ mm_ws := mm_i3 (i := 54) rfl rfl
theorem mw_3_56 : (Jvm.Cond.instanceMethod ({ cls := "MangleLine", name := "daysAsItIs", desc := "()I" } : Jvm.MethodName)) ∈ mm_ws := mm_i3 (i := 56) rfl rfl
theorem mw_3_57 : (Jvm.Cond.code ({ cls := "MangleLine", name := "daysAsItIs", desc := "()I" } : Jvm.MethodName) prog_1_method_50_code (1 : Nat) (Option.some Jvm.ClassFile.FieldType.int)) ∈ mm_ws := mm_i3 (i := 57) rfl rfl
theorem mw_3_60 : (Jvm.Cond.instanceMethod ({ cls := "MangleLine$Laundry", name := "daysTillDone", desc := "(I)I" } : Jvm.MethodName)) ∈ mm_ws := mm_i3 (i := 60) rfl rfl
theorem mw_3_61 : (Jvm.Cond.code ({ cls := "MangleLine$Laundry", name := "daysTillDone", desc := "(I)I" } : Jvm.MethodName) prog_4_method_13_code (3 : Nat) (Option.some Jvm.ClassFile.FieldType.int)) ∈ mm_ws := mm_i3 (i := 61) rfl rfl
theorem mw_3_62 : (Jvm.Cond.methodLink "MangleLine$Laundry" (77 : Nat) ({ cls := "MangleLine$Laundry", name := "allAreHome", desc := "()Z" } : Jvm.MethodName)) ∈ mm_ws := mm_i3 (i := 62) rfl rfl
theorem mw_3_64 : (Jvm.Cond.instanceMethod ({ cls := "MangleLine$Laundry", name := "allAreHome", desc := "()Z" } : Jvm.MethodName)) ∈ mm_ws := mm_i3 (i := 64) rfl rfl
theorem mw_3_65 : (Jvm.Cond.code ({ cls := "MangleLine$Laundry", name := "allAreHome", desc := "()Z" } : Jvm.MethodName) prog_4_method_18_code (2 : Nat) (Option.some Jvm.ClassFile.FieldType.boolean)) ∈ mm_ws := mm_i3 (i := 65) rfl rfl
theorem mw_3_66 : (Jvm.Cond.methodLink "MangleLineLaw" (89 : Nat) ({ cls := "MangleLine", name := "blue", desc := "(I)I" } : Jvm.MethodName)) ∈ mm_ws := mm_i3 (i := 66) rfl rfl
theorem mw_3_67 : (Jvm.Cond.instanceMethod ({ cls := "MangleLine", name := "blue", desc := "(I)I" } : Jvm.MethodName)) ∈ mm_ws := mm_i3 (i := 67) rfl rfl
theorem mw_3_68 : (Jvm.Cond.selects "MangleLine" ({ cls := "MangleLine", name := "blue", desc := "(I)I" } : Jvm.MethodName) ({ cls := "MangleLine", name := "blue", desc := "(I)I" } : Jvm.MethodName)) ∈ mm_ws := mm_i3 (i := 68) rfl rfl
theorem mw_3_69 : (Jvm.Cond.code ({ cls := "MangleLine", name := "blue", desc := "(I)I" } : Jvm.MethodName) prog_1_method_20_code (2 : Nat) (Option.some Jvm.ClassFile.FieldType.int)) ∈ mm_ws := mm_i3 (i := 69) rfl rfl
theorem mw_3_70 : (Jvm.Cond.methodLink "MangleLine" (183 : Nat) ({ cls := "MangleLine", name := "leastOfRule", desc := "(II)I" } : Jvm.MethodName)) ∈ mm_ws := mm_i3 (i := 70) rfl rfl
theorem mw_3_72 : (Jvm.Cond.instanceMethod ({ cls := "MangleLine", name := "leastOfRule", desc := "(II)I" } : Jvm.MethodName)) ∈ mm_ws := mm_i3 (i := 72) rfl rfl
theorem mw_3_73 : (Jvm.Cond.code ({ cls := "MangleLine", name := "leastOfRule", desc := "(II)I" } : Jvm.MethodName) prog_1_method_52_code (4 : Nat) (Option.some Jvm.ClassFile.FieldType.int)) ∈ mm_ws := mm_i3 (i := 73) rfl rfl
theorem mw_3_74 : (Jvm.Cond.methodLink "MangleLineLaw" (93 : Nat) ({ cls := "MangleLine", name := "pegs", desc := "(I)I" } : Jvm.MethodName)) ∈ mm_ws := mm_i3 (i := 74) rfl rfl
theorem mw_3_75 : (Jvm.Cond.instanceMethod ({ cls := "MangleLine", name := "pegs", desc := "(I)I" } : Jvm.MethodName)) ∈ mm_ws := mm_i3 (i := 75) rfl rfl
theorem mw_3_76 : (Jvm.Cond.selects "MangleLine" ({ cls := "MangleLine", name := "pegs", desc := "(I)I" } : Jvm.MethodName) ({ cls := "MangleLine", name := "pegs", desc := "(I)I" } : Jvm.MethodName)) ∈ mm_ws := mm_i3 (i := 76) rfl rfl
theorem mw_3_77 : (Jvm.Cond.code ({ cls := "MangleLine", name := "pegs", desc := "(I)I" } : Jvm.MethodName) prog_1_method_21_code (2 : Nat) (Option.some Jvm.ClassFile.FieldType.int)) ∈ mm_ws := mm_i3 (i := 77) rfl rfl
theorem mw_3_78 : (Jvm.Cond.methodLink "MangleLineLaw" (97 : Nat) ({ cls := "MangleLine", name := "batch", desc := "(I)I" } : Jvm.MethodName)) ∈ mm_ws := mm_i3 (i := 78) rfl rfl
theorem mw_3_79 : (Jvm.Cond.instanceMethod ({ cls := "MangleLine", name := "batch", desc := "(I)I" } : Jvm.MethodName)) ∈ mm_ws := mm_i3 (i := 79) rfl rfl
theorem mw_3_80 : (Jvm.Cond.selects "MangleLine" ({ cls := "MangleLine", name := "batch", desc := "(I)I" } : Jvm.MethodName) ({ cls := "MangleLine", name := "batch", desc := "(I)I" } : Jvm.MethodName)) ∈ mm_ws := mm_i3 (i := 80) rfl rfl
theorem mw_3_81 : (Jvm.Cond.code ({ cls := "MangleLine", name := "batch", desc := "(I)I" } : Jvm.MethodName) prog_1_method_22_code (3 : Nat) (Option.some Jvm.ClassFile.FieldType.int)) ∈ mm_ws := mm_i3 (i := 81) rfl rfl
theorem mw_3_82 : (Jvm.Cond.methodLink "MangleLine" (186 : Nat) ({ cls := "MangleLine", name := "isHalf", desc := "(I)Z" } : Jvm.MethodName)) ∈ mm_ws := mm_i3 (i := 82) rfl rfl
theorem mw_3_83 : (Jvm.Cond.static ({ cls := "MangleLine", name := "isHalf", desc := "(I)Z" } : Jvm.MethodName)) ∈ mm_ws := mm_i3 (i := 83) rfl rfl
theorem mw_3_84 : (Jvm.Cond.code ({ cls := "MangleLine", name := "isHalf", desc := "(I)Z" } : Jvm.MethodName) prog_1_method_43_code (1 : Nat) (Option.some Jvm.ClassFile.FieldType.boolean)) ∈ mm_ws := mm_i3 (i := 84) rfl rfl
theorem mw_3_87 : (Jvm.Cond.instanceMethod ({ cls := "MangleLine$Choice", name := "begin", desc := "(I)V" } : Jvm.MethodName)) ∈ mm_ws := mm_i3 (i := 87) rfl rfl
theorem mw_3_88 : (Jvm.Cond.code ({ cls := "MangleLine$Choice", name := "begin", desc := "(I)V" } : Jvm.MethodName) prog_2_method_2_code (2 : Nat) (Option.none : Option Jvm.ClassFile.FieldType)) ∈ mm_ws := mm_i3 (i := 88) rfl rfl
theorem mw_3_91 : (Jvm.Cond.instanceMethod ({ cls := "MangleLine$Choice", name := "offer", desc := "(II)V" } : Jvm.MethodName)) ∈ mm_ws := mm_i3 (i := 91) rfl rfl
theorem mw_3_92 : (Jvm.Cond.code ({ cls := "MangleLine$Choice", name := "offer", desc := "(II)V" } : Jvm.MethodName) prog_2_method_3_code (3 : Nat) (Option.none : Option Jvm.ClassFile.FieldType)) ∈ mm_ws := mm_i3 (i := 92) rfl rfl
theorem mw_3_95 : (Jvm.Cond.instanceMethod ({ cls := "MangleLine$Choice", name := "tell", desc := "(I)I" } : Jvm.MethodName)) ∈ mm_ws := mm_i3 (i := 95) rfl rfl
theorem mw_3_96 : (Jvm.Cond.code ({ cls := "MangleLine$Choice", name := "tell", desc := "(I)I" } : Jvm.MethodName) prog_2_method_4_code (2 : Nat) (Option.some Jvm.ClassFile.FieldType.int)) ∈ mm_ws := mm_i3 (i := 96) rfl rfl
theorem mw_3_97 : (Jvm.Cond.methodLink "MangleLineLaw" (101 : Nat) ({ cls := "MangleLine", name := "swap", desc := "(I)I" } : Jvm.MethodName)) ∈ mm_ws := mm_i3 (i := 97) rfl rfl
theorem mw_3_98 : (Jvm.Cond.instanceMethod ({ cls := "MangleLine", name := "swap", desc := "(I)I" } : Jvm.MethodName)) ∈ mm_ws := mm_i3 (i := 98) rfl rfl
theorem mw_3_99 : (Jvm.Cond.selects "MangleLine" ({ cls := "MangleLine", name := "swap", desc := "(I)I" } : Jvm.MethodName) ({ cls := "MangleLine", name := "swap", desc := "(I)I" } : Jvm.MethodName)) ∈ mm_ws := mm_i3 (i := 99) rfl rfl
theorem mw_3_100 : (Jvm.Cond.code ({ cls := "MangleLine", name := "swap", desc := "(I)I" } : Jvm.MethodName) prog_1_method_23_code (4 : Nat) (Option.some Jvm.ClassFile.FieldType.int)) ∈ mm_ws := mm_i3 (i := 100) rfl rfl
theorem mw_3_103 : (Jvm.Cond.instanceMethod ({ cls := "MangleLine$Laundry", name := "exchange", desc := "(II)V" } : Jvm.MethodName)) ∈ mm_ws := mm_i3 (i := 103) rfl rfl
theorem mw_3_104 : (Jvm.Cond.code ({ cls := "MangleLine$Laundry", name := "exchange", desc := "(II)V" } : Jvm.MethodName) prog_4_method_5_code (3 : Nat) (Option.none : Option Jvm.ClassFile.FieldType)) ∈ mm_ws := mm_i3 (i := 104) rfl rfl
theorem mw_3_105 : (Jvm.Cond.methodLink "MangleLine$Laundry" (59 : Nat) ({ cls := "MangleLine$Laundry", name := "exchangeIn", desc := "([III)V" } : Jvm.MethodName)) ∈ mm_ws := mm_i3 (i := 105) rfl rfl
theorem mw_3_106 : (Jvm.Cond.static ({ cls := "MangleLine$Laundry", name := "exchangeIn", desc := "([III)V" } : Jvm.MethodName)) ∈ mm_ws := mm_i3 (i := 106) rfl rfl
theorem mw_3_107 : (Jvm.Cond.code ({ cls := "MangleLine$Laundry", name := "exchangeIn", desc := "([III)V" } : Jvm.MethodName) prog_4_method_6_code (4 : Nat) (Option.none : Option Jvm.ClassFile.FieldType)) ∈ mm_ws := mm_i3 (i := 107) rfl rfl
theorem mw_3_108 : (Jvm.Cond.methodLink "MangleLineLaw" (105 : Nat) ({ cls := "MangleLine", name := "fair", desc := "(I)I" } : Jvm.MethodName)) ∈ mm_ws := mm_i3 (i := 108) rfl rfl
theorem mw_3_109 : (Jvm.Cond.instanceMethod ({ cls := "MangleLine", name := "fair", desc := "(I)I" } : Jvm.MethodName)) ∈ mm_ws := mm_i3 (i := 109) rfl rfl
theorem mw_3_110 : (Jvm.Cond.selects "MangleLine" ({ cls := "MangleLine", name := "fair", desc := "(I)I" } : Jvm.MethodName) ({ cls := "MangleLine", name := "fair", desc := "(I)I" } : Jvm.MethodName)) ∈ mm_ws := mm_i3 (i := 110) rfl rfl
theorem mw_3_111 : (Jvm.Cond.code ({ cls := "MangleLine", name := "fair", desc := "(I)I" } : Jvm.MethodName) prog_1_method_24_code (3 : Nat) (Option.some Jvm.ClassFile.FieldType.int)) ∈ mm_ws := mm_i3 (i := 111) rfl rfl
theorem mw_3_112 : (Jvm.Cond.methodLink "MangleLineLaw" (109 : Nat) ({ cls := "MangleLine", name := "stain", desc := "(II)I" } : Jvm.MethodName)) ∈ mm_ws := mm_i3 (i := 112) rfl rfl
theorem mw_3_113 : (Jvm.Cond.instanceMethod ({ cls := "MangleLine", name := "stain", desc := "(II)I" } : Jvm.MethodName)) ∈ mm_ws := mm_i3 (i := 113) rfl rfl
theorem mw_3_114 : (Jvm.Cond.selects "MangleLine" ({ cls := "MangleLine", name := "stain", desc := "(II)I" } : Jvm.MethodName) ({ cls := "MangleLine", name := "stain", desc := "(II)I" } : Jvm.MethodName)) ∈ mm_ws := mm_i3 (i := 114) rfl rfl
theorem mw_3_115 : (Jvm.Cond.code ({ cls := "MangleLine", name := "stain", desc := "(II)I" } : Jvm.MethodName) prog_1_method_25_code (4 : Nat) (Option.some Jvm.ClassFile.FieldType.int)) ∈ mm_ws := mm_i3 (i := 115) rfl rfl
theorem mw_3_116 : (Jvm.Cond.methodLink "MangleLineLaw" (113 : Nat) ({ cls := "MangleLine", name := "kind", desc := "(II)I" } : Jvm.MethodName)) ∈ mm_ws := mm_i3 (i := 116) rfl rfl
theorem mw_3_117 : (Jvm.Cond.instanceMethod ({ cls := "MangleLine", name := "kind", desc := "(II)I" } : Jvm.MethodName)) ∈ mm_ws := mm_i3 (i := 117) rfl rfl
theorem mw_3_118 : (Jvm.Cond.selects "MangleLine" ({ cls := "MangleLine", name := "kind", desc := "(II)I" } : Jvm.MethodName) ({ cls := "MangleLine", name := "kind", desc := "(II)I" } : Jvm.MethodName)) ∈ mm_ws := mm_i3 (i := 118) rfl rfl
theorem mw_3_119 : (Jvm.Cond.code ({ cls := "MangleLine", name := "kind", desc := "(II)I" } : Jvm.MethodName) prog_1_method_26_code (4 : Nat) (Option.some Jvm.ClassFile.FieldType.int)) ∈ mm_ws := mm_i3 (i := 119) rfl rfl
theorem mw_3_120 : (Jvm.Cond.methodLink "MangleLineLaw" (117 : Nat) ({ cls := "MangleLine", name := "luck", desc := "(IIII)J" } : Jvm.MethodName)) ∈ mm_ws := mm_i3 (i := 120) rfl rfl
theorem mw_3_121 : (Jvm.Cond.instanceMethod ({ cls := "MangleLine", name := "luck", desc := "(IIII)J" } : Jvm.MethodName)) ∈ mm_ws := mm_i3 (i := 121) rfl rfl
theorem mw_3_122 : (Jvm.Cond.selects "MangleLine" ({ cls := "MangleLine", name := "luck", desc := "(IIII)J" } : Jvm.MethodName) ({ cls := "MangleLine", name := "luck", desc := "(IIII)J" } : Jvm.MethodName)) ∈ mm_ws := mm_i3 (i := 122) rfl rfl
theorem mw_3_123 : (Jvm.Cond.code ({ cls := "MangleLine", name := "luck", desc := "(IIII)J" } : Jvm.MethodName) prog_1_method_27_code (5 : Nat) (Option.some Jvm.ClassFile.FieldType.long)) ∈ mm_ws := mm_i3 (i := 123) rfl rfl
theorem mw_3_124 : (Jvm.Cond.constantLong "MangleLine" (205 : Nat) (-1 : Int64)) ∈ mm_ws := mm_i3 (i := 124) rfl rfl
theorem mw_3_125 : (Jvm.Cond.methodLink "MangleLine" (207 : Nat) ({ cls := "MangleLine", name := "rainFraction", desc := "(IIII)J" } : Jvm.MethodName)) ∈ mm_ws := mm_i3 (i := 125) rfl rfl
theorem mw_3_127 : (Jvm.Cond.instanceMethod ({ cls := "MangleLine", name := "rainFraction", desc := "(IIII)J" } : Jvm.MethodName)) ∈ mm_ws := mm_i3 (i := 127) rfl rfl
theorem mw_3_128 : (Jvm.Cond.code ({ cls := "MangleLine", name := "rainFraction", desc := "(IIII)J" } : Jvm.MethodName) prog_1_method_53_code (10 : Nat) (Option.some Jvm.ClassFile.FieldType.long)) ∈ mm_ws := mm_i3 (i := 128) rfl rfl
theorem mw_3_129 : (Jvm.Cond.methodLink "MangleLine" (281 : Nat) ({ cls := "MangleLine", name := "weigh", desc := "(IIII)J" } : Jvm.MethodName)) ∈ mm_ws := mm_i3 (i := 129) rfl rfl
theorem mw_3_131 : (Jvm.Cond.instanceMethod ({ cls := "MangleLine", name := "weigh", desc := "(IIII)J" } : Jvm.MethodName)) ∈ mm_ws := mm_i3 (i := 131) rfl rfl
theorem mw_3_132 : (Jvm.Cond.code ({ cls := "MangleLine", name := "weigh", desc := "(IIII)J" } : Jvm.MethodName) prog_1_method_54_code (7 : Nat) (Option.some Jvm.ClassFile.FieldType.long)) ∈ mm_ws := mm_i3 (i := 132) rfl rfl
theorem mw_3_133 : (Jvm.Cond.methodLink "MangleLine" (290 : Nat) ({ cls := "MangleLine", name := "worth", desc := "(LMangleLine$Laundry;I)J" } : Jvm.MethodName)) ∈ mm_ws := mm_i3 (i := 133) rfl rfl
theorem mw_3_134 : (Jvm.Cond.static ({ cls := "MangleLine", name := "worth", desc := "(LMangleLine$Laundry;I)J" } : Jvm.MethodName)) ∈ mm_ws := mm_i3 (i := 134) rfl rfl
theorem mw_3_135 : (Jvm.Cond.code ({ cls := "MangleLine", name := "worth", desc := "(LMangleLine$Laundry;I)J" } : Jvm.MethodName) prog_1_method_56_code (2 : Nat) (Option.some Jvm.ClassFile.FieldType.long)) ∈ mm_ws := mm_i3 (i := 135) rfl rfl
theorem mw_3_136 : (Jvm.Cond.methodLink "MangleLine" (294 : Nat) ({ cls := "MangleLine", name := "weighUnder", desc := "(IIIII)J" } : Jvm.MethodName)) ∈ mm_ws := mm_i3 (i := 136) rfl rfl
theorem mw_3_138 : (Jvm.Cond.instanceMethod ({ cls := "MangleLine", name := "weighUnder", desc := "(IIIII)J" } : Jvm.MethodName)) ∈ mm_ws := mm_i3 (i := 138) rfl rfl
theorem mw_3_139 : (Jvm.Cond.code ({ cls := "MangleLine", name := "weighUnder", desc := "(IIIII)J" } : Jvm.MethodName) prog_1_method_55_code (7 : Nat) (Option.some Jvm.ClassFile.FieldType.long)) ∈ mm_ws := mm_i3 (i := 139) rfl rfl
theorem mw_3_140 : (Jvm.Cond.constantLong "MangleLine" (284 : Nat) (10 : Int64)) ∈ mm_ws := mm_i3 (i := 140) rfl rfl
theorem mw_3_141 : (Jvm.Cond.methodLink "MangleLine" (286 : Nat) ({ cls := "MangleLine", name := "inLowestTerms", desc := "(JJII)J" } : Jvm.MethodName)) ∈ mm_ws := mm_i3 (i := 141) rfl rfl
theorem mw_3_142 : (Jvm.Cond.static ({ cls := "MangleLine", name := "inLowestTerms", desc := "(JJII)J" } : Jvm.MethodName)) ∈ mm_ws := mm_i3 (i := 142) rfl rfl
theorem mw_3_143 : (Jvm.Cond.code ({ cls := "MangleLine", name := "inLowestTerms", desc := "(JJII)J" } : Jvm.MethodName) prog_1_method_57_code (7 : Nat) (Option.some Jvm.ClassFile.FieldType.long)) ∈ mm_ws := mm_i3 (i := 143) rfl rfl
theorem mw_3_144 : (Jvm.Cond.constantLong "MangleLine" (298 : Nat) (2 : Int64)) ∈ mm_ws := mm_i3 (i := 144) rfl rfl
theorem mw_3_145 : (Jvm.Cond.constantLong "MangleLine" (300 : Nat) (5 : Int64)) ∈ mm_ws := mm_i3 (i := 145) rfl rfl
theorem mw_3_146 : (Jvm.Cond.methodLink "MangleLineLaw" (122 : Nat) ({ cls := "MangleLine", name := "mean", desc := "(III)J" } : Jvm.MethodName)) ∈ mm_ws := mm_i3 (i := 146) rfl rfl
theorem mw_3_147 : (Jvm.Cond.instanceMethod ({ cls := "MangleLine", name := "mean", desc := "(III)J" } : Jvm.MethodName)) ∈ mm_ws := mm_i3 (i := 147) rfl rfl
theorem mw_3_148 : (Jvm.Cond.selects "MangleLine" ({ cls := "MangleLine", name := "mean", desc := "(III)J" } : Jvm.MethodName) ({ cls := "MangleLine", name := "mean", desc := "(III)J" } : Jvm.MethodName)) ∈ mm_ws := mm_i3 (i := 148) rfl rfl
theorem mw_3_149 : (Jvm.Cond.code ({ cls := "MangleLine", name := "mean", desc := "(III)J" } : Jvm.MethodName) prog_1_method_28_code (4 : Nat) (Option.some Jvm.ClassFile.FieldType.long)) ∈ mm_ws := mm_i3 (i := 149) rfl rfl
theorem mw_3_150 : (Jvm.Cond.methodLink "MangleLineLaw" (127 : Nat) ({ cls := "MangleLine", name := "see", desc := "(III)I" } : Jvm.MethodName)) ∈ mm_ws := mm_i3 (i := 150) rfl rfl
theorem mw_3_151 : (Jvm.Cond.instanceMethod ({ cls := "MangleLine", name := "see", desc := "(III)I" } : Jvm.MethodName)) ∈ mm_ws := mm_i3 (i := 151) rfl rfl
theorem mw_3_152 : (Jvm.Cond.selects "MangleLine" ({ cls := "MangleLine", name := "see", desc := "(III)I" } : Jvm.MethodName) ({ cls := "MangleLine", name := "see", desc := "(III)I" } : Jvm.MethodName)) ∈ mm_ws := mm_i3 (i := 152) rfl rfl
theorem mw_3_153 : (Jvm.Cond.code ({ cls := "MangleLine", name := "see", desc := "(III)I" } : Jvm.MethodName) prog_1_method_29_code (4 : Nat) (Option.some Jvm.ClassFile.FieldType.int)) ∈ mm_ws := mm_i3 (i := 153) rfl rfl
theorem mw_3_156 : (Jvm.Cond.instanceMethod ({ cls := "MangleLine$Sightings", name := "note", desc := "(III)Z" } : Jvm.MethodName)) ∈ mm_ws := mm_i3 (i := 156) rfl rfl
theorem mw_3_157 : (Jvm.Cond.code ({ cls := "MangleLine$Sightings", name := "note", desc := "(III)Z" } : Jvm.MethodName) prog_7_method_2_code (4 : Nat) (Option.some Jvm.ClassFile.FieldType.boolean)) ∈ mm_ws := mm_i3 (i := 157) rfl rfl
theorem mw_3_158 : (Jvm.Cond.methodLink "MangleLineLaw" (131 : Nat) ({ cls := "MangleLine", name := "forget", desc := "(I)I" } : Jvm.MethodName)) ∈ mm_ws := mm_i3 (i := 158) rfl rfl
theorem mw_3_159 : (Jvm.Cond.instanceMethod ({ cls := "MangleLine", name := "forget", desc := "(I)I" } : Jvm.MethodName)) ∈ mm_ws := mm_i3 (i := 159) rfl rfl
theorem mw_3_160 : (Jvm.Cond.selects "MangleLine" ({ cls := "MangleLine", name := "forget", desc := "(I)I" } : Jvm.MethodName) ({ cls := "MangleLine", name := "forget", desc := "(I)I" } : Jvm.MethodName)) ∈ mm_ws := mm_i3 (i := 160) rfl rfl
theorem mw_3_161 : (Jvm.Cond.code ({ cls := "MangleLine", name := "forget", desc := "(I)I" } : Jvm.MethodName) prog_1_method_30_code (3 : Nat) (Option.some Jvm.ClassFile.FieldType.int)) ∈ mm_ws := mm_i3 (i := 161) rfl rfl
theorem mw_3_162 : (Jvm.Cond.methodLink "MangleLineLaw" (135 : Nat) ({ cls := "MangleLine", name := "kinds", desc := "(I)I" } : Jvm.MethodName)) ∈ mm_ws := mm_i3 (i := 162) rfl rfl
theorem mw_3_163 : (Jvm.Cond.instanceMethod ({ cls := "MangleLine", name := "kinds", desc := "(I)I" } : Jvm.MethodName)) ∈ mm_ws := mm_i3 (i := 163) rfl rfl
theorem mw_3_164 : (Jvm.Cond.selects "MangleLine" ({ cls := "MangleLine", name := "kinds", desc := "(I)I" } : Jvm.MethodName) ({ cls := "MangleLine", name := "kinds", desc := "(I)I" } : Jvm.MethodName)) ∈ mm_ws := mm_i3 (i := 164) rfl rfl
theorem mw_3_165 : (Jvm.Cond.code ({ cls := "MangleLine", name := "kinds", desc := "(I)I" } : Jvm.MethodName) prog_1_method_31_code (4 : Nat) (Option.some Jvm.ClassFile.FieldType.int)) ∈ mm_ws := mm_i3 (i := 165) rfl rfl
theorem mw_3_168 : (Jvm.Cond.instanceMethod ({ cls := "MangleLine$Sightings", name := "agreeWith", desc := "(LMangleLine$Laundry;)Z" } : Jvm.MethodName)) ∈ mm_ws := mm_i3 (i := 168) rfl rfl
theorem mw_3_169 : (Jvm.Cond.code ({ cls := "MangleLine$Sightings", name := "agreeWith", desc := "(LMangleLine$Laundry;)Z" } : Jvm.MethodName) prog_7_method_4_code (4 : Nat) (Option.some Jvm.ClassFile.FieldType.boolean)) ∈ mm_ws := mm_i3 (i := 169) rfl rfl
theorem mw_3_170 : (Jvm.Cond.methodLink "MangleLine$Sightings" (31 : Nat) ({ cls := "MangleLine$Sightings", name := "lastLook", desc := "()I" } : Jvm.MethodName)) ∈ mm_ws := mm_i3 (i := 170) rfl rfl
theorem mw_3_172 : (Jvm.Cond.instanceMethod ({ cls := "MangleLine$Sightings", name := "lastLook", desc := "()I" } : Jvm.MethodName)) ∈ mm_ws := mm_i3 (i := 172) rfl rfl
theorem mw_3_173 : (Jvm.Cond.code ({ cls := "MangleLine$Sightings", name := "lastLook", desc := "()I" } : Jvm.MethodName) prog_7_method_5_code (3 : Nat) (Option.some Jvm.ClassFile.FieldType.int)) ∈ mm_ws := mm_i3 (i := 173) rfl rfl
theorem mw_3_174 : (Jvm.Cond.methodLink "MangleLine$Sightings" (48 : Nat) ({ cls := "java/lang/Math", name := "max", desc := "(II)I" } : Jvm.MethodName)) ∈ mm_ws := mm_i3 (i := 174) rfl rfl
theorem mw_3_175 : (Jvm.Cond.methodLink "MangleLine$Sightings" (35 : Nat) ({ cls := "MangleLine$Sightings", name := "agreeOn", desc := "(ILMangleLine$Laundry;)Z" } : Jvm.MethodName)) ∈ mm_ws := mm_i3 (i := 175) rfl rfl
theorem mw_3_177 : (Jvm.Cond.instanceMethod ({ cls := "MangleLine$Sightings", name := "agreeOn", desc := "(ILMangleLine$Laundry;)Z" } : Jvm.MethodName)) ∈ mm_ws := mm_i3 (i := 177) rfl rfl
theorem mw_3_178 : (Jvm.Cond.code ({ cls := "MangleLine$Sightings", name := "agreeOn", desc := "(ILMangleLine$Laundry;)Z" } : Jvm.MethodName) prog_7_method_6_code (4 : Nat) (Option.some Jvm.ClassFile.FieldType.boolean)) ∈ mm_ws := mm_i3 (i := 178) rfl rfl
theorem mw_3_181 : (Jvm.Cond.methodLink "MangleLineLaw" (139 : Nat) ({ cls := "MangleLine", name := "greys", desc := "(I)I" } : Jvm.MethodName)) ∈ mm_ws := mm_i3 (i := 181) rfl rfl
theorem mw_3_182 : (Jvm.Cond.instanceMethod ({ cls := "MangleLine", name := "greys", desc := "(I)I" } : Jvm.MethodName)) ∈ mm_ws := mm_i3 (i := 182) rfl rfl
theorem mw_3_183 : (Jvm.Cond.selects "MangleLine" ({ cls := "MangleLine", name := "greys", desc := "(I)I" } : Jvm.MethodName) ({ cls := "MangleLine", name := "greys", desc := "(I)I" } : Jvm.MethodName)) ∈ mm_ws := mm_i3 (i := 183) rfl rfl
theorem mw_3_184 : (Jvm.Cond.code ({ cls := "MangleLine", name := "greys", desc := "(I)I" } : Jvm.MethodName) prog_1_method_32_code (2 : Nat) (Option.some Jvm.ClassFile.FieldType.int)) ∈ mm_ws := mm_i3 (i := 184) rfl rfl
theorem mw_3_185 : (Jvm.Cond.methodLink "MangleLine" (218 : Nat) ({ cls := "MangleLine", name := "greysAsSeen", desc := "(I)I" } : Jvm.MethodName)) ∈ mm_ws := mm_i3 (i := 185) rfl rfl
theorem mw_3_187 : (Jvm.Cond.instanceMethod ({ cls := "MangleLine", name := "greysAsSeen", desc := "(I)I" } : Jvm.MethodName)) ∈ mm_ws := mm_i3 (i := 187) rfl rfl
theorem mw_3_188 : (Jvm.Cond.code ({ cls := "MangleLine", name := "greysAsSeen", desc := "(I)I" } : Jvm.MethodName) prog_1_method_58_code (4 : Nat) (Option.some Jvm.ClassFile.FieldType.int)) ∈ mm_ws := mm_i3 (i := 188) rfl rfl
theorem mw_3_189 : (Jvm.Cond.methodLink "MangleLineLaw" (143 : Nat) ({ cls := "MangleLine", name := "ask", desc := "(II)I" } : Jvm.MethodName)) ∈ mm_ws := mm_i3 (i := 189) rfl rfl
theorem mw_3_190 : (Jvm.Cond.instanceMethod ({ cls := "MangleLine", name := "ask", desc := "(II)I" } : Jvm.MethodName)) ∈ mm_ws := mm_i3 (i := 190) rfl rfl
theorem mw_3_191 : (Jvm.Cond.selects "MangleLine" ({ cls := "MangleLine", name := "ask", desc := "(II)I" } : Jvm.MethodName) ({ cls := "MangleLine", name := "ask", desc := "(II)I" } : Jvm.MethodName)) ∈ mm_ws := mm_i3 (i := 191) rfl rfl
theorem mw_3_192 : (Jvm.Cond.code ({ cls := "MangleLine", name := "ask", desc := "(II)I" } : Jvm.MethodName) prog_1_method_33_code (6 : Nat) (Option.some Jvm.ClassFile.FieldType.int)) ∈ mm_ws := mm_i3 (i := 192) rfl rfl
theorem mw_3_193 : (Jvm.Cond.methodLink "MangleLine" (221 : Nat) ({ cls := "MangleLine", name := "tallyPlaces", desc := "(II)V" } : Jvm.MethodName)) ∈ mm_ws := mm_i3 (i := 193) rfl rfl
theorem mw_3_195 : (Jvm.Cond.instanceMethod ({ cls := "MangleLine", name := "tallyPlaces", desc := "(II)V" } : Jvm.MethodName)) ∈ mm_ws := mm_i3 (i := 195) rfl rfl
theorem mw_3_196 : (Jvm.Cond.code ({ cls := "MangleLine", name := "tallyPlaces", desc := "(II)V" } : Jvm.MethodName) prog_1_method_59_code (6 : Nat) (Option.none : Option Jvm.ClassFile.FieldType)) ∈ mm_ws := mm_i3 (i := 196) rfl rfl
theorem mw_3_197 : (Jvm.Cond.methodLink "MangleLine" (302 : Nat) ({ cls := "java/util/Arrays", name := "fill", desc := "([II)V" } : Jvm.MethodName)) ∈ mm_ws := mm_i3 (i := 197) rfl rfl
theorem mw_3_198 : (Jvm.Cond.methodLink "MangleLine" (308 : Nat) ({ cls := "MangleLine", name := "tallyAt", desc := "(II)I" } : Jvm.MethodName)) ∈ mm_ws := mm_i3 (i := 198) rfl rfl
theorem mw_3_199 : (Jvm.Cond.static ({ cls := "MangleLine", name := "tallyAt", desc := "(II)I" } : Jvm.MethodName)) ∈ mm_ws := mm_i3 (i := 199) rfl rfl
theorem mw_3_200 : (Jvm.Cond.code ({ cls := "MangleLine", name := "tallyAt", desc := "(II)I" } : Jvm.MethodName) prog_1_method_60_code (2 : Nat) (Option.some Jvm.ClassFile.FieldType.int)) ∈ mm_ws := mm_i3 (i := 200) rfl rfl
theorem mw_3_201 : (Jvm.Cond.methodLink "MangleLine" (224 : Nat) ({ cls := "MangleLine", name := "mostLeft", desc := "(II)I" } : Jvm.MethodName)) ∈ mm_ws := mm_i3 (i := 201) rfl rfl
theorem mw_3_203 : (Jvm.Cond.instanceMethod ({ cls := "MangleLine", name := "mostLeft", desc := "(II)I" } : Jvm.MethodName)) ∈ mm_ws := mm_i3 (i := 203) rfl rfl
theorem mw_3_204 : (Jvm.Cond.code ({ cls := "MangleLine", name := "mostLeft", desc := "(II)I" } : Jvm.MethodName) prog_1_method_61_code (4 : Nat) (Option.some Jvm.ClassFile.FieldType.int)) ∈ mm_ws := mm_i3 (i := 204) rfl rfl
theorem mw_3_205 : (Jvm.Cond.methodLink "MangleLine" (311 : Nat) ({ cls := "java/lang/Math", name := "max", desc := "(II)I" } : Jvm.MethodName)) ∈ mm_ws := mm_i3 (i := 205) rfl rfl
theorem mw_3_206 : (Jvm.Cond.methodLink "MangleLineLaw" (147 : Nat) ({ cls := "MangleLine", name := "drift", desc := "(III)I" } : Jvm.MethodName)) ∈ mm_ws := mm_i3 (i := 206) rfl rfl
theorem mw_3_207 : (Jvm.Cond.instanceMethod ({ cls := "MangleLine", name := "drift", desc := "(III)I" } : Jvm.MethodName)) ∈ mm_ws := mm_i3 (i := 207) rfl rfl
theorem mw_3_208 : (Jvm.Cond.selects "MangleLine" ({ cls := "MangleLine", name := "drift", desc := "(III)I" } : Jvm.MethodName) ({ cls := "MangleLine", name := "drift", desc := "(III)I" } : Jvm.MethodName)) ∈ mm_ws := mm_i3 (i := 208) rfl rfl
theorem mw_3_209 : (Jvm.Cond.code ({ cls := "MangleLine", name := "drift", desc := "(III)I" } : Jvm.MethodName) prog_1_method_34_code (7 : Nat) (Option.some Jvm.ClassFile.FieldType.int)) ∈ mm_ws := mm_i3 (i := 209) rfl rfl
theorem mw_3_210 : (Jvm.Cond.constant "MangleLine" (227 : Nat) (1103515245 : Int32)) ∈ mm_ws := mm_i3 (i := 210) rfl rfl
theorem mw_3_213 : (Jvm.Cond.instanceMethod ({ cls := "MangleLine$Laundry", name := "soil", desc := "(II)V" } : Jvm.MethodName)) ∈ mm_ws := mm_i3 (i := 213) rfl rfl
theorem mw_3_214 : (Jvm.Cond.code ({ cls := "MangleLine$Laundry", name := "soil", desc := "(II)V" } : Jvm.MethodName) prog_4_method_7_code (3 : Nat) (Option.none : Option Jvm.ClassFile.FieldType)) ∈ mm_ws := mm_i3 (i := 214) rfl rfl
theorem mw_3_215 : (Jvm.Cond.methodLink "MangleLine$Laundry" (63 : Nat) ({ cls := "java/lang/Math", name := "min", desc := "(II)I" } : Jvm.MethodName)) ∈ mm_ws := mm_i3 (i := 215) rfl rfl
theorem mw_3_216 : (Jvm.Cond.static ({ cls := "java/lang/Math", name := "min", desc := "(II)I" } : Jvm.MethodName)) ∈ mm_ws := mm_i3 (i := 216) rfl rfl
theorem mw_3_217 : (Jvm.Cond.code ({ cls := "java/lang/Math", name := "min", desc := "(II)I" } : Jvm.MethodName) prog_12_method_69_code (2 : Nat) (Option.some Jvm.ClassFile.FieldType.int)) ∈ mm_ws := mm_i3 (i := 217) rfl rfl
theorem mw_3_218 : (Jvm.Cond.methodLink "MangleLineLaw" (151 : Nat) ({ cls := "MangleLine", name := "keep", desc := "(I)I" } : Jvm.MethodName)) ∈ mm_ws := mm_i3 (i := 218) rfl rfl
theorem mw_3_219 : (Jvm.Cond.instanceMethod ({ cls := "MangleLine", name := "keep", desc := "(I)I" } : Jvm.MethodName)) ∈ mm_ws := mm_i3 (i := 219) rfl rfl
theorem mw_3_220 : (Jvm.Cond.selects "MangleLine" ({ cls := "MangleLine", name := "keep", desc := "(I)I" } : Jvm.MethodName) ({ cls := "MangleLine", name := "keep", desc := "(I)I" } : Jvm.MethodName)) ∈ mm_ws := mm_i3 (i := 220) rfl rfl
theorem mw_3_221 : (Jvm.Cond.code ({ cls := "MangleLine", name := "keep", desc := "(I)I" } : Jvm.MethodName) prog_1_method_35_code (4 : Nat) (Option.some Jvm.ClassFile.FieldType.int)) ∈ mm_ws := mm_i3 (i := 221) rfl rfl
theorem mw_3_224 : (Jvm.Cond.instanceMethod ({ cls := "MangleLine$Sightings", name := "become", desc := "(LMangleLine$Sightings;)V" } : Jvm.MethodName)) ∈ mm_ws := mm_i3 (i := 224) rfl rfl
theorem mw_3_225 : (Jvm.Cond.code ({ cls := "MangleLine$Sightings", name := "become", desc := "(LMangleLine$Sightings;)V" } : Jvm.MethodName) prog_7_method_3_code (2 : Nat) (Option.none : Option Jvm.ClassFile.FieldType)) ∈ mm_ws := mm_i3 (i := 225) rfl rfl
theorem mw_3_226 : (Jvm.Cond.methodLink "MangleLine$Sightings" (25 : Nat) ({ cls := "java/lang/System", name := "arraycopy", desc := "(Ljava/lang/Object;ILjava/lang/Object;II)V" } : Jvm.MethodName)) ∈ mm_ws := mm_i3 (i := 226) rfl rfl
theorem mw_3_227 : (Jvm.Cond.methodLink "MangleLineLaw" (155 : Nat) ({ cls := "MangleLine", name := "back", desc := "(I)I" } : Jvm.MethodName)) ∈ mm_ws := mm_i3 (i := 227) rfl rfl
theorem mw_3_228 : (Jvm.Cond.instanceMethod ({ cls := "MangleLine", name := "back", desc := "(I)I" } : Jvm.MethodName)) ∈ mm_ws := mm_i3 (i := 228) rfl rfl
theorem mw_3_229 : (Jvm.Cond.selects "MangleLine" ({ cls := "MangleLine", name := "back", desc := "(I)I" } : Jvm.MethodName) ({ cls := "MangleLine", name := "back", desc := "(I)I" } : Jvm.MethodName)) ∈ mm_ws := mm_i3 (i := 229) rfl rfl
theorem mw_3_230 : (Jvm.Cond.code ({ cls := "MangleLine", name := "back", desc := "(I)I" } : Jvm.MethodName) prog_1_method_36_code (3 : Nat) (Option.some Jvm.ClassFile.FieldType.int)) ∈ mm_ws := mm_i3 (i := 230) rfl rfl
theorem mw_3_231 : (Jvm.Cond.methodLink "MangleLineLaw" (159 : Nat) ({ cls := "MangleLine", name := "sheet", desc := "(III)I" } : Jvm.MethodName)) ∈ mm_ws := mm_i3 (i := 231) rfl rfl
theorem mw_3_232 : (Jvm.Cond.instanceMethod ({ cls := "MangleLine", name := "sheet", desc := "(III)I" } : Jvm.MethodName)) ∈ mm_ws := mm_i3 (i := 232) rfl rfl
theorem mw_3_233 : (Jvm.Cond.selects "MangleLine" ({ cls := "MangleLine", name := "sheet", desc := "(III)I" } : Jvm.MethodName) ({ cls := "MangleLine", name := "sheet", desc := "(III)I" } : Jvm.MethodName)) ∈ mm_ws := mm_i3 (i := 233) rfl rfl
theorem mw_3_234 : (Jvm.Cond.code ({ cls := "MangleLine", name := "sheet", desc := "(III)I" } : Jvm.MethodName) prog_1_method_37_code (4 : Nat) (Option.some Jvm.ClassFile.FieldType.int)) ∈ mm_ws := mm_i3 (i := 234) rfl rfl
theorem mw_3_235 : (Jvm.Cond.methodLink "MangleLine" (238 : Nat) ({ cls := "MangleLine", name := "isSheet", desc := "(I)Z" } : Jvm.MethodName)) ∈ mm_ws := mm_i3 (i := 235) rfl rfl
theorem mw_3_236 : (Jvm.Cond.static ({ cls := "MangleLine", name := "isSheet", desc := "(I)Z" } : Jvm.MethodName)) ∈ mm_ws := mm_i3 (i := 236) rfl rfl
theorem mw_3_237 : (Jvm.Cond.code ({ cls := "MangleLine", name := "isSheet", desc := "(I)Z" } : Jvm.MethodName) prog_1_method_45_code (1 : Nat) (Option.some Jvm.ClassFile.FieldType.boolean)) ∈ mm_ws := mm_i3 (i := 237) rfl rfl
theorem mw_3_238 : (Jvm.Cond.methodLink "MangleLine" (241 : Nat) ({ cls := "MangleLine", name := "isLane", desc := "(I)Z" } : Jvm.MethodName)) ∈ mm_ws := mm_i3 (i := 238) rfl rfl
theorem mw_3_239 : (Jvm.Cond.static ({ cls := "MangleLine", name := "isLane", desc := "(I)Z" } : Jvm.MethodName)) ∈ mm_ws := mm_i3 (i := 239) rfl rfl
theorem mw_4_0 : (Jvm.Cond.code ({ cls := "MangleLine", name := "isLane", desc := "(I)Z" } : Jvm.MethodName) prog_1_method_46_code (1 : Nat) (Option.some Jvm.ClassFile.FieldType.boolean)) ∈ mm_ws := mm_i4 (i := 0) rfl rfl
theorem mw_4_3 : (Jvm.Cond.instanceMethod ({ cls := "MangleLine$Sheet", name := "renew", desc := "(II)V" } : Jvm.MethodName)) ∈ mm_ws := mm_i4 (i := 3) rfl rfl
theorem mw_4_4 : (Jvm.Cond.code ({ cls := "MangleLine$Sheet", name := "renew", desc := "(II)V" } : Jvm.MethodName) prog_6_method_2_code (3 : Nat) (Option.none : Option Jvm.ClassFile.FieldType)) ∈ mm_ws := mm_i4 (i := 4) rfl rfl
theorem mw_4_5 : (Jvm.Cond.methodLink "MangleLine$Sheet" (22 : Nat) ({ cls := "java/util/Arrays", name := "fill", desc := "([II)V" } : Jvm.MethodName)) ∈ mm_ws := mm_i4 (i := 5) rfl rfl
theorem mw_4_6 : (Jvm.Cond.methodLink "MangleLineLaw" (163 : Nat) ({ cls := "MangleLine", name := "lay", desc := "(III)I" } : Jvm.MethodName)) ∈ mm_ws := mm_i4 (i := 6) rfl rfl
theorem mw_4_7 : (Jvm.Cond.instanceMethod ({ cls := "MangleLine", name := "lay", desc := "(III)I" } : Jvm.MethodName)) ∈ mm_ws := mm_i4 (i := 7) rfl rfl
theorem mw_4_8 : (Jvm.Cond.selects "MangleLine" ({ cls := "MangleLine", name := "lay", desc := "(III)I" } : Jvm.MethodName) ({ cls := "MangleLine", name := "lay", desc := "(III)I" } : Jvm.MethodName)) ∈ mm_ws := mm_i4 (i := 8) rfl rfl
theorem mw_4_9 : (Jvm.Cond.code ({ cls := "MangleLine", name := "lay", desc := "(III)I" } : Jvm.MethodName) prog_1_method_38_code (5 : Nat) (Option.some Jvm.ClassFile.FieldType.int)) ∈ mm_ws := mm_i4 (i := 9) rfl rfl
theorem mw_4_12 : (Jvm.Cond.instanceMethod ({ cls := "MangleLine$Sheet", name := "isNothing", desc := "()Z" } : Jvm.MethodName)) ∈ mm_ws := mm_i4 (i := 12) rfl rfl
theorem mw_4_13 : (Jvm.Cond.code ({ cls := "MangleLine$Sheet", name := "isNothing", desc := "()Z" } : Jvm.MethodName) prog_6_method_3_code (1 : Nat) (Option.some Jvm.ClassFile.FieldType.boolean)) ∈ mm_ws := mm_i4 (i := 13) rfl rfl
theorem mw_4_16 : (Jvm.Cond.instanceMethod ({ cls := "MangleLine$Sheet", name := "hasCell", desc := "(I)Z" } : Jvm.MethodName)) ∈ mm_ws := mm_i4 (i := 16) rfl rfl
theorem mw_4_17 : (Jvm.Cond.code ({ cls := "MangleLine$Sheet", name := "hasCell", desc := "(I)Z" } : Jvm.MethodName) prog_6_method_4_code (2 : Nat) (Option.some Jvm.ClassFile.FieldType.boolean)) ∈ mm_ws := mm_i4 (i := 17) rfl rfl
theorem mw_4_21 : (Jvm.Cond.instanceMethod ({ cls := "MangleLine$Sheet", name := "write", desc := "(II)V" } : Jvm.MethodName)) ∈ mm_ws := mm_i4 (i := 21) rfl rfl
theorem mw_4_22 : (Jvm.Cond.code ({ cls := "MangleLine$Sheet", name := "write", desc := "(II)V" } : Jvm.MethodName) prog_6_method_5_code (3 : Nat) (Option.none : Option Jvm.ClassFile.FieldType)) ∈ mm_ws := mm_i4 (i := 22) rfl rfl
theorem mw_4_23 : (Jvm.Cond.methodLink "MangleLineLaw" (167 : Nat) ({ cls := "MangleLine", name := "read", desc := "(IIII)I" } : Jvm.MethodName)) ∈ mm_ws := mm_i4 (i := 23) rfl rfl
theorem mw_4_24 : (Jvm.Cond.instanceMethod ({ cls := "MangleLine", name := "read", desc := "(IIII)I" } : Jvm.MethodName)) ∈ mm_ws := mm_i4 (i := 24) rfl rfl
theorem mw_4_25 : (Jvm.Cond.selects "MangleLine" ({ cls := "MangleLine", name := "read", desc := "(IIII)I" } : Jvm.MethodName) ({ cls := "MangleLine", name := "read", desc := "(IIII)I" } : Jvm.MethodName)) ∈ mm_ws := mm_i4 (i := 25) rfl rfl
theorem mw_4_26 : (Jvm.Cond.code ({ cls := "MangleLine", name := "read", desc := "(IIII)I" } : Jvm.MethodName) prog_1_method_39_code (10 : Nat) (Option.some Jvm.ClassFile.FieldType.int)) ∈ mm_ws := mm_i4 (i := 26) rfl rfl
theorem mw_4_29 : (Jvm.Cond.instanceMethod ({ cls := "MangleLine$Sheet", name := "wholePairs", desc := "(III)I" } : Jvm.MethodName)) ∈ mm_ws := mm_i4 (i := 29) rfl rfl
theorem mw_4_30 : (Jvm.Cond.code ({ cls := "MangleLine$Sheet", name := "wholePairs", desc := "(III)I" } : Jvm.MethodName) prog_6_method_7_code (4 : Nat) (Option.some Jvm.ClassFile.FieldType.int)) ∈ mm_ws := mm_i4 (i := 30) rfl rfl
theorem mw_4_31 : (Jvm.Cond.methodLink "MangleLine$Sheet" (32 : Nat) ({ cls := "MangleLine$Sheet", name := "isNothing", desc := "()Z" } : Jvm.MethodName)) ∈ mm_ws := mm_i4 (i := 31) rfl rfl
theorem mw_4_32 : (Jvm.Cond.methodLink "MangleLine$Sheet" (36 : Nat) ({ cls := "MangleLine$Sheet", name := "isAnotherLane", desc := "(I)Z" } : Jvm.MethodName)) ∈ mm_ws := mm_i4 (i := 32) rfl rfl
theorem mw_4_34 : (Jvm.Cond.instanceMethod ({ cls := "MangleLine$Sheet", name := "isAnotherLane", desc := "(I)Z" } : Jvm.MethodName)) ∈ mm_ws := mm_i4 (i := 34) rfl rfl
theorem mw_4_35 : (Jvm.Cond.code ({ cls := "MangleLine$Sheet", name := "isAnotherLane", desc := "(I)Z" } : Jvm.MethodName) prog_6_method_6_code (2 : Nat) (Option.some Jvm.ClassFile.FieldType.boolean)) ∈ mm_ws := mm_i4 (i := 35) rfl rfl
theorem mw_4_36 : (Jvm.Cond.methodLink "MangleLine$Sheet" (40 : Nat) ({ cls := "MangleLine$Sheet", name := "hasCell", desc := "(I)Z" } : Jvm.MethodName)) ∈ mm_ws := mm_i4 (i := 36) rfl rfl
theorem mw_4_37 : (Jvm.Cond.methodLink "MangleLine$Sheet" (43 : Nat) ({ cls := "java/lang/Math", name := "min", desc := "(II)I" } : Jvm.MethodName)) ∈ mm_ws := mm_i4 (i := 37) rfl rfl
theorem mw_4_40 : (Jvm.Cond.instanceMethod ({ cls := "MangleLine$Sheet", name := "faultOfReading", desc := "(IZ)I" } : Jvm.MethodName)) ∈ mm_ws := mm_i4 (i := 40) rfl rfl
theorem mw_4_41 : (Jvm.Cond.code ({ cls := "MangleLine$Sheet", name := "faultOfReading", desc := "(IZ)I" } : Jvm.MethodName) prog_6_method_8_code (3 : Nat) (Option.some Jvm.ClassFile.FieldType.int)) ∈ mm_ws := mm_i4 (i := 41) rfl rfl
theorem mw_4_42 : (Jvm.Cond.methodLink "MangleLineLaw" (172 : Nat) ({ cls := "MangleLine", name := "torn", desc := "()I" } : Jvm.MethodName)) ∈ mm_ws := mm_i4 (i := 42) rfl rfl
theorem mw_4_43 : (Jvm.Cond.instanceMethod ({ cls := "MangleLine", name := "torn", desc := "()I" } : Jvm.MethodName)) ∈ mm_ws := mm_i4 (i := 43) rfl rfl
theorem mw_4_44 : (Jvm.Cond.selects "MangleLine" ({ cls := "MangleLine", name := "torn", desc := "()I" } : Jvm.MethodName) ({ cls := "MangleLine", name := "torn", desc := "()I" } : Jvm.MethodName)) ∈ mm_ws := mm_i4 (i := 44) rfl rfl
theorem mw_4_45 : (Jvm.Cond.code ({ cls := "MangleLine", name := "torn", desc := "()I" } : Jvm.MethodName) prog_1_method_40_code (1 : Nat) (Option.some Jvm.ClassFile.FieldType.int)) ∈ mm_ws := mm_i4 (i := 45) rfl rfl
theorem mw_4_46 : (Jvm.Cond.methodLink "MangleLineLaw" (176 : Nat) ({ cls := "MangleLine", name := "count", desc := "(I)I" } : Jvm.MethodName)) ∈ mm_ws := mm_i4 (i := 46) rfl rfl
theorem mw_4_47 : (Jvm.Cond.instanceMethod ({ cls := "MangleLine", name := "count", desc := "(I)I" } : Jvm.MethodName)) ∈ mm_ws := mm_i4 (i := 47) rfl rfl
theorem mw_4_48 : (Jvm.Cond.selects "MangleLine" ({ cls := "MangleLine", name := "count", desc := "(I)I" } : Jvm.MethodName) ({ cls := "MangleLine", name := "count", desc := "(I)I" } : Jvm.MethodName)) ∈ mm_ws := mm_i4 (i := 48) rfl rfl
theorem mw_4_49 : (Jvm.Cond.code ({ cls := "MangleLine", name := "count", desc := "(I)I" } : Jvm.MethodName) prog_1_method_41_code (2 : Nat) (Option.some Jvm.ClassFile.FieldType.int)) ∈ mm_ws := mm_i4 (i := 49) rfl rfl
theorem mw_4_50 : (Jvm.Cond.methodLink "MangleLine" (271 : Nat) ({ cls := "MangleLine", name := "imagesKept", desc := "()I" } : Jvm.MethodName)) ∈ mm_ws := mm_i4 (i := 50) rfl rfl
theorem mw_4_52 : (Jvm.Cond.instanceMethod ({ cls := "MangleLine", name := "imagesKept", desc := "()I" } : Jvm.MethodName)) ∈ mm_ws := mm_i4 (i := 52) rfl rfl
theorem mw_4_53 : (Jvm.Cond.code ({ cls := "MangleLine", name := "imagesKept", desc := "()I" } : Jvm.MethodName) prog_1_method_49_code (3 : Nat) (Option.some Jvm.ClassFile.FieldType.int)) ∈ mm_ws := mm_i4 (i := 53) rfl rfl
theorem mw_4_56 : (Jvm.Cond.instanceMethod ({ cls := "MangleLine$Laundry", name := "wetOfAll", desc := "()I" } : Jvm.MethodName)) ∈ mm_ws := mm_i4 (i := 56) rfl rfl
theorem mw_4_57 : (Jvm.Cond.code ({ cls := "MangleLine$Laundry", name := "wetOfAll", desc := "()I" } : Jvm.MethodName) prog_4_method_20_code (1 : Nat) (Option.some Jvm.ClassFile.FieldType.int)) ∈ mm_ws := mm_i4 (i := 57) rfl rfl
theorem mw_4_60 : (Jvm.Cond.instanceMethod ({ cls := "MangleLine$Laundry", name := "sunOfAll", desc := "()I" } : Jvm.MethodName)) ∈ mm_ws := mm_i4 (i := 60) rfl rfl
theorem mw_4_61 : (Jvm.Cond.code ({ cls := "MangleLine$Laundry", name := "sunOfAll", desc := "()I" } : Jvm.MethodName) prog_4_method_21_code (1 : Nat) (Option.some Jvm.ClassFile.FieldType.int)) ∈ mm_ws := mm_i4 (i := 61) rfl rfl
theorem mw_4_62 : (Jvm.Cond.classLink "MangleLineLaw" (10 : Nat) "MangleLineModel") ∈ mm_ws := mm_i4 (i := 62) rfl rfl
theorem mw_4_63 : (Jvm.Cond.instantiable "MangleLineModel" (28 : Nat)) ∈ mm_ws := mm_i4 (i := 63) rfl rfl
theorem mw_4_64 : (Jvm.Cond.methodLink "MangleLineLaw" (12 : Nat) ({ cls := "MangleLineModel", name := "<init>", desc := "()V" } : Jvm.MethodName)) ∈ mm_ws := mm_i4 (i := 64) rfl rfl
theorem mw_4_65 : (Jvm.Cond.instanceMethod ({ cls := "MangleLineModel", name := "<init>", desc := "()V" } : Jvm.MethodName)) ∈ mm_ws := mm_i4 (i := 65) rfl rfl
theorem mw_4_66 : (Jvm.Cond.code ({ cls := "MangleLineModel", name := "<init>", desc := "()V" } : Jvm.MethodName) prog_10_method_1_code (2 : Nat) (Option.none : Option Jvm.ClassFile.FieldType)) ∈ mm_ws := mm_i4 (i := 66) rfl rfl
theorem mw_4_67 : (Jvm.Cond.methodLink "MangleLineModel" (1 : Nat) ({ cls := "java/lang/Object", name := "<init>", desc := "()V" } : Jvm.MethodName)) ∈ mm_ws := mm_i4 (i := 67) rfl rfl
theorem mw_4_68 : (Jvm.Cond.methodLink "MangleLineModel" (44 : Nat) ({ cls := "MangleLineModel", name := "firstDraft", desc := "()V" } : Jvm.MethodName)) ∈ mm_ws := mm_i4 (i := 68) rfl rfl
theorem mw_4_70 : (Jvm.Cond.instanceMethod ({ cls := "MangleLineModel", name := "firstDraft", desc := "()V" } : Jvm.MethodName)) ∈ mm_ws := mm_i4 (i := 70) rfl rfl
theorem mw_4_71 : (Jvm.Cond.code ({ cls := "MangleLineModel", name := "firstDraft", desc := "()V" } : Jvm.MethodName) prog_10_method_7_code (2 : Nat) (Option.none : Option Jvm.ClassFile.FieldType)) ∈ mm_ws := mm_i4 (i := 71) rfl rfl
theorem mw_4_72 : (Jvm.Cond.methodLink "MangleLineModel" (47 : Nat) ({ cls := "MangleLineModel", name := "keepDraft", desc := "()V" } : Jvm.MethodName)) ∈ mm_ws := mm_i4 (i := 72) rfl rfl
theorem mw_4_74 : (Jvm.Cond.instanceMethod ({ cls := "MangleLineModel", name := "keepDraft", desc := "()V" } : Jvm.MethodName)) ∈ mm_ws := mm_i4 (i := 74) rfl rfl
theorem mw_4_75 : (Jvm.Cond.code ({ cls := "MangleLineModel", name := "keepDraft", desc := "()V" } : Jvm.MethodName) prog_10_method_8_code (2 : Nat) (Option.none : Option Jvm.ClassFile.FieldType)) ∈ mm_ws := mm_i4 (i := 75) rfl rfl
theorem mw_4_76 : (Jvm.Cond.fieldLink "MangleLineModel" (7 : Nat) "MangleLineModel" "st" "[I") ∈ mm_ws := mm_i4 (i := 76) rfl rfl
theorem mw_4_77 : (Jvm.Cond.fieldLink "MangleLineModel" (13 : Nat) "MangleLineModel" "now" "[I") ∈ mm_ws := mm_i4 (i := 77) rfl rfl
theorem mw_4_78 : (Jvm.Cond.fieldLink "MangleLineModel" (16 : Nat) "MangleLineModel" "isKept" "[Z") ∈ mm_ws := mm_i4 (i := 78) rfl rfl
theorem mw_4_79 : (Jvm.Cond.fieldLink "MangleLineModel" (20 : Nat) "MangleLineModel" "draft" "[I") ∈ mm_ws := mm_i4 (i := 79) rfl rfl
theorem mw_4_80 : (Jvm.Cond.fieldLink "MangleLineModel" (50 : Nat) "MangleLineModel" "toldRules" "I") ∈ mm_ws := mm_i4 (i := 80) rfl rfl
theorem mw_4_81 : (Jvm.Cond.fieldLink "MangleLineModel" (54 : Nat) "MangleLineModel" "suns" "I") ∈ mm_ws := mm_i4 (i := 81) rfl rfl
theorem mw_4_82 : (Jvm.Cond.fieldLink "MangleLineModel" (23 : Nat) "MangleLineModel" "tape" "[I") ∈ mm_ws := mm_i4 (i := 82) rfl rfl
theorem mw_4_83 : (Jvm.Cond.fieldLink "MangleLineModel" (63 : Nat) "MangleLineModel" "taped" "I") ∈ mm_ws := mm_i4 (i := 83) rfl rfl
theorem mw_4_84 : (Jvm.Cond.fieldLink "MangleLineModel" (75 : Nat) "MangleLineModel" "pos" "I") ∈ mm_ws := mm_i4 (i := 84) rfl rfl
theorem mw_4_85 : (Jvm.Cond.fieldLink "MangleLineModel" (69 : Nat) "MangleLineModel" "begun" "I") ∈ mm_ws := mm_i4 (i := 85) rfl rfl
theorem mw_4_86 : (Jvm.Cond.fieldLink "MangleLineModel" (94 : Nat) "MangleLineModel" "sort" "I") ∈ mm_ws := mm_i4 (i := 86) rfl rfl
theorem mw_4_87 : (Jvm.Cond.fieldLink "MangleLineModel" (105 : Nat) "MangleLineModel" "value" "I") ∈ mm_ws := mm_i4 (i := 87) rfl rfl
theorem mw_4_88 : (Jvm.Cond.fieldLink "MangleLineModel" (66 : Nat) "MangleLineModel" "fault" "I") ∈ mm_ws := mm_i4 (i := 88) rfl rfl
theorem mw_4_89 : (Jvm.Cond.fieldLink "MangleLineModel" (72 : Nat) "MangleLineModel" "wrongAt" "I") ∈ mm_ws := mm_i4 (i := 89) rfl rfl
theorem mw_4_90 : (Jvm.Cond.fieldLink "MangleLineModel" (138 : Nat) "MangleLineModel" "boilings" "I") ∈ mm_ws := mm_i4 (i := 90) rfl rfl
theorem mw_4_91 : (Jvm.Cond.fieldLink "MangleLineModel" (141 : Nat) "MangleLineModel" "homings" "I") ∈ mm_ws := mm_i4 (i := 91) rfl rfl
theorem mw_4_92 : (Jvm.Cond.fieldLink "MangleLineModel" (231 : Nat) "MangleLineModel" "bestCode" "I") ∈ mm_ws := mm_i4 (i := 92) rfl rfl
theorem mw_4_93 : (Jvm.Cond.fieldLink "MangleLineModel" (235 : Nat) "MangleLineModel" "bestMuch" "I") ∈ mm_ws := mm_i4 (i := 93) rfl rfl
theorem mw_4_94 : (Jvm.Cond.fieldLink "MangleLineModel" (254 : Nat) "MangleLineModel" "homeSum" "J") ∈ mm_ws := mm_i4 (i := 94) rfl rfl
theorem mw_4_95 : (Jvm.Cond.fieldLink "MangleLineModel" (258 : Nat) "MangleLineModel" "greySum" "J") ∈ mm_ws := mm_i4 (i := 95) rfl rfl
theorem mw_4_96 : (Jvm.Cond.fieldLink "MangleLineModel" (261 : Nat) "MangleLineModel" "allWays" "J") ∈ mm_ws := mm_i4 (i := 96) rfl rfl
theorem mw_4_97 : (Jvm.Cond.fieldLink "MangleLineModel" (26 : Nat) "MangleLineModel" "were" "[I") ∈ mm_ws := mm_i4 (i := 97) rfl rfl
theorem mw_4_98 : (Jvm.Cond.fieldLink "MangleLineModel" (29 : Nat) "MangleLineModel" "byWhere" "[I") ∈ mm_ws := mm_i4 (i := 98) rfl rfl
theorem mw_4_99 : (Jvm.Cond.fieldLink "MangleLineModel" (32 : Nat) "MangleLineModel" "lanes" "[I") ∈ mm_ws := mm_i4 (i := 99) rfl rfl
theorem mw_4_100 : (Jvm.Cond.fieldLink "MangleLineModel" (35 : Nat) "MangleLineModel" "sizes" "[I") ∈ mm_ws := mm_i4 (i := 100) rfl rfl
theorem mw_4_101 : (Jvm.Cond.fieldLink "MangleLineModel" (38 : Nat) "MangleLineModel" "cells" "[I") ∈ mm_ws := mm_i4 (i := 101) rfl rfl
theorem mw_4_102 : (Jvm.Cond.fieldLink "MangleLineModel" (297 : Nat) "MangleLineModel" "torn" "I") ∈ mm_ws := mm_i4 (i := 102) rfl rfl
theorem mw_4_103 : (Jvm.Cond.fieldLink "MangleLineModel" (41 : Nat) "MangleLineModel" "before" "[I") ∈ mm_ws := mm_i4 (i := 103) rfl rfl
theorem mw_4_104 : (Jvm.Cond.laysFinal "MangleLineModel" "MangleLineModel" "st" "[I") ∈ mm_ws := mm_i4 (i := 104) rfl rfl
theorem mw_4_106 : (Jvm.Cond.laysFinal "MangleLineModel" "MangleLineModel" "now" "[I") ∈ mm_ws := mm_i4 (i := 106) rfl rfl
theorem mw_4_108 : (Jvm.Cond.laysFinal "MangleLineModel" "MangleLineModel" "isKept" "[Z") ∈ mm_ws := mm_i4 (i := 108) rfl rfl
theorem mw_4_110 : (Jvm.Cond.laysFinal "MangleLineModel" "MangleLineModel" "draft" "[I") ∈ mm_ws := mm_i4 (i := 110) rfl rfl
theorem mw_4_112 : (Jvm.Cond.lays "MangleLineModel" "MangleLineModel" "toldRules" "I") ∈ mm_ws := mm_i4 (i := 112) rfl rfl
theorem mw_4_114 : (Jvm.Cond.lays "MangleLineModel" "MangleLineModel" "suns" "I") ∈ mm_ws := mm_i4 (i := 114) rfl rfl
theorem mw_4_116 : (Jvm.Cond.laysFinal "MangleLineModel" "MangleLineModel" "tape" "[I") ∈ mm_ws := mm_i4 (i := 116) rfl rfl
theorem mw_4_118 : (Jvm.Cond.lays "MangleLineModel" "MangleLineModel" "taped" "I") ∈ mm_ws := mm_i4 (i := 118) rfl rfl
theorem mw_4_120 : (Jvm.Cond.lays "MangleLineModel" "MangleLineModel" "pos" "I") ∈ mm_ws := mm_i4 (i := 120) rfl rfl
theorem mw_4_122 : (Jvm.Cond.lays "MangleLineModel" "MangleLineModel" "begun" "I") ∈ mm_ws := mm_i4 (i := 122) rfl rfl
theorem mw_4_124 : (Jvm.Cond.lays "MangleLineModel" "MangleLineModel" "sort" "I") ∈ mm_ws := mm_i4 (i := 124) rfl rfl
theorem mw_4_126 : (Jvm.Cond.lays "MangleLineModel" "MangleLineModel" "value" "I") ∈ mm_ws := mm_i4 (i := 126) rfl rfl
theorem mw_4_128 : (Jvm.Cond.lays "MangleLineModel" "MangleLineModel" "fault" "I") ∈ mm_ws := mm_i4 (i := 128) rfl rfl
theorem mw_4_130 : (Jvm.Cond.lays "MangleLineModel" "MangleLineModel" "wrongAt" "I") ∈ mm_ws := mm_i4 (i := 130) rfl rfl
theorem mw_4_132 : (Jvm.Cond.lays "MangleLineModel" "MangleLineModel" "boilings" "I") ∈ mm_ws := mm_i4 (i := 132) rfl rfl
theorem mw_4_134 : (Jvm.Cond.lays "MangleLineModel" "MangleLineModel" "homings" "I") ∈ mm_ws := mm_i4 (i := 134) rfl rfl
theorem mw_4_136 : (Jvm.Cond.lays "MangleLineModel" "MangleLineModel" "bestCode" "I") ∈ mm_ws := mm_i4 (i := 136) rfl rfl
theorem mw_4_138 : (Jvm.Cond.lays "MangleLineModel" "MangleLineModel" "bestMuch" "I") ∈ mm_ws := mm_i4 (i := 138) rfl rfl
theorem mw_4_140 : (Jvm.Cond.lays "MangleLineModel" "MangleLineModel" "homeSum" "J") ∈ mm_ws := mm_i4 (i := 140) rfl rfl
theorem mw_4_142 : (Jvm.Cond.lays "MangleLineModel" "MangleLineModel" "greySum" "J") ∈ mm_ws := mm_i4 (i := 142) rfl rfl
theorem mw_4_144 : (Jvm.Cond.lays "MangleLineModel" "MangleLineModel" "allWays" "J") ∈ mm_ws := mm_i4 (i := 144) rfl rfl
theorem mw_4_146 : (Jvm.Cond.laysFinal "MangleLineModel" "MangleLineModel" "were" "[I") ∈ mm_ws := mm_i4 (i := 146) rfl rfl
theorem mw_4_148 : (Jvm.Cond.laysFinal "MangleLineModel" "MangleLineModel" "byWhere" "[I") ∈ mm_ws := mm_i4 (i := 148) rfl rfl
theorem mw_4_150 : (Jvm.Cond.laysFinal "MangleLineModel" "MangleLineModel" "lanes" "[I") ∈ mm_ws := mm_i4 (i := 150) rfl rfl
theorem mw_4_152 : (Jvm.Cond.laysFinal "MangleLineModel" "MangleLineModel" "sizes" "[I") ∈ mm_ws := mm_i4 (i := 152) rfl rfl
theorem mw_4_154 : (Jvm.Cond.laysFinal "MangleLineModel" "MangleLineModel" "cells" "[I") ∈ mm_ws := mm_i4 (i := 154) rfl rfl
theorem mw_4_156 : (Jvm.Cond.lays "MangleLineModel" "MangleLineModel" "torn" "I") ∈ mm_ws := mm_i4 (i := 156) rfl rfl
theorem mw_4_158 : (Jvm.Cond.laysFinal "MangleLineModel" "MangleLineModel" "before" "[I") ∈ mm_ws := mm_i4 (i := 158) rfl rfl
theorem mw_4_161 : (Jvm.Cond.arrayClass Jvm.ClassFile.FieldType.boolean) ∈ mm_ws := mm_i4 (i := 161) rfl rfl
theorem mw_4_162 : (Jvm.Cond.methodLink "MangleLineLaw" (17 : Nat) ({ cls := "MangleLineModel", name := "feed", desc := "(I)I" } : Jvm.MethodName)) ∈ mm_ws := mm_i4 (i := 162) rfl rfl
theorem mw_4_163 : (Jvm.Cond.instanceMethod ({ cls := "MangleLineModel", name := "feed", desc := "(I)I" } : Jvm.MethodName)) ∈ mm_ws := mm_i4 (i := 163) rfl rfl
theorem mw_4_164 : (Jvm.Cond.selects "MangleLineModel" ({ cls := "MangleLineModel", name := "feed", desc := "(I)I" } : Jvm.MethodName) ({ cls := "MangleLineModel", name := "feed", desc := "(I)I" } : Jvm.MethodName)) ∈ mm_ws := mm_i4 (i := 164) rfl rfl
theorem mw_4_165 : (Jvm.Cond.code ({ cls := "MangleLineModel", name := "feed", desc := "(I)I" } : Jvm.MethodName) prog_10_method_9_code (2 : Nat) (Option.some Jvm.ClassFile.FieldType.int)) ∈ mm_ws := mm_i4 (i := 165) rfl rfl
theorem mw_4_166 : (Jvm.Cond.constantLong "MangleLineModel" (57 : Nat) (127 : Int64)) ∈ mm_ws := mm_i4 (i := 166) rfl rfl
theorem mw_4_167 : (Jvm.Cond.methodLink "MangleLineModel" (59 : Nat) ({ cls := "MangleLineModel", name := "in", desc := "(JJJ)Z" } : Jvm.MethodName)) ∈ mm_ws := mm_i4 (i := 167) rfl rfl
theorem mw_4_168 : (Jvm.Cond.static ({ cls := "MangleLineModel", name := "in", desc := "(JJJ)Z" } : Jvm.MethodName)) ∈ mm_ws := mm_i4 (i := 168) rfl rfl
theorem mw_4_169 : (Jvm.Cond.code ({ cls := "MangleLineModel", name := "in", desc := "(JJJ)Z" } : Jvm.MethodName) prog_10_method_3_code (6 : Nat) (Option.some Jvm.ClassFile.FieldType.boolean)) ∈ mm_ws := mm_i4 (i := 169) rfl rfl
theorem mw_4_170 : (Jvm.Cond.methodLink "MangleLineLaw" (21 : Nat) ({ cls := "MangleLineModel", name := "end", desc := "(I)I" } : Jvm.MethodName)) ∈ mm_ws := mm_i4 (i := 170) rfl rfl
theorem mw_4_171 : (Jvm.Cond.instanceMethod ({ cls := "MangleLineModel", name := "end", desc := "(I)I" } : Jvm.MethodName)) ∈ mm_ws := mm_i4 (i := 171) rfl rfl
theorem mw_4_172 : (Jvm.Cond.selects "MangleLineModel" ({ cls := "MangleLineModel", name := "end", desc := "(I)I" } : Jvm.MethodName) ({ cls := "MangleLineModel", name := "end", desc := "(I)I" } : Jvm.MethodName)) ∈ mm_ws := mm_i4 (i := 172) rfl rfl
theorem mw_4_173 : (Jvm.Cond.code ({ cls := "MangleLineModel", name := "end", desc := "(I)I" } : Jvm.MethodName) prog_10_method_10_code (3 : Nat) (Option.some Jvm.ClassFile.FieldType.int)) ∈ mm_ws := mm_i4 (i := 173) rfl rfl
theorem mw_4_174 : (Jvm.Cond.methodLink "MangleLineLaw" (26 : Nat) ({ cls := "MangleLineModel", name := "text", desc := "()I" } : Jvm.MethodName)) ∈ mm_ws := mm_i4 (i := 174) rfl rfl
theorem mw_4_175 : (Jvm.Cond.instanceMethod ({ cls := "MangleLineModel", name := "text", desc := "()I" } : Jvm.MethodName)) ∈ mm_ws := mm_i4 (i := 175) rfl rfl
theorem mw_4_176 : (Jvm.Cond.selects "MangleLineModel" ({ cls := "MangleLineModel", name := "text", desc := "()I" } : Jvm.MethodName) ({ cls := "MangleLineModel", name := "text", desc := "()I" } : Jvm.MethodName)) ∈ mm_ws := mm_i4 (i := 176) rfl rfl
theorem mw_4_177 : (Jvm.Cond.code ({ cls := "MangleLineModel", name := "text", desc := "()I" } : Jvm.MethodName) prog_10_method_24_code (2 : Nat) (Option.some Jvm.ClassFile.FieldType.int)) ∈ mm_ws := mm_i4 (i := 177) rfl rfl
theorem mw_4_178 : (Jvm.Cond.methodLink "MangleLineModel" (112 : Nat) ({ cls := "MangleLineModel", name := "reads", desc := "()V" } : Jvm.MethodName)) ∈ mm_ws := mm_i4 (i := 178) rfl rfl
theorem mw_4_180 : (Jvm.Cond.instanceMethod ({ cls := "MangleLineModel", name := "reads", desc := "()V" } : Jvm.MethodName)) ∈ mm_ws := mm_i4 (i := 180) rfl rfl
theorem mw_4_181 : (Jvm.Cond.code ({ cls := "MangleLineModel", name := "reads", desc := "()V" } : Jvm.MethodName) prog_10_method_17_code (2 : Nat) (Option.none : Option Jvm.ClassFile.FieldType)) ∈ mm_ws := mm_i4 (i := 181) rfl rfl
theorem mw_4_182 : (Jvm.Cond.methodLink "MangleLineModel" (78 : Nat) ({ cls := "MangleLineModel", name := "byteAt", desc := "(I)I" } : Jvm.MethodName)) ∈ mm_ws := mm_i4 (i := 182) rfl rfl
theorem mw_4_184 : (Jvm.Cond.instanceMethod ({ cls := "MangleLineModel", name := "byteAt", desc := "(I)I" } : Jvm.MethodName)) ∈ mm_ws := mm_i4 (i := 184) rfl rfl
theorem mw_4_185 : (Jvm.Cond.code ({ cls := "MangleLineModel", name := "byteAt", desc := "(I)I" } : Jvm.MethodName) prog_10_method_12_code (2 : Nat) (Option.some Jvm.ClassFile.FieldType.int)) ∈ mm_ws := mm_i4 (i := 185) rfl rfl
theorem mw_4_186 : (Jvm.Cond.constantLong "MangleLineModel" (97 : Nat) (97 : Int64)) ∈ mm_ws := mm_i4 (i := 186) rfl rfl
theorem mw_4_187 : (Jvm.Cond.constantLong "MangleLineModel" (99 : Nat) (122 : Int64)) ∈ mm_ws := mm_i4 (i := 187) rfl rfl
theorem mw_4_188 : (Jvm.Cond.constantLong "MangleLineModel" (101 : Nat) (48 : Int64)) ∈ mm_ws := mm_i4 (i := 188) rfl rfl
theorem mw_4_189 : (Jvm.Cond.constantLong "MangleLineModel" (103 : Nat) (57 : Int64)) ∈ mm_ws := mm_i4 (i := 189) rfl rfl
theorem mw_4_190 : (Jvm.Cond.methodLink "MangleLineModel" (108 : Nat) ({ cls := "MangleLineModel", name := "requires", desc := "(ZI)V" } : Jvm.MethodName)) ∈ mm_ws := mm_i4 (i := 190) rfl rfl
theorem mw_4_192 : (Jvm.Cond.instanceMethod ({ cls := "MangleLineModel", name := "requires", desc := "(ZI)V" } : Jvm.MethodName)) ∈ mm_ws := mm_i4 (i := 192) rfl rfl
theorem mw_4_193 : (Jvm.Cond.code ({ cls := "MangleLineModel", name := "requires", desc := "(ZI)V" } : Jvm.MethodName) prog_10_method_11_code (3 : Nat) (Option.none : Option Jvm.ClassFile.FieldType)) ∈ mm_ws := mm_i4 (i := 193) rfl rfl
theorem mw_4_194 : (Jvm.Cond.methodLink "MangleLineModel" (135 : Nat) ({ cls := "MangleLineModel", name := "readLine", desc := "()V" } : Jvm.MethodName)) ∈ mm_ws := mm_i4 (i := 194) rfl rfl
theorem mw_4_196 : (Jvm.Cond.instanceMethod ({ cls := "MangleLineModel", name := "readLine", desc := "()V" } : Jvm.MethodName)) ∈ mm_ws := mm_i4 (i := 196) rfl rfl
theorem mw_4_197 : (Jvm.Cond.code ({ cls := "MangleLineModel", name := "readLine", desc := "()V" } : Jvm.MethodName) prog_10_method_23_code (2 : Nat) (Option.none : Option Jvm.ClassFile.FieldType)) ∈ mm_ws := mm_i4 (i := 197) rfl rfl
theorem mw_4_198 : (Jvm.Cond.methodLink "MangleLineModel" (128 : Nat) ({ cls := "MangleLineModel", name := "lineNow", desc := "()I" } : Jvm.MethodName)) ∈ mm_ws := mm_i4 (i := 198) rfl rfl
theorem mw_4_200 : (Jvm.Cond.instanceMethod ({ cls := "MangleLineModel", name := "lineNow", desc := "()I" } : Jvm.MethodName)) ∈ mm_ws := mm_i4 (i := 200) rfl rfl
theorem mw_4_201 : (Jvm.Cond.code ({ cls := "MangleLineModel", name := "lineNow", desc := "()I" } : Jvm.MethodName) prog_10_method_16_code (1 : Nat) (Option.some Jvm.ClassFile.FieldType.int)) ∈ mm_ws := mm_i4 (i := 201) rfl rfl
theorem mw_4_202 : (Jvm.Cond.methodLink "MangleLineModel" (82 : Nat) ({ cls := "MangleLineModel", name := "is", desc := "(IIII)Z" } : Jvm.MethodName)) ∈ mm_ws := mm_i4 (i := 202) rfl rfl
theorem mw_4_204 : (Jvm.Cond.instanceMethod ({ cls := "MangleLineModel", name := "is", desc := "(IIII)Z" } : Jvm.MethodName)) ∈ mm_ws := mm_i4 (i := 204) rfl rfl
theorem mw_4_205 : (Jvm.Cond.code ({ cls := "MangleLineModel", name := "is", desc := "(IIII)Z" } : Jvm.MethodName) prog_10_method_13_code (5 : Nat) (Option.some Jvm.ClassFile.FieldType.boolean)) ∈ mm_ws := mm_i4 (i := 205) rfl rfl
theorem mw_4_206 : (Jvm.Cond.methodLink "MangleLineModel" (86 : Nat) ({ cls := "MangleLineModel", name := "endsIn", desc := "(III)Z" } : Jvm.MethodName)) ∈ mm_ws := mm_i4 (i := 206) rfl rfl
theorem mw_4_208 : (Jvm.Cond.instanceMethod ({ cls := "MangleLineModel", name := "endsIn", desc := "(III)Z" } : Jvm.MethodName)) ∈ mm_ws := mm_i4 (i := 208) rfl rfl
theorem mw_4_209 : (Jvm.Cond.code ({ cls := "MangleLineModel", name := "endsIn", desc := "(III)Z" } : Jvm.MethodName) prog_10_method_14_code (4 : Nat) (Option.some Jvm.ClassFile.FieldType.boolean)) ∈ mm_ws := mm_i4 (i := 209) rfl rfl
theorem mw_4_210 : (Jvm.Cond.methodLink "MangleLineModel" (90 : Nat) ({ cls := "MangleLineModel", name := "ruleNow", desc := "()I" } : Jvm.MethodName)) ∈ mm_ws := mm_i4 (i := 210) rfl rfl
theorem mw_4_212 : (Jvm.Cond.instanceMethod ({ cls := "MangleLineModel", name := "ruleNow", desc := "()I" } : Jvm.MethodName)) ∈ mm_ws := mm_i4 (i := 212) rfl rfl
theorem mw_4_213 : (Jvm.Cond.code ({ cls := "MangleLineModel", name := "ruleNow", desc := "()I" } : Jvm.MethodName) prog_10_method_15_code (1 : Nat) (Option.some Jvm.ClassFile.FieldType.int)) ∈ mm_ws := mm_i4 (i := 213) rfl rfl
theorem mw_4_214 : (Jvm.Cond.methodLink "MangleLineModel" (131 : Nat) ({ cls := "MangleLineModel", name := "readLineOf", desc := "(I)V" } : Jvm.MethodName)) ∈ mm_ws := mm_i4 (i := 214) rfl rfl
theorem mw_4_216 : (Jvm.Cond.instanceMethod ({ cls := "MangleLineModel", name := "readLineOf", desc := "(I)V" } : Jvm.MethodName)) ∈ mm_ws := mm_i4 (i := 216) rfl rfl
theorem mw_4_217 : (Jvm.Cond.code ({ cls := "MangleLineModel", name := "readLineOf", desc := "(I)V" } : Jvm.MethodName) prog_10_method_22_code (2 : Nat) (Option.none : Option Jvm.ClassFile.FieldType)) ∈ mm_ws := mm_i4 (i := 217) rfl rfl
theorem mw_4_218 : (Jvm.Cond.methodLink "MangleLineModel" (115 : Nat) ({ cls := "MangleLineModel", name := "readNumber", desc := "(II)I" } : Jvm.MethodName)) ∈ mm_ws := mm_i4 (i := 218) rfl rfl
theorem mw_4_220 : (Jvm.Cond.instanceMethod ({ cls := "MangleLineModel", name := "readNumber", desc := "(II)I" } : Jvm.MethodName)) ∈ mm_ws := mm_i4 (i := 220) rfl rfl
theorem mw_4_221 : (Jvm.Cond.code ({ cls := "MangleLineModel", name := "readNumber", desc := "(II)I" } : Jvm.MethodName) prog_10_method_18_code (4 : Nat) (Option.some Jvm.ClassFile.FieldType.int)) ∈ mm_ws := mm_i4 (i := 221) rfl rfl
theorem mw_4_222 : (Jvm.Cond.methodLink "MangleLineModel" (119 : Nat) ({ cls := "MangleLineModel", name := "readSuns", desc := "()V" } : Jvm.MethodName)) ∈ mm_ws := mm_i4 (i := 222) rfl rfl
theorem mw_4_224 : (Jvm.Cond.instanceMethod ({ cls := "MangleLineModel", name := "readSuns", desc := "()V" } : Jvm.MethodName)) ∈ mm_ws := mm_i4 (i := 224) rfl rfl
theorem mw_4_225 : (Jvm.Cond.code ({ cls := "MangleLineModel", name := "readSuns", desc := "()V" } : Jvm.MethodName) prog_10_method_21_code (1 : Nat) (Option.none : Option Jvm.ClassFile.FieldType)) ∈ mm_ws := mm_i4 (i := 225) rfl rfl
theorem mw_4_226 : (Jvm.Cond.methodLink "MangleLineModel" (122 : Nat) ({ cls := "MangleLineModel", name := "lowOf", desc := "(I)I" } : Jvm.MethodName)) ∈ mm_ws := mm_i4 (i := 226) rfl rfl
theorem mw_4_227 : (Jvm.Cond.static ({ cls := "MangleLineModel", name := "lowOf", desc := "(I)I" } : Jvm.MethodName)) ∈ mm_ws := mm_i4 (i := 227) rfl rfl
theorem mw_4_228 : (Jvm.Cond.code ({ cls := "MangleLineModel", name := "lowOf", desc := "(I)I" } : Jvm.MethodName) prog_10_method_19_code (1 : Nat) (Option.some Jvm.ClassFile.FieldType.int)) ∈ mm_ws := mm_i4 (i := 228) rfl rfl
theorem mw_4_229 : (Jvm.Cond.methodLink "MangleLineModel" (125 : Nat) ({ cls := "MangleLineModel", name := "mostOf", desc := "(I)I" } : Jvm.MethodName)) ∈ mm_ws := mm_i4 (i := 229) rfl rfl
theorem mw_4_230 : (Jvm.Cond.static ({ cls := "MangleLineModel", name := "mostOf", desc := "(I)I" } : Jvm.MethodName)) ∈ mm_ws := mm_i4 (i := 230) rfl rfl
theorem mw_4_231 : (Jvm.Cond.code ({ cls := "MangleLineModel", name := "mostOf", desc := "(I)I" } : Jvm.MethodName) prog_10_method_20_code (1 : Nat) (Option.some Jvm.ClassFile.FieldType.int)) ∈ mm_ws := mm_i4 (i := 231) rfl rfl
theorem mw_4_232 : (Jvm.Cond.methodLink "MangleLineLaw" (30 : Nat) ({ cls := "MangleLineModel", name := "fault", desc := "()I" } : Jvm.MethodName)) ∈ mm_ws := mm_i4 (i := 232) rfl rfl
theorem mw_4_233 : (Jvm.Cond.instanceMethod ({ cls := "MangleLineModel", name := "fault", desc := "()I" } : Jvm.MethodName)) ∈ mm_ws := mm_i4 (i := 233) rfl rfl
theorem mw_4_234 : (Jvm.Cond.selects "MangleLineModel" ({ cls := "MangleLineModel", name := "fault", desc := "()I" } : Jvm.MethodName) ({ cls := "MangleLineModel", name := "fault", desc := "()I" } : Jvm.MethodName)) ∈ mm_ws := mm_i4 (i := 234) rfl rfl
theorem mw_4_235 : (Jvm.Cond.code ({ cls := "MangleLineModel", name := "fault", desc := "()I" } : Jvm.MethodName) prog_10_method_25_code (1 : Nat) (Option.some Jvm.ClassFile.FieldType.int)) ∈ mm_ws := mm_i4 (i := 235) rfl rfl
theorem mw_4_236 : (Jvm.Cond.methodLink "MangleLineLaw" (34 : Nat) ({ cls := "MangleLineModel", name := "rule", desc := "(I)I" } : Jvm.MethodName)) ∈ mm_ws := mm_i4 (i := 236) rfl rfl
theorem mw_4_237 : (Jvm.Cond.instanceMethod ({ cls := "MangleLineModel", name := "rule", desc := "(I)I" } : Jvm.MethodName)) ∈ mm_ws := mm_i4 (i := 237) rfl rfl
theorem mw_4_238 : (Jvm.Cond.selects "MangleLineModel" ({ cls := "MangleLineModel", name := "rule", desc := "(I)I" } : Jvm.MethodName) ({ cls := "MangleLineModel", name := "rule", desc := "(I)I" } : Jvm.MethodName)) ∈ mm_ws := mm_i4 (i := 238) rfl rfl
theorem mw_4_239 : (Jvm.Cond.code ({ cls := "MangleLineModel", name := "rule", desc := "(I)I" } : Jvm.MethodName) prog_10_method_43_code (2 : Nat) (Option.some Jvm.ClassFile.FieldType.int)) ∈ mm_ws := mm_i4 (i := 239) rfl rfl
theorem mw_5_0 : (Jvm.Cond.methodLink "MangleLineModel" (183 : Nat) ({ cls := "MangleLineModel", name := "starts", desc := "()V" } : Jvm.MethodName)) ∈ mm_ws := mm_i5 (i := 0) rfl rfl
theorem mw_5_2 : (Jvm.Cond.instanceMethod ({ cls := "MangleLineModel", name := "starts", desc := "()V" } : Jvm.MethodName)) ∈ mm_ws := mm_i5 (i := 2) rfl rfl
theorem mw_5_3 : (Jvm.Cond.code ({ cls := "MangleLineModel", name := "starts", desc := "()V" } : Jvm.MethodName) prog_10_method_28_code (2 : Nat) (Option.none : Option Jvm.ClassFile.FieldType)) ∈ mm_ws := mm_i5 (i := 3) rfl rfl
theorem mw_5_4 : (Jvm.Cond.methodLink "MangleLineModel" (154 : Nat) ({ cls := "MangleLineModel", name := "those", desc := "(I)I" } : Jvm.MethodName)) ∈ mm_ws := mm_i5 (i := 4) rfl rfl
theorem mw_5_6 : (Jvm.Cond.instanceMethod ({ cls := "MangleLineModel", name := "those", desc := "(I)I" } : Jvm.MethodName)) ∈ mm_ws := mm_i5 (i := 6) rfl rfl
theorem mw_5_7 : (Jvm.Cond.code ({ cls := "MangleLineModel", name := "those", desc := "(I)I" } : Jvm.MethodName) prog_10_method_32_code (4 : Nat) (Option.some Jvm.ClassFile.FieldType.int)) ∈ mm_ws := mm_i5 (i := 7) rfl rfl
theorem mw_5_8 : (Jvm.Cond.methodLink "MangleLineModel" (144 : Nat) ({ cls := "MangleLineModel", name := "of", desc := "(II)I" } : Jvm.MethodName)) ∈ mm_ws := mm_i5 (i := 8) rfl rfl
theorem mw_5_10 : (Jvm.Cond.instanceMethod ({ cls := "MangleLineModel", name := "of", desc := "(II)I" } : Jvm.MethodName)) ∈ mm_ws := mm_i5 (i := 10) rfl rfl
theorem mw_5_11 : (Jvm.Cond.code ({ cls := "MangleLineModel", name := "of", desc := "(II)I" } : Jvm.MethodName) prog_10_method_30_code (3 : Nat) (Option.some Jvm.ClassFile.FieldType.int)) ∈ mm_ws := mm_i5 (i := 11) rfl rfl
theorem mw_5_12 : (Jvm.Cond.methodLink "MangleLineModel" (147 : Nat) ({ cls := "MangleLineModel", name := "flag", desc := "(Z)I" } : Jvm.MethodName)) ∈ mm_ws := mm_i5 (i := 12) rfl rfl
theorem mw_5_13 : (Jvm.Cond.static ({ cls := "MangleLineModel", name := "flag", desc := "(Z)I" } : Jvm.MethodName)) ∈ mm_ws := mm_i5 (i := 13) rfl rfl
theorem mw_5_14 : (Jvm.Cond.code ({ cls := "MangleLineModel", name := "flag", desc := "(Z)I" } : Jvm.MethodName) prog_10_method_4_code (1 : Nat) (Option.some Jvm.ClassFile.FieldType.int)) ∈ mm_ws := mm_i5 (i := 14) rfl rfl
theorem mw_5_15 : (Jvm.Cond.methodLink "MangleLineModel" (186 : Nat) ({ cls := "MangleLineModel", name := "sumOf", desc := "(I)I" } : Jvm.MethodName)) ∈ mm_ws := mm_i5 (i := 15) rfl rfl
theorem mw_5_17 : (Jvm.Cond.instanceMethod ({ cls := "MangleLineModel", name := "sumOf", desc := "(I)I" } : Jvm.MethodName)) ∈ mm_ws := mm_i5 (i := 17) rfl rfl
theorem mw_5_18 : (Jvm.Cond.code ({ cls := "MangleLineModel", name := "sumOf", desc := "(I)I" } : Jvm.MethodName) prog_10_method_34_code (4 : Nat) (Option.some Jvm.ClassFile.FieldType.int)) ∈ mm_ws := mm_i5 (i := 18) rfl rfl
theorem mw_5_19 : (Jvm.Cond.methodLink "MangleLineModel" (177 : Nat) ({ cls := "MangleLineModel", name := "sunNow", desc := "()I" } : Jvm.MethodName)) ∈ mm_ws := mm_i5 (i := 19) rfl rfl
theorem mw_5_21 : (Jvm.Cond.instanceMethod ({ cls := "MangleLineModel", name := "sunNow", desc := "()I" } : Jvm.MethodName)) ∈ mm_ws := mm_i5 (i := 21) rfl rfl
theorem mw_5_22 : (Jvm.Cond.code ({ cls := "MangleLineModel", name := "sunNow", desc := "()I" } : Jvm.MethodName) prog_10_method_40_code (1 : Nat) (Option.some Jvm.ClassFile.FieldType.int)) ∈ mm_ws := mm_i5 (i := 22) rfl rfl
theorem mw_5_23 : (Jvm.Cond.methodLink "MangleLineLaw" (38 : Nat) ({ cls := "MangleLineModel", name := "told", desc := "(I)I" } : Jvm.MethodName)) ∈ mm_ws := mm_i5 (i := 23) rfl rfl
theorem mw_5_24 : (Jvm.Cond.instanceMethod ({ cls := "MangleLineModel", name := "told", desc := "(I)I" } : Jvm.MethodName)) ∈ mm_ws := mm_i5 (i := 24) rfl rfl
theorem mw_5_25 : (Jvm.Cond.selects "MangleLineModel" ({ cls := "MangleLineModel", name := "told", desc := "(I)I" } : Jvm.MethodName) ({ cls := "MangleLineModel", name := "told", desc := "(I)I" } : Jvm.MethodName)) ∈ mm_ws := mm_i5 (i := 25) rfl rfl
theorem mw_5_26 : (Jvm.Cond.code ({ cls := "MangleLineModel", name := "told", desc := "(I)I" } : Jvm.MethodName) prog_10_method_44_code (2 : Nat) (Option.some Jvm.ClassFile.FieldType.int)) ∈ mm_ws := mm_i5 (i := 26) rfl rfl
theorem mw_5_27 : (Jvm.Cond.constantLong "MangleLineModel" (189 : Nat) (4 : Int64)) ∈ mm_ws := mm_i5 (i := 27) rfl rfl
theorem mw_5_28 : (Jvm.Cond.methodLink "MangleLineLaw" (43 : Nat) ({ cls := "MangleLineModel", name := "one", desc := "(II)I" } : Jvm.MethodName)) ∈ mm_ws := mm_i5 (i := 28) rfl rfl
theorem mw_5_29 : (Jvm.Cond.instanceMethod ({ cls := "MangleLineModel", name := "one", desc := "(II)I" } : Jvm.MethodName)) ∈ mm_ws := mm_i5 (i := 29) rfl rfl
theorem mw_5_30 : (Jvm.Cond.selects "MangleLineModel" ({ cls := "MangleLineModel", name := "one", desc := "(II)I" } : Jvm.MethodName) ({ cls := "MangleLineModel", name := "one", desc := "(II)I" } : Jvm.MethodName)) ∈ mm_ws := mm_i5 (i := 30) rfl rfl
theorem mw_5_31 : (Jvm.Cond.code ({ cls := "MangleLineModel", name := "one", desc := "(II)I" } : Jvm.MethodName) prog_10_method_45_code (3 : Nat) (Option.some Jvm.ClassFile.FieldType.int)) ∈ mm_ws := mm_i5 (i := 31) rfl rfl
theorem mw_5_32 : (Jvm.Cond.methodLink "MangleLineModel" (191 : Nat) ({ cls := "MangleLineModel", name := "isOne", desc := "(I)Z" } : Jvm.MethodName)) ∈ mm_ws := mm_i5 (i := 32) rfl rfl
theorem mw_5_34 : (Jvm.Cond.instanceMethod ({ cls := "MangleLineModel", name := "isOne", desc := "(I)Z" } : Jvm.MethodName)) ∈ mm_ws := mm_i5 (i := 34) rfl rfl
theorem mw_5_35 : (Jvm.Cond.code ({ cls := "MangleLineModel", name := "isOne", desc := "(I)Z" } : Jvm.MethodName) prog_10_method_26_code (2 : Nat) (Option.some Jvm.ClassFile.FieldType.boolean)) ∈ mm_ws := mm_i5 (i := 35) rfl rfl
theorem mw_5_36 : (Jvm.Cond.methodLink "MangleLineModel" (157 : Nat) ({ cls := "MangleLineModel", name := "scrubs", desc := "(I)I" } : Jvm.MethodName)) ∈ mm_ws := mm_i5 (i := 36) rfl rfl
theorem mw_5_38 : (Jvm.Cond.instanceMethod ({ cls := "MangleLineModel", name := "scrubs", desc := "(I)I" } : Jvm.MethodName)) ∈ mm_ws := mm_i5 (i := 38) rfl rfl
theorem mw_5_39 : (Jvm.Cond.code ({ cls := "MangleLineModel", name := "scrubs", desc := "(I)I" } : Jvm.MethodName) prog_10_method_35_code (4 : Nat) (Option.some Jvm.ClassFile.FieldType.int)) ∈ mm_ws := mm_i5 (i := 39) rfl rfl
theorem mw_5_40 : (Jvm.Cond.methodLink "MangleLineModel" (151 : Nat) ({ cls := "MangleLineModel", name := "less", desc := "(II)I" } : Jvm.MethodName)) ∈ mm_ws := mm_i5 (i := 40) rfl rfl
theorem mw_5_41 : (Jvm.Cond.static ({ cls := "MangleLineModel", name := "less", desc := "(II)I" } : Jvm.MethodName)) ∈ mm_ws := mm_i5 (i := 41) rfl rfl
theorem mw_5_42 : (Jvm.Cond.code ({ cls := "MangleLineModel", name := "less", desc := "(II)I" } : Jvm.MethodName) prog_10_method_6_code (2 : Nat) (Option.some Jvm.ClassFile.FieldType.int)) ∈ mm_ws := mm_i5 (i := 42) rfl rfl
theorem mw_5_43 : (Jvm.Cond.methodLink "MangleLineModel" (167 : Nat) ({ cls := "MangleLineModel", name := "dries", desc := "(II)I" } : Jvm.MethodName)) ∈ mm_ws := mm_i5 (i := 43) rfl rfl
theorem mw_5_45 : (Jvm.Cond.instanceMethod ({ cls := "MangleLineModel", name := "dries", desc := "(II)I" } : Jvm.MethodName)) ∈ mm_ws := mm_i5 (i := 45) rfl rfl
theorem mw_5_46 : (Jvm.Cond.code ({ cls := "MangleLineModel", name := "dries", desc := "(II)I" } : Jvm.MethodName) prog_10_method_36_code (4 : Nat) (Option.some Jvm.ClassFile.FieldType.int)) ∈ mm_ws := mm_i5 (i := 46) rfl rfl
theorem mw_5_47 : (Jvm.Cond.methodLink "MangleLineLaw" (47 : Nat) ({ cls := "MangleLineModel", name := "sun", desc := "(I)I" } : Jvm.MethodName)) ∈ mm_ws := mm_i5 (i := 47) rfl rfl
theorem mw_5_48 : (Jvm.Cond.instanceMethod ({ cls := "MangleLineModel", name := "sun", desc := "(I)I" } : Jvm.MethodName)) ∈ mm_ws := mm_i5 (i := 48) rfl rfl
theorem mw_5_49 : (Jvm.Cond.selects "MangleLineModel" ({ cls := "MangleLineModel", name := "sun", desc := "(I)I" } : Jvm.MethodName) ({ cls := "MangleLineModel", name := "sun", desc := "(I)I" } : Jvm.MethodName)) ∈ mm_ws := mm_i5 (i := 49) rfl rfl
theorem mw_5_50 : (Jvm.Cond.code ({ cls := "MangleLineModel", name := "sun", desc := "(I)I" } : Jvm.MethodName) prog_10_method_46_code (2 : Nat) (Option.some Jvm.ClassFile.FieldType.int)) ∈ mm_ws := mm_i5 (i := 50) rfl rfl
theorem mw_5_51 : (Jvm.Cond.constantLong "MangleLineModel" (195 : Nat) (6 : Int64)) ∈ mm_ws := mm_i5 (i := 51) rfl rfl
theorem mw_5_52 : (Jvm.Cond.methodLink "MangleLineLaw" (52 : Nat) ({ cls := "MangleLineModel", name := "alter", desc := "(III)I" } : Jvm.MethodName)) ∈ mm_ws := mm_i5 (i := 52) rfl rfl
theorem mw_5_53 : (Jvm.Cond.instanceMethod ({ cls := "MangleLineModel", name := "alter", desc := "(III)I" } : Jvm.MethodName)) ∈ mm_ws := mm_i5 (i := 53) rfl rfl
theorem mw_5_54 : (Jvm.Cond.selects "MangleLineModel" ({ cls := "MangleLineModel", name := "alter", desc := "(III)I" } : Jvm.MethodName) ({ cls := "MangleLineModel", name := "alter", desc := "(III)I" } : Jvm.MethodName)) ∈ mm_ws := mm_i5 (i := 54) rfl rfl
theorem mw_5_55 : (Jvm.Cond.code ({ cls := "MangleLineModel", name := "alter", desc := "(III)I" } : Jvm.MethodName) prog_10_method_48_code (5 : Nat) (Option.some Jvm.ClassFile.FieldType.int)) ∈ mm_ws := mm_i5 (i := 55) rfl rfl
theorem mw_5_56 : (Jvm.Cond.constantLong "MangleLineModel" (197 : Nat) (3 : Int64)) ∈ mm_ws := mm_i5 (i := 56) rfl rfl
theorem mw_5_57 : (Jvm.Cond.constantLong "MangleLineModel" (199 : Nat) (60 : Int64)) ∈ mm_ws := mm_i5 (i := 57) rfl rfl
theorem mw_5_58 : (Jvm.Cond.constantLong "MangleLineModel" (201 : Nat) (20 : Int64)) ∈ mm_ws := mm_i5 (i := 58) rfl rfl
theorem mw_5_59 : (Jvm.Cond.methodLink "MangleLineModel" (203 : Nat) ({ cls := "MangleLineModel", name := "becomes", desc := "(II)I" } : Jvm.MethodName)) ∈ mm_ws := mm_i5 (i := 59) rfl rfl
theorem mw_5_61 : (Jvm.Cond.instanceMethod ({ cls := "MangleLineModel", name := "becomes", desc := "(II)I" } : Jvm.MethodName)) ∈ mm_ws := mm_i5 (i := 61) rfl rfl
theorem mw_5_62 : (Jvm.Cond.code ({ cls := "MangleLineModel", name := "becomes", desc := "(II)I" } : Jvm.MethodName) prog_10_method_47_code (4 : Nat) (Option.some Jvm.ClassFile.FieldType.int)) ∈ mm_ws := mm_i5 (i := 62) rfl rfl
theorem mw_5_63 : (Jvm.Cond.methodLink "MangleLineLaw" (56 : Nat) ({ cls := "MangleLineModel", name := "set", desc := "(II)I" } : Jvm.MethodName)) ∈ mm_ws := mm_i5 (i := 63) rfl rfl
theorem mw_5_64 : (Jvm.Cond.instanceMethod ({ cls := "MangleLineModel", name := "set", desc := "(II)I" } : Jvm.MethodName)) ∈ mm_ws := mm_i5 (i := 64) rfl rfl
theorem mw_5_65 : (Jvm.Cond.selects "MangleLineModel" ({ cls := "MangleLineModel", name := "set", desc := "(II)I" } : Jvm.MethodName) ({ cls := "MangleLineModel", name := "set", desc := "(II)I" } : Jvm.MethodName)) ∈ mm_ws := mm_i5 (i := 65) rfl rfl
theorem mw_5_66 : (Jvm.Cond.code ({ cls := "MangleLineModel", name := "set", desc := "(II)I" } : Jvm.MethodName) prog_10_method_49_code (3 : Nat) (Option.some Jvm.ClassFile.FieldType.int)) ∈ mm_ws := mm_i5 (i := 66) rfl rfl
theorem mw_5_67 : (Jvm.Cond.methodLink "MangleLineLaw" (60 : Nat) ({ cls := "MangleLineModel", name := "shine", desc := "(II)I" } : Jvm.MethodName)) ∈ mm_ws := mm_i5 (i := 67) rfl rfl
theorem mw_5_68 : (Jvm.Cond.instanceMethod ({ cls := "MangleLineModel", name := "shine", desc := "(II)I" } : Jvm.MethodName)) ∈ mm_ws := mm_i5 (i := 68) rfl rfl
theorem mw_5_69 : (Jvm.Cond.selects "MangleLineModel" ({ cls := "MangleLineModel", name := "shine", desc := "(II)I" } : Jvm.MethodName) ({ cls := "MangleLineModel", name := "shine", desc := "(II)I" } : Jvm.MethodName)) ∈ mm_ws := mm_i5 (i := 69) rfl rfl
theorem mw_5_70 : (Jvm.Cond.code ({ cls := "MangleLineModel", name := "shine", desc := "(II)I" } : Jvm.MethodName) prog_10_method_50_code (3 : Nat) (Option.some Jvm.ClassFile.FieldType.int)) ∈ mm_ws := mm_i5 (i := 70) rfl rfl
theorem mw_5_71 : (Jvm.Cond.constantLong "MangleLineModel" (206 : Nat) (9 : Int64)) ∈ mm_ws := mm_i5 (i := 71) rfl rfl
theorem mw_5_72 : (Jvm.Cond.methodLink "MangleLineLaw" (64 : Nat) ({ cls := "MangleLineModel", name := "bring", desc := "(II)I" } : Jvm.MethodName)) ∈ mm_ws := mm_i5 (i := 72) rfl rfl
theorem mw_5_73 : (Jvm.Cond.instanceMethod ({ cls := "MangleLineModel", name := "bring", desc := "(II)I" } : Jvm.MethodName)) ∈ mm_ws := mm_i5 (i := 73) rfl rfl
theorem mw_5_74 : (Jvm.Cond.selects "MangleLineModel" ({ cls := "MangleLineModel", name := "bring", desc := "(II)I" } : Jvm.MethodName) ({ cls := "MangleLineModel", name := "bring", desc := "(II)I" } : Jvm.MethodName)) ∈ mm_ws := mm_i5 (i := 74) rfl rfl
theorem mw_5_75 : (Jvm.Cond.code ({ cls := "MangleLineModel", name := "bring", desc := "(II)I" } : Jvm.MethodName) prog_10_method_51_code (4 : Nat) (Option.some Jvm.ClassFile.FieldType.int)) ∈ mm_ws := mm_i5 (i := 75) rfl rfl
theorem mw_5_76 : (Jvm.Cond.methodLink "MangleLineLaw" (68 : Nat) ({ cls := "MangleLineModel", name := "fetch", desc := "(I)I" } : Jvm.MethodName)) ∈ mm_ws := mm_i5 (i := 76) rfl rfl
theorem mw_5_77 : (Jvm.Cond.instanceMethod ({ cls := "MangleLineModel", name := "fetch", desc := "(I)I" } : Jvm.MethodName)) ∈ mm_ws := mm_i5 (i := 77) rfl rfl
theorem mw_5_78 : (Jvm.Cond.selects "MangleLineModel" ({ cls := "MangleLineModel", name := "fetch", desc := "(I)I" } : Jvm.MethodName) ({ cls := "MangleLineModel", name := "fetch", desc := "(I)I" } : Jvm.MethodName)) ∈ mm_ws := mm_i5 (i := 78) rfl rfl
theorem mw_5_79 : (Jvm.Cond.code ({ cls := "MangleLineModel", name := "fetch", desc := "(I)I" } : Jvm.MethodName) prog_10_method_52_code (3 : Nat) (Option.some Jvm.ClassFile.FieldType.int)) ∈ mm_ws := mm_i5 (i := 79) rfl rfl
theorem mw_5_80 : (Jvm.Cond.methodLink "MangleLineLaw" (72 : Nat) ({ cls := "MangleLineModel", name := "days", desc := "(I)I" } : Jvm.MethodName)) ∈ mm_ws := mm_i5 (i := 80) rfl rfl
theorem mw_5_81 : (Jvm.Cond.instanceMethod ({ cls := "MangleLineModel", name := "days", desc := "(I)I" } : Jvm.MethodName)) ∈ mm_ws := mm_i5 (i := 81) rfl rfl
theorem mw_5_82 : (Jvm.Cond.selects "MangleLineModel" ({ cls := "MangleLineModel", name := "days", desc := "(I)I" } : Jvm.MethodName) ({ cls := "MangleLineModel", name := "days", desc := "(I)I" } : Jvm.MethodName)) ∈ mm_ws := mm_i5 (i := 82) rfl rfl
theorem mw_5_83 : (Jvm.Cond.code ({ cls := "MangleLineModel", name := "days", desc := "(I)I" } : Jvm.MethodName) prog_10_method_53_code (2 : Nat) (Option.some Jvm.ClassFile.FieldType.int)) ∈ mm_ws := mm_i5 (i := 83) rfl rfl
theorem mw_5_84 : (Jvm.Cond.constantLong "MangleLineModel" (208 : Nat) (30 : Int64)) ∈ mm_ws := mm_i5 (i := 84) rfl rfl
theorem mw_5_85 : (Jvm.Cond.methodLink "MangleLineModel" (210 : Nat) ({ cls := "MangleLineModel", name := "daysGo", desc := "(I)V" } : Jvm.MethodName)) ∈ mm_ws := mm_i5 (i := 85) rfl rfl
theorem mw_5_87 : (Jvm.Cond.instanceMethod ({ cls := "MangleLineModel", name := "daysGo", desc := "(I)V" } : Jvm.MethodName)) ∈ mm_ws := mm_i5 (i := 87) rfl rfl
theorem mw_5_88 : (Jvm.Cond.code ({ cls := "MangleLineModel", name := "daysGo", desc := "(I)V" } : Jvm.MethodName) prog_10_method_41_code (3 : Nat) (Option.none : Option Jvm.ClassFile.FieldType)) ∈ mm_ws := mm_i5 (i := 88) rfl rfl
theorem mw_5_89 : (Jvm.Cond.methodLink "MangleLineModel" (180 : Nat) ({ cls := "MangleLineModel", name := "dayGoesBy", desc := "(I)V" } : Jvm.MethodName)) ∈ mm_ws := mm_i5 (i := 89) rfl rfl
theorem mw_5_91 : (Jvm.Cond.instanceMethod ({ cls := "MangleLineModel", name := "dayGoesBy", desc := "(I)V" } : Jvm.MethodName)) ∈ mm_ws := mm_i5 (i := 91) rfl rfl
theorem mw_5_92 : (Jvm.Cond.code ({ cls := "MangleLineModel", name := "dayGoesBy", desc := "(I)V" } : Jvm.MethodName) prog_10_method_39_code (3 : Nat) (Option.none : Option Jvm.ClassFile.FieldType)) ∈ mm_ws := mm_i5 (i := 92) rfl rfl
theorem mw_5_93 : (Jvm.Cond.methodLink "MangleLineModel" (170 : Nat) ({ cls := "MangleLineModel", name := "boils", desc := "()V" } : Jvm.MethodName)) ∈ mm_ws := mm_i5 (i := 93) rfl rfl
theorem mw_5_95 : (Jvm.Cond.instanceMethod ({ cls := "MangleLineModel", name := "boils", desc := "()V" } : Jvm.MethodName)) ∈ mm_ws := mm_i5 (i := 95) rfl rfl
theorem mw_5_96 : (Jvm.Cond.code ({ cls := "MangleLineModel", name := "boils", desc := "()V" } : Jvm.MethodName) prog_10_method_37_code (4 : Nat) (Option.none : Option Jvm.ClassFile.FieldType)) ∈ mm_ws := mm_i5 (i := 96) rfl rfl
theorem mw_5_97 : (Jvm.Cond.methodLink "MangleLineModel" (160 : Nat) ({ cls := "MangleLineModel", name := "becomesOf", desc := "(III)V" } : Jvm.MethodName)) ∈ mm_ws := mm_i5 (i := 97) rfl rfl
theorem mw_5_99 : (Jvm.Cond.instanceMethod ({ cls := "MangleLineModel", name := "becomesOf", desc := "(III)V" } : Jvm.MethodName)) ∈ mm_ws := mm_i5 (i := 99) rfl rfl
theorem mw_5_100 : (Jvm.Cond.code ({ cls := "MangleLineModel", name := "becomesOf", desc := "(III)V" } : Jvm.MethodName) prog_10_method_31_code (4 : Nat) (Option.none : Option Jvm.ClassFile.FieldType)) ∈ mm_ws := mm_i5 (i := 100) rfl rfl
theorem mw_5_101 : (Jvm.Cond.methodLink "MangleLineModel" (164 : Nat) ({ cls := "MangleLineModel", name := "manyAt", desc := "(I)I" } : Jvm.MethodName)) ∈ mm_ws := mm_i5 (i := 101) rfl rfl
theorem mw_5_103 : (Jvm.Cond.instanceMethod ({ cls := "MangleLineModel", name := "manyAt", desc := "(I)I" } : Jvm.MethodName)) ∈ mm_ws := mm_i5 (i := 103) rfl rfl
theorem mw_5_104 : (Jvm.Cond.code ({ cls := "MangleLineModel", name := "manyAt", desc := "(I)I" } : Jvm.MethodName) prog_10_method_33_code (4 : Nat) (Option.some Jvm.ClassFile.FieldType.int)) ∈ mm_ws := mm_i5 (i := 104) rfl rfl
theorem mw_5_105 : (Jvm.Cond.methodLink "MangleLineModel" (173 : Nat) ({ cls := "MangleLineModel", name := "hangs", desc := "(II)V" } : Jvm.MethodName)) ∈ mm_ws := mm_i5 (i := 105) rfl rfl
theorem mw_5_107 : (Jvm.Cond.instanceMethod ({ cls := "MangleLineModel", name := "hangs", desc := "(II)V" } : Jvm.MethodName)) ∈ mm_ws := mm_i5 (i := 107) rfl rfl
theorem mw_5_108 : (Jvm.Cond.code ({ cls := "MangleLineModel", name := "hangs", desc := "(II)V" } : Jvm.MethodName) prog_10_method_38_code (4 : Nat) (Option.none : Option Jvm.ClassFile.FieldType)) ∈ mm_ws := mm_i5 (i := 108) rfl rfl
theorem mw_5_109 : (Jvm.Cond.methodLink "MangleLineModel" (213 : Nat) ({ cls := "MangleLineModel", name := "settles", desc := "()V" } : Jvm.MethodName)) ∈ mm_ws := mm_i5 (i := 109) rfl rfl
theorem mw_5_111 : (Jvm.Cond.instanceMethod ({ cls := "MangleLineModel", name := "settles", desc := "()V" } : Jvm.MethodName)) ∈ mm_ws := mm_i5 (i := 111) rfl rfl
theorem mw_5_112 : (Jvm.Cond.code ({ cls := "MangleLineModel", name := "settles", desc := "()V" } : Jvm.MethodName) prog_10_method_29_code (2 : Nat) (Option.none : Option Jvm.ClassFile.FieldType)) ∈ mm_ws := mm_i5 (i := 112) rfl rfl
theorem mw_5_113 : (Jvm.Cond.methodLink "MangleLineLaw" (76 : Nat) ({ cls := "MangleLineModel", name := "runs", desc := "(II)I" } : Jvm.MethodName)) ∈ mm_ws := mm_i5 (i := 113) rfl rfl
theorem mw_5_114 : (Jvm.Cond.instanceMethod ({ cls := "MangleLineModel", name := "runs", desc := "(II)I" } : Jvm.MethodName)) ∈ mm_ws := mm_i5 (i := 114) rfl rfl
theorem mw_5_115 : (Jvm.Cond.selects "MangleLineModel" ({ cls := "MangleLineModel", name := "runs", desc := "(II)I" } : Jvm.MethodName) ({ cls := "MangleLineModel", name := "runs", desc := "(II)I" } : Jvm.MethodName)) ∈ mm_ws := mm_i5 (i := 115) rfl rfl
theorem mw_5_116 : (Jvm.Cond.code ({ cls := "MangleLineModel", name := "runs", desc := "(II)I" } : Jvm.MethodName) prog_10_method_55_code (6 : Nat) (Option.some Jvm.ClassFile.FieldType.int)) ∈ mm_ws := mm_i5 (i := 116) rfl rfl
theorem mw_5_117 : (Jvm.Cond.methodLink "MangleLineModel" (216 : Nat) ({ cls := "MangleLineModel", name := "isFar", desc := "(I)Z" } : Jvm.MethodName)) ∈ mm_ws := mm_i5 (i := 117) rfl rfl
theorem mw_5_118 : (Jvm.Cond.static ({ cls := "MangleLineModel", name := "isFar", desc := "(I)Z" } : Jvm.MethodName)) ∈ mm_ws := mm_i5 (i := 118) rfl rfl
theorem mw_5_119 : (Jvm.Cond.code ({ cls := "MangleLineModel", name := "isFar", desc := "(I)Z" } : Jvm.MethodName) prog_10_method_54_code (1 : Nat) (Option.some Jvm.ClassFile.FieldType.boolean)) ∈ mm_ws := mm_i5 (i := 119) rfl rfl
theorem mw_5_120 : (Jvm.Cond.methodLink "MangleLineLaw" (80 : Nat) ({ cls := "MangleLineModel", name := "ahead", desc := "(III)I" } : Jvm.MethodName)) ∈ mm_ws := mm_i5 (i := 120) rfl rfl
theorem mw_5_121 : (Jvm.Cond.instanceMethod ({ cls := "MangleLineModel", name := "ahead", desc := "(III)I" } : Jvm.MethodName)) ∈ mm_ws := mm_i5 (i := 121) rfl rfl
theorem mw_5_122 : (Jvm.Cond.selects "MangleLineModel" ({ cls := "MangleLineModel", name := "ahead", desc := "(III)I" } : Jvm.MethodName) ({ cls := "MangleLineModel", name := "ahead", desc := "(III)I" } : Jvm.MethodName)) ∈ mm_ws := mm_i5 (i := 122) rfl rfl
theorem mw_5_123 : (Jvm.Cond.code ({ cls := "MangleLineModel", name := "ahead", desc := "(III)I" } : Jvm.MethodName) prog_10_method_56_code (4 : Nat) (Option.some Jvm.ClassFile.FieldType.int)) ∈ mm_ws := mm_i5 (i := 123) rfl rfl
theorem mw_5_124 : (Jvm.Cond.constantLong "MangleLineModel" (219 : Nat) (2 : Int64)) ∈ mm_ws := mm_i5 (i := 124) rfl rfl
theorem mw_5_125 : (Jvm.Cond.methodLink "MangleLineLaw" (84 : Nat) ({ cls := "MangleLineModel", name := "home", desc := "(I)I" } : Jvm.MethodName)) ∈ mm_ws := mm_i5 (i := 125) rfl rfl
theorem mw_5_126 : (Jvm.Cond.instanceMethod ({ cls := "MangleLineModel", name := "home", desc := "(I)I" } : Jvm.MethodName)) ∈ mm_ws := mm_i5 (i := 126) rfl rfl
theorem mw_5_127 : (Jvm.Cond.selects "MangleLineModel" ({ cls := "MangleLineModel", name := "home", desc := "(I)I" } : Jvm.MethodName) ({ cls := "MangleLineModel", name := "home", desc := "(I)I" } : Jvm.MethodName)) ∈ mm_ws := mm_i5 (i := 127) rfl rfl
theorem mw_5_128 : (Jvm.Cond.code ({ cls := "MangleLineModel", name := "home", desc := "(I)I" } : Jvm.MethodName) prog_10_method_57_code (3 : Nat) (Option.some Jvm.ClassFile.FieldType.int)) ∈ mm_ws := mm_i5 (i := 128) rfl rfl
theorem mw_5_129 : (Jvm.Cond.methodLink "MangleLineLaw" (88 : Nat) ({ cls := "MangleLineModel", name := "done", desc := "()I" } : Jvm.MethodName)) ∈ mm_ws := mm_i5 (i := 129) rfl rfl
theorem mw_5_130 : (Jvm.Cond.instanceMethod ({ cls := "MangleLineModel", name := "done", desc := "()I" } : Jvm.MethodName)) ∈ mm_ws := mm_i5 (i := 130) rfl rfl
theorem mw_5_131 : (Jvm.Cond.selects "MangleLineModel" ({ cls := "MangleLineModel", name := "done", desc := "()I" } : Jvm.MethodName) ({ cls := "MangleLineModel", name := "done", desc := "()I" } : Jvm.MethodName)) ∈ mm_ws := mm_i5 (i := 131) rfl rfl
theorem mw_5_132 : (Jvm.Cond.code ({ cls := "MangleLineModel", name := "done", desc := "()I" } : Jvm.MethodName) prog_10_method_59_code (1 : Nat) (Option.some Jvm.ClassFile.FieldType.int)) ∈ mm_ws := mm_i5 (i := 132) rfl rfl
theorem mw_5_133 : (Jvm.Cond.methodLink "MangleLineModel" (225 : Nat) ({ cls := "MangleLineModel", name := "daysTo", desc := "()I" } : Jvm.MethodName)) ∈ mm_ws := mm_i5 (i := 133) rfl rfl
theorem mw_5_135 : (Jvm.Cond.instanceMethod ({ cls := "MangleLineModel", name := "daysTo", desc := "()I" } : Jvm.MethodName)) ∈ mm_ws := mm_i5 (i := 135) rfl rfl
theorem mw_5_136 : (Jvm.Cond.code ({ cls := "MangleLineModel", name := "daysTo", desc := "()I" } : Jvm.MethodName) prog_10_method_58_code (2 : Nat) (Option.some Jvm.ClassFile.FieldType.int)) ∈ mm_ws := mm_i5 (i := 136) rfl rfl
theorem mw_5_137 : (Jvm.Cond.methodLink "MangleLineModel" (221 : Nat) ({ cls := "MangleLineModel", name := "isDone", desc := "()Z" } : Jvm.MethodName)) ∈ mm_ws := mm_i5 (i := 137) rfl rfl
theorem mw_5_139 : (Jvm.Cond.instanceMethod ({ cls := "MangleLineModel", name := "isDone", desc := "()Z" } : Jvm.MethodName)) ∈ mm_ws := mm_i5 (i := 139) rfl rfl
theorem mw_5_140 : (Jvm.Cond.code ({ cls := "MangleLineModel", name := "isDone", desc := "()Z" } : Jvm.MethodName) prog_10_method_42_code (1 : Nat) (Option.some Jvm.ClassFile.FieldType.boolean)) ∈ mm_ws := mm_i5 (i := 140) rfl rfl
theorem mw_5_141 : (Jvm.Cond.methodLink "MangleLineLaw" (92 : Nat) ({ cls := "MangleLineModel", name := "blue", desc := "(I)I" } : Jvm.MethodName)) ∈ mm_ws := mm_i5 (i := 141) rfl rfl
theorem mw_5_142 : (Jvm.Cond.instanceMethod ({ cls := "MangleLineModel", name := "blue", desc := "(I)I" } : Jvm.MethodName)) ∈ mm_ws := mm_i5 (i := 142) rfl rfl
theorem mw_5_143 : (Jvm.Cond.selects "MangleLineModel" ({ cls := "MangleLineModel", name := "blue", desc := "(I)I" } : Jvm.MethodName) ({ cls := "MangleLineModel", name := "blue", desc := "(I)I" } : Jvm.MethodName)) ∈ mm_ws := mm_i5 (i := 143) rfl rfl
theorem mw_5_144 : (Jvm.Cond.code ({ cls := "MangleLineModel", name := "blue", desc := "(I)I" } : Jvm.MethodName) prog_10_method_61_code (2 : Nat) (Option.some Jvm.ClassFile.FieldType.int)) ∈ mm_ws := mm_i5 (i := 144) rfl rfl
theorem mw_5_145 : (Jvm.Cond.methodLink "MangleLineModel" (228 : Nat) ({ cls := "MangleLineModel", name := "leastRule", desc := "(II)I" } : Jvm.MethodName)) ∈ mm_ws := mm_i5 (i := 145) rfl rfl
theorem mw_5_147 : (Jvm.Cond.instanceMethod ({ cls := "MangleLineModel", name := "leastRule", desc := "(II)I" } : Jvm.MethodName)) ∈ mm_ws := mm_i5 (i := 147) rfl rfl
theorem mw_5_148 : (Jvm.Cond.code ({ cls := "MangleLineModel", name := "leastRule", desc := "(II)I" } : Jvm.MethodName) prog_10_method_60_code (4 : Nat) (Option.some Jvm.ClassFile.FieldType.int)) ∈ mm_ws := mm_i5 (i := 148) rfl rfl
theorem mw_5_149 : (Jvm.Cond.methodLink "MangleLineLaw" (96 : Nat) ({ cls := "MangleLineModel", name := "pegs", desc := "(I)I" } : Jvm.MethodName)) ∈ mm_ws := mm_i5 (i := 149) rfl rfl
theorem mw_5_150 : (Jvm.Cond.instanceMethod ({ cls := "MangleLineModel", name := "pegs", desc := "(I)I" } : Jvm.MethodName)) ∈ mm_ws := mm_i5 (i := 150) rfl rfl
theorem mw_5_151 : (Jvm.Cond.selects "MangleLineModel" ({ cls := "MangleLineModel", name := "pegs", desc := "(I)I" } : Jvm.MethodName) ({ cls := "MangleLineModel", name := "pegs", desc := "(I)I" } : Jvm.MethodName)) ∈ mm_ws := mm_i5 (i := 151) rfl rfl
theorem mw_5_152 : (Jvm.Cond.code ({ cls := "MangleLineModel", name := "pegs", desc := "(I)I" } : Jvm.MethodName) prog_10_method_62_code (2 : Nat) (Option.some Jvm.ClassFile.FieldType.int)) ∈ mm_ws := mm_i5 (i := 152) rfl rfl
theorem mw_5_153 : (Jvm.Cond.methodLink "MangleLineLaw" (100 : Nat) ({ cls := "MangleLineModel", name := "batch", desc := "(I)I" } : Jvm.MethodName)) ∈ mm_ws := mm_i5 (i := 153) rfl rfl
theorem mw_5_154 : (Jvm.Cond.instanceMethod ({ cls := "MangleLineModel", name := "batch", desc := "(I)I" } : Jvm.MethodName)) ∈ mm_ws := mm_i5 (i := 154) rfl rfl
theorem mw_5_155 : (Jvm.Cond.selects "MangleLineModel" ({ cls := "MangleLineModel", name := "batch", desc := "(I)I" } : Jvm.MethodName) ({ cls := "MangleLineModel", name := "batch", desc := "(I)I" } : Jvm.MethodName)) ∈ mm_ws := mm_i5 (i := 155) rfl rfl
theorem mw_5_156 : (Jvm.Cond.code ({ cls := "MangleLineModel", name := "batch", desc := "(I)I" } : Jvm.MethodName) prog_10_method_66_code (3 : Nat) (Option.some Jvm.ClassFile.FieldType.int)) ∈ mm_ws := mm_i5 (i := 156) rfl rfl
theorem mw_5_157 : (Jvm.Cond.methodLink "MangleLineModel" (238 : Nat) ({ cls := "MangleLineModel", name := "isPart", desc := "(I)Z" } : Jvm.MethodName)) ∈ mm_ws := mm_i5 (i := 157) rfl rfl
theorem mw_5_158 : (Jvm.Cond.static ({ cls := "MangleLineModel", name := "isPart", desc := "(I)Z" } : Jvm.MethodName)) ∈ mm_ws := mm_i5 (i := 158) rfl rfl
theorem mw_5_159 : (Jvm.Cond.code ({ cls := "MangleLineModel", name := "isPart", desc := "(I)Z" } : Jvm.MethodName) prog_10_method_27_code (1 : Nat) (Option.some Jvm.ClassFile.FieldType.boolean)) ∈ mm_ws := mm_i5 (i := 159) rfl rfl
theorem mw_5_160 : (Jvm.Cond.methodLink "MangleLineModel" (241 : Nat) ({ cls := "MangleLineModel", name := "startsJudging", desc := "(I)V" } : Jvm.MethodName)) ∈ mm_ws := mm_i5 (i := 160) rfl rfl
theorem mw_5_162 : (Jvm.Cond.instanceMethod ({ cls := "MangleLineModel", name := "startsJudging", desc := "(I)V" } : Jvm.MethodName)) ∈ mm_ws := mm_i5 (i := 162) rfl rfl
theorem mw_5_163 : (Jvm.Cond.code ({ cls := "MangleLineModel", name := "startsJudging", desc := "(I)V" } : Jvm.MethodName) prog_10_method_63_code (2 : Nat) (Option.none : Option Jvm.ClassFile.FieldType)) ∈ mm_ws := mm_i5 (i := 163) rfl rfl
theorem mw_5_164 : (Jvm.Cond.constant "MangleLineModel" (234 : Nat) (1000000 : Int32)) ∈ mm_ws := mm_i5 (i := 164) rfl rfl
theorem mw_5_165 : (Jvm.Cond.methodLink "MangleLineModel" (244 : Nat) ({ cls := "MangleLineModel", name := "judges", desc := "(II)V" } : Jvm.MethodName)) ∈ mm_ws := mm_i5 (i := 165) rfl rfl
theorem mw_5_167 : (Jvm.Cond.instanceMethod ({ cls := "MangleLineModel", name := "judges", desc := "(II)V" } : Jvm.MethodName)) ∈ mm_ws := mm_i5 (i := 167) rfl rfl
theorem mw_5_168 : (Jvm.Cond.code ({ cls := "MangleLineModel", name := "judges", desc := "(II)V" } : Jvm.MethodName) prog_10_method_64_code (3 : Nat) (Option.none : Option Jvm.ClassFile.FieldType)) ∈ mm_ws := mm_i5 (i := 168) rfl rfl
theorem mw_5_169 : (Jvm.Cond.methodLink "MangleLineModel" (247 : Nat) ({ cls := "MangleLineModel", name := "judged", desc := "(I)I" } : Jvm.MethodName)) ∈ mm_ws := mm_i5 (i := 169) rfl rfl
theorem mw_5_171 : (Jvm.Cond.instanceMethod ({ cls := "MangleLineModel", name := "judged", desc := "(I)I" } : Jvm.MethodName)) ∈ mm_ws := mm_i5 (i := 171) rfl rfl
theorem mw_5_172 : (Jvm.Cond.code ({ cls := "MangleLineModel", name := "judged", desc := "(I)I" } : Jvm.MethodName) prog_10_method_65_code (2 : Nat) (Option.some Jvm.ClassFile.FieldType.int)) ∈ mm_ws := mm_i5 (i := 172) rfl rfl
theorem mw_5_173 : (Jvm.Cond.methodLink "MangleLineLaw" (104 : Nat) ({ cls := "MangleLineModel", name := "swap", desc := "(I)I" } : Jvm.MethodName)) ∈ mm_ws := mm_i5 (i := 173) rfl rfl
theorem mw_5_174 : (Jvm.Cond.instanceMethod ({ cls := "MangleLineModel", name := "swap", desc := "(I)I" } : Jvm.MethodName)) ∈ mm_ws := mm_i5 (i := 174) rfl rfl
theorem mw_5_175 : (Jvm.Cond.selects "MangleLineModel" ({ cls := "MangleLineModel", name := "swap", desc := "(I)I" } : Jvm.MethodName) ({ cls := "MangleLineModel", name := "swap", desc := "(I)I" } : Jvm.MethodName)) ∈ mm_ws := mm_i5 (i := 175) rfl rfl
theorem mw_5_176 : (Jvm.Cond.code ({ cls := "MangleLineModel", name := "swap", desc := "(I)I" } : Jvm.MethodName) prog_10_method_67_code (5 : Nat) (Option.some Jvm.ClassFile.FieldType.int)) ∈ mm_ws := mm_i5 (i := 176) rfl rfl
theorem mw_5_177 : (Jvm.Cond.methodLink "MangleLineLaw" (108 : Nat) ({ cls := "MangleLineModel", name := "fair", desc := "(I)I" } : Jvm.MethodName)) ∈ mm_ws := mm_i5 (i := 177) rfl rfl
theorem mw_5_178 : (Jvm.Cond.instanceMethod ({ cls := "MangleLineModel", name := "fair", desc := "(I)I" } : Jvm.MethodName)) ∈ mm_ws := mm_i5 (i := 178) rfl rfl
theorem mw_5_179 : (Jvm.Cond.selects "MangleLineModel" ({ cls := "MangleLineModel", name := "fair", desc := "(I)I" } : Jvm.MethodName) ({ cls := "MangleLineModel", name := "fair", desc := "(I)I" } : Jvm.MethodName)) ∈ mm_ws := mm_i5 (i := 179) rfl rfl
theorem mw_5_180 : (Jvm.Cond.code ({ cls := "MangleLineModel", name := "fair", desc := "(I)I" } : Jvm.MethodName) prog_10_method_68_code (3 : Nat) (Option.some Jvm.ClassFile.FieldType.int)) ∈ mm_ws := mm_i5 (i := 180) rfl rfl
theorem mw_5_181 : (Jvm.Cond.methodLink "MangleLineLaw" (112 : Nat) ({ cls := "MangleLineModel", name := "stain", desc := "(II)I" } : Jvm.MethodName)) ∈ mm_ws := mm_i5 (i := 181) rfl rfl
theorem mw_5_182 : (Jvm.Cond.instanceMethod ({ cls := "MangleLineModel", name := "stain", desc := "(II)I" } : Jvm.MethodName)) ∈ mm_ws := mm_i5 (i := 182) rfl rfl
theorem mw_5_183 : (Jvm.Cond.selects "MangleLineModel" ({ cls := "MangleLineModel", name := "stain", desc := "(II)I" } : Jvm.MethodName) ({ cls := "MangleLineModel", name := "stain", desc := "(II)I" } : Jvm.MethodName)) ∈ mm_ws := mm_i5 (i := 183) rfl rfl
theorem mw_5_184 : (Jvm.Cond.code ({ cls := "MangleLineModel", name := "stain", desc := "(II)I" } : Jvm.MethodName) prog_10_method_69_code (4 : Nat) (Option.some Jvm.ClassFile.FieldType.int)) ∈ mm_ws := mm_i5 (i := 184) rfl rfl
theorem mw_5_185 : (Jvm.Cond.methodLink "MangleLineLaw" (116 : Nat) ({ cls := "MangleLineModel", name := "kind", desc := "(II)I" } : Jvm.MethodName)) ∈ mm_ws := mm_i5 (i := 185) rfl rfl
theorem mw_5_186 : (Jvm.Cond.instanceMethod ({ cls := "MangleLineModel", name := "kind", desc := "(II)I" } : Jvm.MethodName)) ∈ mm_ws := mm_i5 (i := 186) rfl rfl
theorem mw_5_187 : (Jvm.Cond.selects "MangleLineModel" ({ cls := "MangleLineModel", name := "kind", desc := "(II)I" } : Jvm.MethodName) ({ cls := "MangleLineModel", name := "kind", desc := "(II)I" } : Jvm.MethodName)) ∈ mm_ws := mm_i5 (i := 187) rfl rfl
theorem mw_5_188 : (Jvm.Cond.code ({ cls := "MangleLineModel", name := "kind", desc := "(II)I" } : Jvm.MethodName) prog_10_method_70_code (4 : Nat) (Option.some Jvm.ClassFile.FieldType.int)) ∈ mm_ws := mm_i5 (i := 188) rfl rfl
theorem mw_5_189 : (Jvm.Cond.methodLink "MangleLineLaw" (121 : Nat) ({ cls := "MangleLineModel", name := "luck", desc := "(IIII)J" } : Jvm.MethodName)) ∈ mm_ws := mm_i5 (i := 189) rfl rfl
theorem mw_5_190 : (Jvm.Cond.instanceMethod ({ cls := "MangleLineModel", name := "luck", desc := "(IIII)J" } : Jvm.MethodName)) ∈ mm_ws := mm_i5 (i := 190) rfl rfl
theorem mw_5_191 : (Jvm.Cond.selects "MangleLineModel" ({ cls := "MangleLineModel", name := "luck", desc := "(IIII)J" } : Jvm.MethodName) ({ cls := "MangleLineModel", name := "luck", desc := "(IIII)J" } : Jvm.MethodName)) ∈ mm_ws := mm_i5 (i := 191) rfl rfl
theorem mw_5_192 : (Jvm.Cond.code ({ cls := "MangleLineModel", name := "luck", desc := "(IIII)J" } : Jvm.MethodName) prog_10_method_74_code (5 : Nat) (Option.some Jvm.ClassFile.FieldType.long)) ∈ mm_ws := mm_i5 (i := 192) rfl rfl
theorem mw_5_193 : (Jvm.Cond.constantLong "MangleLineModel" (264 : Nat) (10 : Int64)) ∈ mm_ws := mm_i5 (i := 193) rfl rfl
theorem mw_5_194 : (Jvm.Cond.constantLong "MangleLineModel" (266 : Nat) (8 : Int64)) ∈ mm_ws := mm_i5 (i := 194) rfl rfl
theorem mw_5_195 : (Jvm.Cond.constantLong "MangleLineModel" (268 : Nat) (-1 : Int64)) ∈ mm_ws := mm_i5 (i := 195) rfl rfl
theorem mw_5_196 : (Jvm.Cond.methodLink "MangleLineModel" (270 : Nat) ({ cls := "MangleLineModel", name := "findOdds", desc := "(III)V" } : Jvm.MethodName)) ∈ mm_ws := mm_i5 (i := 196) rfl rfl
theorem mw_5_198 : (Jvm.Cond.instanceMethod ({ cls := "MangleLineModel", name := "findOdds", desc := "(III)V" } : Jvm.MethodName)) ∈ mm_ws := mm_i5 (i := 198) rfl rfl
theorem mw_5_199 : (Jvm.Cond.code ({ cls := "MangleLineModel", name := "findOdds", desc := "(III)V" } : Jvm.MethodName) prog_10_method_73_code (9 : Nat) (Option.none : Option Jvm.ClassFile.FieldType)) ∈ mm_ws := mm_i5 (i := 199) rfl rfl
theorem mw_5_200 : (Jvm.Cond.methodLink "MangleLineModel" (273 : Nat) ({ cls := "MangleLineModel", name := "lowest", desc := "(JJI)J" } : Jvm.MethodName)) ∈ mm_ws := mm_i5 (i := 200) rfl rfl
theorem mw_5_201 : (Jvm.Cond.static ({ cls := "MangleLineModel", name := "lowest", desc := "(JJI)J" } : Jvm.MethodName)) ∈ mm_ws := mm_i5 (i := 201) rfl rfl
theorem mw_5_202 : (Jvm.Cond.code ({ cls := "MangleLineModel", name := "lowest", desc := "(JJI)J" } : Jvm.MethodName) prog_10_method_72_code (7 : Nat) (Option.some Jvm.ClassFile.FieldType.long)) ∈ mm_ws := mm_i5 (i := 202) rfl rfl
theorem mw_5_203 : (Jvm.Cond.methodLink "MangleLineModel" (250 : Nat) ({ cls := "MangleLineModel", name := "common", desc := "(JJ)J" } : Jvm.MethodName)) ∈ mm_ws := mm_i5 (i := 203) rfl rfl
theorem mw_5_204 : (Jvm.Cond.static ({ cls := "MangleLineModel", name := "common", desc := "(JJ)J" } : Jvm.MethodName)) ∈ mm_ws := mm_i5 (i := 204) rfl rfl
theorem mw_5_205 : (Jvm.Cond.code ({ cls := "MangleLineModel", name := "common", desc := "(JJ)J" } : Jvm.MethodName) prog_10_method_71_code (10 : Nat) (Option.some Jvm.ClassFile.FieldType.long)) ∈ mm_ws := mm_i5 (i := 205) rfl rfl
theorem mw_5_206 : (Jvm.Cond.methodLink "MangleLineLaw" (126 : Nat) ({ cls := "MangleLineModel", name := "mean", desc := "(III)J" } : Jvm.MethodName)) ∈ mm_ws := mm_i5 (i := 206) rfl rfl
theorem mw_5_207 : (Jvm.Cond.instanceMethod ({ cls := "MangleLineModel", name := "mean", desc := "(III)J" } : Jvm.MethodName)) ∈ mm_ws := mm_i5 (i := 207) rfl rfl
theorem mw_5_208 : (Jvm.Cond.selects "MangleLineModel" ({ cls := "MangleLineModel", name := "mean", desc := "(III)J" } : Jvm.MethodName) ({ cls := "MangleLineModel", name := "mean", desc := "(III)J" } : Jvm.MethodName)) ∈ mm_ws := mm_i5 (i := 208) rfl rfl
theorem mw_5_209 : (Jvm.Cond.code ({ cls := "MangleLineModel", name := "mean", desc := "(III)J" } : Jvm.MethodName) prog_10_method_75_code (4 : Nat) (Option.some Jvm.ClassFile.FieldType.long)) ∈ mm_ws := mm_i5 (i := 209) rfl rfl
theorem mw_5_210 : (Jvm.Cond.methodLink "MangleLineLaw" (130 : Nat) ({ cls := "MangleLineModel", name := "see", desc := "(III)I" } : Jvm.MethodName)) ∈ mm_ws := mm_i5 (i := 210) rfl rfl
theorem mw_5_211 : (Jvm.Cond.instanceMethod ({ cls := "MangleLineModel", name := "see", desc := "(III)I" } : Jvm.MethodName)) ∈ mm_ws := mm_i5 (i := 211) rfl rfl
theorem mw_5_212 : (Jvm.Cond.selects "MangleLineModel" ({ cls := "MangleLineModel", name := "see", desc := "(III)I" } : Jvm.MethodName) ({ cls := "MangleLineModel", name := "see", desc := "(III)I" } : Jvm.MethodName)) ∈ mm_ws := mm_i5 (i := 212) rfl rfl
theorem mw_5_213 : (Jvm.Cond.code ({ cls := "MangleLineModel", name := "see", desc := "(III)I" } : Jvm.MethodName) prog_10_method_76_code (5 : Nat) (Option.some Jvm.ClassFile.FieldType.int)) ∈ mm_ws := mm_i5 (i := 213) rfl rfl
theorem mw_5_214 : (Jvm.Cond.methodLink "MangleLineLaw" (134 : Nat) ({ cls := "MangleLineModel", name := "forget", desc := "(I)I" } : Jvm.MethodName)) ∈ mm_ws := mm_i5 (i := 214) rfl rfl
theorem mw_5_215 : (Jvm.Cond.instanceMethod ({ cls := "MangleLineModel", name := "forget", desc := "(I)I" } : Jvm.MethodName)) ∈ mm_ws := mm_i5 (i := 215) rfl rfl
theorem mw_5_216 : (Jvm.Cond.selects "MangleLineModel" ({ cls := "MangleLineModel", name := "forget", desc := "(I)I" } : Jvm.MethodName) ({ cls := "MangleLineModel", name := "forget", desc := "(I)I" } : Jvm.MethodName)) ∈ mm_ws := mm_i5 (i := 216) rfl rfl
theorem mw_5_217 : (Jvm.Cond.code ({ cls := "MangleLineModel", name := "forget", desc := "(I)I" } : Jvm.MethodName) prog_10_method_77_code (2 : Nat) (Option.some Jvm.ClassFile.FieldType.int)) ∈ mm_ws := mm_i5 (i := 217) rfl rfl
theorem mw_5_218 : (Jvm.Cond.methodLink "MangleLineLaw" (138 : Nat) ({ cls := "MangleLineModel", name := "kinds", desc := "(I)I" } : Jvm.MethodName)) ∈ mm_ws := mm_i5 (i := 218) rfl rfl
theorem mw_5_219 : (Jvm.Cond.instanceMethod ({ cls := "MangleLineModel", name := "kinds", desc := "(I)I" } : Jvm.MethodName)) ∈ mm_ws := mm_i5 (i := 219) rfl rfl
theorem mw_5_220 : (Jvm.Cond.selects "MangleLineModel" ({ cls := "MangleLineModel", name := "kinds", desc := "(I)I" } : Jvm.MethodName) ({ cls := "MangleLineModel", name := "kinds", desc := "(I)I" } : Jvm.MethodName)) ∈ mm_ws := mm_i5 (i := 220) rfl rfl
theorem mw_5_221 : (Jvm.Cond.code ({ cls := "MangleLineModel", name := "kinds", desc := "(I)I" } : Jvm.MethodName) prog_10_method_80_code (2 : Nat) (Option.some Jvm.ClassFile.FieldType.int)) ∈ mm_ws := mm_i5 (i := 221) rfl rfl
theorem mw_5_222 : (Jvm.Cond.methodLink "MangleLineModel" (281 : Nat) ({ cls := "MangleLineModel", name := "which", desc := "(II)I" } : Jvm.MethodName)) ∈ mm_ws := mm_i5 (i := 222) rfl rfl
theorem mw_5_224 : (Jvm.Cond.instanceMethod ({ cls := "MangleLineModel", name := "which", desc := "(II)I" } : Jvm.MethodName)) ∈ mm_ws := mm_i5 (i := 224) rfl rfl
theorem mw_5_225 : (Jvm.Cond.code ({ cls := "MangleLineModel", name := "which", desc := "(II)I" } : Jvm.MethodName) prog_10_method_79_code (5 : Nat) (Option.some Jvm.ClassFile.FieldType.int)) ∈ mm_ws := mm_i5 (i := 225) rfl rfl
theorem mw_5_226 : (Jvm.Cond.methodLink "MangleLineModel" (277 : Nat) ({ cls := "MangleLineModel", name := "isSoWith", desc := "(II)Z" } : Jvm.MethodName)) ∈ mm_ws := mm_i5 (i := 226) rfl rfl
theorem mw_5_228 : (Jvm.Cond.instanceMethod ({ cls := "MangleLineModel", name := "isSoWith", desc := "(II)Z" } : Jvm.MethodName)) ∈ mm_ws := mm_i5 (i := 228) rfl rfl
theorem mw_5_229 : (Jvm.Cond.code ({ cls := "MangleLineModel", name := "isSoWith", desc := "(II)Z" } : Jvm.MethodName) prog_10_method_78_code (6 : Nat) (Option.some Jvm.ClassFile.FieldType.boolean)) ∈ mm_ws := mm_i5 (i := 229) rfl rfl
theorem mw_5_230 : (Jvm.Cond.methodLink "MangleLineLaw" (142 : Nat) ({ cls := "MangleLineModel", name := "greys", desc := "(I)I" } : Jvm.MethodName)) ∈ mm_ws := mm_i5 (i := 230) rfl rfl
theorem mw_5_231 : (Jvm.Cond.instanceMethod ({ cls := "MangleLineModel", name := "greys", desc := "(I)I" } : Jvm.MethodName)) ∈ mm_ws := mm_i5 (i := 231) rfl rfl
theorem mw_5_232 : (Jvm.Cond.selects "MangleLineModel" ({ cls := "MangleLineModel", name := "greys", desc := "(I)I" } : Jvm.MethodName) ({ cls := "MangleLineModel", name := "greys", desc := "(I)I" } : Jvm.MethodName)) ∈ mm_ws := mm_i5 (i := 232) rfl rfl
theorem mw_5_233 : (Jvm.Cond.code ({ cls := "MangleLineModel", name := "greys", desc := "(I)I" } : Jvm.MethodName) prog_10_method_81_code (2 : Nat) (Option.some Jvm.ClassFile.FieldType.int)) ∈ mm_ws := mm_i5 (i := 233) rfl rfl
theorem mw_5_234 : (Jvm.Cond.methodLink "MangleLineLaw" (146 : Nat) ({ cls := "MangleLineModel", name := "ask", desc := "(II)I" } : Jvm.MethodName)) ∈ mm_ws := mm_i5 (i := 234) rfl rfl
theorem mw_5_235 : (Jvm.Cond.instanceMethod ({ cls := "MangleLineModel", name := "ask", desc := "(II)I" } : Jvm.MethodName)) ∈ mm_ws := mm_i5 (i := 235) rfl rfl
theorem mw_5_236 : (Jvm.Cond.selects "MangleLineModel" ({ cls := "MangleLineModel", name := "ask", desc := "(II)I" } : Jvm.MethodName) ({ cls := "MangleLineModel", name := "ask", desc := "(II)I" } : Jvm.MethodName)) ∈ mm_ws := mm_i5 (i := 236) rfl rfl
theorem mw_5_237 : (Jvm.Cond.code ({ cls := "MangleLineModel", name := "ask", desc := "(II)I" } : Jvm.MethodName) prog_10_method_82_code (7 : Nat) (Option.some Jvm.ClassFile.FieldType.int)) ∈ mm_ws := mm_i5 (i := 237) rfl rfl
theorem mw_5_238 : (Jvm.Cond.methodLink "MangleLineLaw" (150 : Nat) ({ cls := "MangleLineModel", name := "drift", desc := "(III)I" } : Jvm.MethodName)) ∈ mm_ws := mm_i5 (i := 238) rfl rfl
theorem mw_5_239 : (Jvm.Cond.instanceMethod ({ cls := "MangleLineModel", name := "drift", desc := "(III)I" } : Jvm.MethodName)) ∈ mm_ws := mm_i5 (i := 239) rfl rfl
theorem mw_6_0 : (Jvm.Cond.selects "MangleLineModel" ({ cls := "MangleLineModel", name := "drift", desc := "(III)I" } : Jvm.MethodName) ({ cls := "MangleLineModel", name := "drift", desc := "(III)I" } : Jvm.MethodName)) ∈ mm_ws := mm_i6 (i := 0) rfl rfl
theorem mw_6_1 : (Jvm.Cond.code ({ cls := "MangleLineModel", name := "drift", desc := "(III)I" } : Jvm.MethodName) prog_10_method_83_code (8 : Nat) (Option.some Jvm.ClassFile.FieldType.int)) ∈ mm_ws := mm_i6 (i := 1) rfl rfl
theorem mw_6_2 : (Jvm.Cond.constant "MangleLineModel" (284 : Nat) (1103515245 : Int32)) ∈ mm_ws := mm_i6 (i := 2) rfl rfl
theorem mw_6_3 : (Jvm.Cond.methodLink "MangleLineModel" (285 : Nat) ({ cls := "MangleLineModel", name := "lesser", desc := "(II)I" } : Jvm.MethodName)) ∈ mm_ws := mm_i6 (i := 3) rfl rfl
theorem mw_6_4 : (Jvm.Cond.static ({ cls := "MangleLineModel", name := "lesser", desc := "(II)I" } : Jvm.MethodName)) ∈ mm_ws := mm_i6 (i := 4) rfl rfl
theorem mw_6_5 : (Jvm.Cond.code ({ cls := "MangleLineModel", name := "lesser", desc := "(II)I" } : Jvm.MethodName) prog_10_method_5_code (2 : Nat) (Option.some Jvm.ClassFile.FieldType.int)) ∈ mm_ws := mm_i6 (i := 5) rfl rfl
theorem mw_6_6 : (Jvm.Cond.methodLink "MangleLineLaw" (154 : Nat) ({ cls := "MangleLineModel", name := "keep", desc := "(I)I" } : Jvm.MethodName)) ∈ mm_ws := mm_i6 (i := 6) rfl rfl
theorem mw_6_7 : (Jvm.Cond.instanceMethod ({ cls := "MangleLineModel", name := "keep", desc := "(I)I" } : Jvm.MethodName)) ∈ mm_ws := mm_i6 (i := 7) rfl rfl
theorem mw_6_8 : (Jvm.Cond.selects "MangleLineModel" ({ cls := "MangleLineModel", name := "keep", desc := "(I)I" } : Jvm.MethodName) ({ cls := "MangleLineModel", name := "keep", desc := "(I)I" } : Jvm.MethodName)) ∈ mm_ws := mm_i6 (i := 8) rfl rfl
theorem mw_6_9 : (Jvm.Cond.code ({ cls := "MangleLineModel", name := "keep", desc := "(I)I" } : Jvm.MethodName) prog_10_method_85_code (3 : Nat) (Option.some Jvm.ClassFile.FieldType.int)) ∈ mm_ws := mm_i6 (i := 9) rfl rfl
theorem mw_6_10 : (Jvm.Cond.methodLink "MangleLineModel" (288 : Nat) ({ cls := "MangleLineModel", name := "copies", desc := "(II)V" } : Jvm.MethodName)) ∈ mm_ws := mm_i6 (i := 10) rfl rfl
theorem mw_6_12 : (Jvm.Cond.instanceMethod ({ cls := "MangleLineModel", name := "copies", desc := "(II)V" } : Jvm.MethodName)) ∈ mm_ws := mm_i6 (i := 12) rfl rfl
theorem mw_6_13 : (Jvm.Cond.code ({ cls := "MangleLineModel", name := "copies", desc := "(II)V" } : Jvm.MethodName) prog_10_method_84_code (4 : Nat) (Option.none : Option Jvm.ClassFile.FieldType)) ∈ mm_ws := mm_i6 (i := 13) rfl rfl
theorem mw_6_14 : (Jvm.Cond.methodLink "MangleLineLaw" (158 : Nat) ({ cls := "MangleLineModel", name := "back", desc := "(I)I" } : Jvm.MethodName)) ∈ mm_ws := mm_i6 (i := 14) rfl rfl
theorem mw_6_15 : (Jvm.Cond.instanceMethod ({ cls := "MangleLineModel", name := "back", desc := "(I)I" } : Jvm.MethodName)) ∈ mm_ws := mm_i6 (i := 15) rfl rfl
theorem mw_6_16 : (Jvm.Cond.selects "MangleLineModel" ({ cls := "MangleLineModel", name := "back", desc := "(I)I" } : Jvm.MethodName) ({ cls := "MangleLineModel", name := "back", desc := "(I)I" } : Jvm.MethodName)) ∈ mm_ws := mm_i6 (i := 16) rfl rfl
theorem mw_6_17 : (Jvm.Cond.code ({ cls := "MangleLineModel", name := "back", desc := "(I)I" } : Jvm.MethodName) prog_10_method_86_code (2 : Nat) (Option.some Jvm.ClassFile.FieldType.int)) ∈ mm_ws := mm_i6 (i := 17) rfl rfl
theorem mw_6_18 : (Jvm.Cond.methodLink "MangleLineLaw" (162 : Nat) ({ cls := "MangleLineModel", name := "sheet", desc := "(III)I" } : Jvm.MethodName)) ∈ mm_ws := mm_i6 (i := 18) rfl rfl
theorem mw_6_19 : (Jvm.Cond.instanceMethod ({ cls := "MangleLineModel", name := "sheet", desc := "(III)I" } : Jvm.MethodName)) ∈ mm_ws := mm_i6 (i := 19) rfl rfl
theorem mw_6_20 : (Jvm.Cond.selects "MangleLineModel" ({ cls := "MangleLineModel", name := "sheet", desc := "(III)I" } : Jvm.MethodName) ({ cls := "MangleLineModel", name := "sheet", desc := "(III)I" } : Jvm.MethodName)) ∈ mm_ws := mm_i6 (i := 20) rfl rfl
theorem mw_6_21 : (Jvm.Cond.code ({ cls := "MangleLineModel", name := "sheet", desc := "(III)I" } : Jvm.MethodName) prog_10_method_88_code (5 : Nat) (Option.some Jvm.ClassFile.FieldType.int)) ∈ mm_ws := mm_i6 (i := 21) rfl rfl
theorem mw_6_22 : (Jvm.Cond.methodLink "MangleLineModel" (291 : Nat) ({ cls := "MangleLineModel", name := "isSheet", desc := "(II)Z" } : Jvm.MethodName)) ∈ mm_ws := mm_i6 (i := 22) rfl rfl
theorem mw_6_23 : (Jvm.Cond.static ({ cls := "MangleLineModel", name := "isSheet", desc := "(II)Z" } : Jvm.MethodName)) ∈ mm_ws := mm_i6 (i := 23) rfl rfl
theorem mw_6_24 : (Jvm.Cond.code ({ cls := "MangleLineModel", name := "isSheet", desc := "(II)Z" } : Jvm.MethodName) prog_10_method_87_code (2 : Nat) (Option.some Jvm.ClassFile.FieldType.boolean)) ∈ mm_ws := mm_i6 (i := 24) rfl rfl
theorem mw_6_25 : (Jvm.Cond.methodLink "MangleLineLaw" (166 : Nat) ({ cls := "MangleLineModel", name := "lay", desc := "(III)I" } : Jvm.MethodName)) ∈ mm_ws := mm_i6 (i := 25) rfl rfl
theorem mw_6_26 : (Jvm.Cond.instanceMethod ({ cls := "MangleLineModel", name := "lay", desc := "(III)I" } : Jvm.MethodName)) ∈ mm_ws := mm_i6 (i := 26) rfl rfl
theorem mw_6_27 : (Jvm.Cond.selects "MangleLineModel" ({ cls := "MangleLineModel", name := "lay", desc := "(III)I" } : Jvm.MethodName) ({ cls := "MangleLineModel", name := "lay", desc := "(III)I" } : Jvm.MethodName)) ∈ mm_ws := mm_i6 (i := 27) rfl rfl
theorem mw_6_28 : (Jvm.Cond.code ({ cls := "MangleLineModel", name := "lay", desc := "(III)I" } : Jvm.MethodName) prog_10_method_89_code (4 : Nat) (Option.some Jvm.ClassFile.FieldType.int)) ∈ mm_ws := mm_i6 (i := 28) rfl rfl
theorem mw_6_29 : (Jvm.Cond.methodLink "MangleLineLaw" (171 : Nat) ({ cls := "MangleLineModel", name := "read", desc := "(IIII)I" } : Jvm.MethodName)) ∈ mm_ws := mm_i6 (i := 29) rfl rfl
theorem mw_6_30 : (Jvm.Cond.instanceMethod ({ cls := "MangleLineModel", name := "read", desc := "(IIII)I" } : Jvm.MethodName)) ∈ mm_ws := mm_i6 (i := 30) rfl rfl
theorem mw_6_31 : (Jvm.Cond.selects "MangleLineModel" ({ cls := "MangleLineModel", name := "read", desc := "(IIII)I" } : Jvm.MethodName) ({ cls := "MangleLineModel", name := "read", desc := "(IIII)I" } : Jvm.MethodName)) ∈ mm_ws := mm_i6 (i := 31) rfl rfl
theorem mw_6_32 : (Jvm.Cond.code ({ cls := "MangleLineModel", name := "read", desc := "(IIII)I" } : Jvm.MethodName) prog_10_method_90_code (11 : Nat) (Option.some Jvm.ClassFile.FieldType.int)) ∈ mm_ws := mm_i6 (i := 32) rfl rfl
theorem mw_6_33 : (Jvm.Cond.methodLink "MangleLineModel" (294 : Nat) ({ cls := "MangleLineModel", name := "bring", desc := "(II)I" } : Jvm.MethodName)) ∈ mm_ws := mm_i6 (i := 33) rfl rfl
theorem mw_6_34 : (Jvm.Cond.methodLink "MangleLineLaw" (175 : Nat) ({ cls := "MangleLineModel", name := "torn", desc := "()I" } : Jvm.MethodName)) ∈ mm_ws := mm_i6 (i := 34) rfl rfl
theorem mw_6_35 : (Jvm.Cond.instanceMethod ({ cls := "MangleLineModel", name := "torn", desc := "()I" } : Jvm.MethodName)) ∈ mm_ws := mm_i6 (i := 35) rfl rfl
theorem mw_6_36 : (Jvm.Cond.selects "MangleLineModel" ({ cls := "MangleLineModel", name := "torn", desc := "()I" } : Jvm.MethodName) ({ cls := "MangleLineModel", name := "torn", desc := "()I" } : Jvm.MethodName)) ∈ mm_ws := mm_i6 (i := 36) rfl rfl
theorem mw_6_37 : (Jvm.Cond.code ({ cls := "MangleLineModel", name := "torn", desc := "()I" } : Jvm.MethodName) prog_10_method_91_code (1 : Nat) (Option.some Jvm.ClassFile.FieldType.int)) ∈ mm_ws := mm_i6 (i := 37) rfl rfl
theorem mw_6_38 : (Jvm.Cond.methodLink "MangleLineLaw" (179 : Nat) ({ cls := "MangleLineModel", name := "count", desc := "(I)I" } : Jvm.MethodName)) ∈ mm_ws := mm_i6 (i := 38) rfl rfl
theorem mw_6_39 : (Jvm.Cond.instanceMethod ({ cls := "MangleLineModel", name := "count", desc := "(I)I" } : Jvm.MethodName)) ∈ mm_ws := mm_i6 (i := 39) rfl rfl
theorem mw_6_40 : (Jvm.Cond.selects "MangleLineModel" ({ cls := "MangleLineModel", name := "count", desc := "(I)I" } : Jvm.MethodName) ({ cls := "MangleLineModel", name := "count", desc := "(I)I" } : Jvm.MethodName)) ∈ mm_ws := mm_i6 (i := 40) rfl rfl
theorem mw_6_41 : (Jvm.Cond.code ({ cls := "MangleLineModel", name := "count", desc := "(I)I" } : Jvm.MethodName) prog_10_method_92_code (4 : Nat) (Option.some Jvm.ClassFile.FieldType.int)) ∈ mm_ws := mm_i6 (i := 41) rfl rfl
theorem mw_6_42 : (Jvm.Cond.fieldLink "java/lang/String" (9 : Nat) "java/lang/String" "value" "[B") ∈ mm_ws := mm_i6 (i := 42) rfl rfl
theorem mw_6_43 : (Jvm.Cond.fieldLink "java/lang/String" (15 : Nat) "java/lang/String" "coder" "B") ∈ mm_ws := mm_i6 (i := 43) rfl rfl
theorem mw_0_0 : Cond.selects "MangleLine$Laundry" ⟨"MangleLine$Laundry", "clear", "()V"⟩ ⟨"MangleLine$Laundry", "clear", "()V"⟩ ∈ mm_ws := mm_i0 (i := 0) rfl rfl
theorem mw_0_1 : Cond.selects "MangleLine$Tape" ⟨"MangleLine$Tape", "append", "(I)Z"⟩ ⟨"MangleLine$Tape", "append", "(I)Z"⟩ ∈ mm_ws := mm_i0 (i := 1) rfl rfl
theorem mw_0_2 : Cond.selects "MangleLine$Script" ⟨"MangleLine$Script", "tell", "(LMangleLine$Laundry;)I"⟩ ⟨"MangleLine$Script", "tell", "(LMangleLine$Laundry;)I"⟩ ∈ mm_ws := mm_i0 (i := 2) rfl rfl
theorem mw_0_3 : Cond.selects "MangleLine$Tape" ⟨"MangleLine$Tape", "rewind", "()V"⟩ ⟨"MangleLine$Tape", "rewind", "()V"⟩ ∈ mm_ws := mm_i0 (i := 3) rfl rfl
theorem mw_0_4 : Cond.selects "MangleLine$Script" ⟨"MangleLine$Script", "takeToken", "()Z"⟩ ⟨"MangleLine$Script", "takeToken", "()Z"⟩ ∈ mm_ws := mm_i0 (i := 4) rfl rfl
theorem mw_0_5 : Cond.selects "MangleLine$Tape" ⟨"MangleLine$Tape", "readToken", "()V"⟩ ⟨"MangleLine$Tape", "readToken", "()V"⟩ ∈ mm_ws := mm_i0 (i := 5) rfl rfl
theorem mw_0_6 : Cond.selects "MangleLine$Tape" ⟨"MangleLine$Tape", "readFigures", "()V"⟩ ⟨"MangleLine$Tape", "readFigures", "()V"⟩ ∈ mm_ws := mm_i0 (i := 6) rfl rfl
theorem mw_0_7 : Cond.selects "MangleLine$Script" ⟨"MangleLine$Script", "blame", "(I)Z"⟩ ⟨"MangleLine$Script", "blame", "(I)Z"⟩ ∈ mm_ws := mm_i0 (i := 7) rfl rfl
theorem mw_0_8 : Cond.selects "MangleLine$Script" ⟨"MangleLine$Script", "tellLine", "(LMangleLine$Laundry;)Z"⟩ ⟨"MangleLine$Script", "tellLine", "(LMangleLine$Laundry;)Z"⟩ ∈ mm_ws := mm_i0 (i := 8) rfl rfl
theorem mw_0_9 : Cond.selects "MangleLine$Tape" ⟨"MangleLine$Tape", "word", "()I"⟩ ⟨"MangleLine$Tape", "word", "()I"⟩ ∈ mm_ws := mm_i0 (i := 9) rfl rfl
theorem mw_0_10 : Cond.selects "MangleLine$Tape" ⟨"MangleLine$Tape", "isSpelt", "(Ljava/lang/String;)Z"⟩ ⟨"MangleLine$Tape", "isSpelt", "(Ljava/lang/String;)Z"⟩ ∈ mm_ws := mm_i0 (i := 10) rfl rfl
theorem mw_0_11 : Cond.selects "MangleLine$Script" ⟨"MangleLine$Script", "tellOne", "(LMangleLine$Laundry;I)Z"⟩ ⟨"MangleLine$Script", "tellOne", "(LMangleLine$Laundry;I)Z"⟩ ∈ mm_ws := mm_i0 (i := 11) rfl rfl
theorem mw_0_12 : Cond.selects "MangleLine$Script" ⟨"MangleLine$Script", "isNumber", "(II)Z"⟩ ⟨"MangleLine$Script", "isNumber", "(II)Z"⟩ ∈ mm_ws := mm_i0 (i := 12) rfl rfl
theorem mw_0_13 : Cond.selects "MangleLine$Laundry" ⟨"MangleLine$Laundry", "admit", "(II)I"⟩ ⟨"MangleLine$Laundry", "admit", "(II)I"⟩ ∈ mm_ws := mm_i0 (i := 13) rfl rfl
theorem mw_0_14 : Cond.selects "MangleLine$Script" ⟨"MangleLine$Script", "isStop", "()Z"⟩ ⟨"MangleLine$Script", "isStop", "()Z"⟩ ∈ mm_ws := mm_i0 (i := 14) rfl rfl
theorem mw_0_15 : Cond.selects "MangleLine$Script" ⟨"MangleLine$Script", "tellSuns", "(LMangleLine$Laundry;)Z"⟩ ⟨"MangleLine$Script", "tellSuns", "(LMangleLine$Laundry;)Z"⟩ ∈ mm_ws := mm_i0 (i := 15) rfl rfl
theorem mw_0_16 : Cond.selects "MangleLine$Script" ⟨"MangleLine$Script", "tellRule", "(LMangleLine$Laundry;I)Z"⟩ ⟨"MangleLine$Script", "tellRule", "(LMangleLine$Laundry;I)Z"⟩ ∈ mm_ws := mm_i0 (i := 16) rfl rfl
theorem mw_0_17 : Cond.selects "MangleLine$Laundry" ⟨"MangleLine$Laundry", "become", "(LMangleLine$Laundry;)V"⟩ ⟨"MangleLine$Laundry", "become", "(LMangleLine$Laundry;)V"⟩ ∈ mm_ws := mm_i0 (i := 17) rfl rfl
theorem mw_0_18 : Cond.selects "MangleLine$Laundry" ⟨"MangleLine$Laundry", "whoIsAt", "(I)I"⟩ ⟨"MangleLine$Laundry", "whoIsAt", "(I)I"⟩ ∈ mm_ws := mm_i0 (i := 18) rfl rfl
theorem mw_0_19 : Cond.selects "MangleLine$Laundry" ⟨"MangleLine$Laundry", "greyOfAll", "()I"⟩ ⟨"MangleLine$Laundry", "greyOfAll", "()I"⟩ ∈ mm_ws := mm_i0 (i := 19) rfl rfl
theorem mw_0_20 : Cond.selects "MangleLine$Laundry" ⟨"MangleLine$Laundry", "sunToday", "()I"⟩ ⟨"MangleLine$Laundry", "sunToday", "()I"⟩ ∈ mm_ws := mm_i0 (i := 20) rfl rfl
theorem mw_0_21 : Cond.selects "MangleLine" ⟨"MangleLine", "isOne", "(I)Z"⟩ ⟨"MangleLine", "isOne", "(I)Z"⟩ ∈ mm_ws := mm_i0 (i := 21) rfl rfl
theorem mw_0_22 : Cond.selects "MangleLine$Laundry" ⟨"MangleLine$Laundry", "scrubs", "(I)I"⟩ ⟨"MangleLine$Laundry", "scrubs", "(I)I"⟩ ∈ mm_ws := mm_i0 (i := 22) rfl rfl
theorem mw_0_23 : Cond.selects "MangleLine$Laundry" ⟨"MangleLine$Laundry", "dries", "(II)I"⟩ ⟨"MangleLine$Laundry", "dries", "(II)I"⟩ ∈ mm_ws := mm_i0 (i := 23) rfl rfl
theorem mw_0_24 : Cond.selects "MangleLine$Laundry" ⟨"MangleLine$Laundry", "passDays", "(I)I"⟩ ⟨"MangleLine$Laundry", "passDays", "(I)I"⟩ ∈ mm_ws := mm_i0 (i := 24) rfl rfl
theorem mw_0_25 : Cond.selects "MangleLine$Laundry" ⟨"MangleLine$Laundry", "passDay", "(I)I"⟩ ⟨"MangleLine$Laundry", "passDay", "(I)I"⟩ ∈ mm_ws := mm_i0 (i := 25) rfl rfl
theorem mw_0_26 : Cond.selects "MangleLine$Laundry" ⟨"MangleLine$Laundry", "boilBatch", "()V"⟩ ⟨"MangleLine$Laundry", "boilBatch", "()V"⟩ ∈ mm_ws := mm_i0 (i := 26) rfl rfl
theorem mw_0_27 : Cond.selects "MangleLine$Laundry" ⟨"MangleLine$Laundry", "dryLine", "(I)I"⟩ ⟨"MangleLine$Laundry", "dryLine", "(I)I"⟩ ∈ mm_ws := mm_i0 (i := 27) rfl rfl
theorem mw_0_28 : Cond.selects "MangleLine$Laundry" ⟨"MangleLine$Laundry", "daysTillHome", "(II)I"⟩ ⟨"MangleLine$Laundry", "daysTillHome", "(II)I"⟩ ∈ mm_ws := mm_i0 (i := 28) rfl rfl
theorem mw_0_29 : Cond.selects "MangleLine" ⟨"MangleLine", "daysAsItIs", "()I"⟩ ⟨"MangleLine", "daysAsItIs", "()I"⟩ ∈ mm_ws := mm_i0 (i := 29) rfl rfl
theorem mw_0_30 : Cond.selects "MangleLine$Laundry" ⟨"MangleLine$Laundry", "daysTillDone", "(I)I"⟩ ⟨"MangleLine$Laundry", "daysTillDone", "(I)I"⟩ ∈ mm_ws := mm_i0 (i := 30) rfl rfl
theorem mw_0_31 : Cond.selects "MangleLine$Laundry" ⟨"MangleLine$Laundry", "allAreHome", "()Z"⟩ ⟨"MangleLine$Laundry", "allAreHome", "()Z"⟩ ∈ mm_ws := mm_i0 (i := 31) rfl rfl
theorem mw_0_32 : Cond.selects "MangleLine" ⟨"MangleLine", "leastOfRule", "(II)I"⟩ ⟨"MangleLine", "leastOfRule", "(II)I"⟩ ∈ mm_ws := mm_i0 (i := 32) rfl rfl
theorem mw_0_33 : Cond.selects "MangleLine$Choice" ⟨"MangleLine$Choice", "begin", "(I)V"⟩ ⟨"MangleLine$Choice", "begin", "(I)V"⟩ ∈ mm_ws := mm_i0 (i := 33) rfl rfl
theorem mw_0_34 : Cond.selects "MangleLine$Choice" ⟨"MangleLine$Choice", "offer", "(II)V"⟩ ⟨"MangleLine$Choice", "offer", "(II)V"⟩ ∈ mm_ws := mm_i0 (i := 34) rfl rfl
theorem mw_0_35 : Cond.selects "MangleLine$Choice" ⟨"MangleLine$Choice", "tell", "(I)I"⟩ ⟨"MangleLine$Choice", "tell", "(I)I"⟩ ∈ mm_ws := mm_i0 (i := 35) rfl rfl
theorem mw_0_36 : Cond.selects "MangleLine$Laundry" ⟨"MangleLine$Laundry", "exchange", "(II)V"⟩ ⟨"MangleLine$Laundry", "exchange", "(II)V"⟩ ∈ mm_ws := mm_i0 (i := 36) rfl rfl
theorem mw_0_37 : Cond.selects "MangleLine" ⟨"MangleLine", "rainFraction", "(IIII)J"⟩ ⟨"MangleLine", "rainFraction", "(IIII)J"⟩ ∈ mm_ws := mm_i0 (i := 37) rfl rfl
theorem mw_0_38 : Cond.selects "MangleLine" ⟨"MangleLine", "weigh", "(IIII)J"⟩ ⟨"MangleLine", "weigh", "(IIII)J"⟩ ∈ mm_ws := mm_i0 (i := 38) rfl rfl
theorem mw_0_39 : Cond.selects "MangleLine" ⟨"MangleLine", "weighUnder", "(IIIII)J"⟩ ⟨"MangleLine", "weighUnder", "(IIIII)J"⟩ ∈ mm_ws := mm_i0 (i := 39) rfl rfl
theorem mw_0_40 : Cond.selects "MangleLine$Sightings" ⟨"MangleLine$Sightings", "note", "(III)Z"⟩ ⟨"MangleLine$Sightings", "note", "(III)Z"⟩ ∈ mm_ws := mm_i0 (i := 40) rfl rfl
theorem mw_0_41 : Cond.selects "MangleLine$Sightings" ⟨"MangleLine$Sightings", "agreeWith", "(LMangleLine$Laundry;)Z"⟩ ⟨"MangleLine$Sightings", "agreeWith", "(LMangleLine$Laundry;)Z"⟩ ∈ mm_ws := mm_i0 (i := 41) rfl rfl
theorem mw_0_42 : Cond.selects "MangleLine$Sightings" ⟨"MangleLine$Sightings", "lastLook", "()I"⟩ ⟨"MangleLine$Sightings", "lastLook", "()I"⟩ ∈ mm_ws := mm_i0 (i := 42) rfl rfl
theorem mw_0_43 : Cond.selects "MangleLine$Sightings" ⟨"MangleLine$Sightings", "agreeOn", "(ILMangleLine$Laundry;)Z"⟩ ⟨"MangleLine$Sightings", "agreeOn", "(ILMangleLine$Laundry;)Z"⟩ ∈ mm_ws := mm_i0 (i := 43) rfl rfl
theorem mw_0_44 : Cond.selects "MangleLine" ⟨"MangleLine", "greysAsSeen", "(I)I"⟩ ⟨"MangleLine", "greysAsSeen", "(I)I"⟩ ∈ mm_ws := mm_i0 (i := 44) rfl rfl
theorem mw_0_45 : Cond.selects "MangleLine" ⟨"MangleLine", "tallyPlaces", "(II)V"⟩ ⟨"MangleLine", "tallyPlaces", "(II)V"⟩ ∈ mm_ws := mm_i0 (i := 45) rfl rfl
theorem mw_0_46 : Cond.selects "MangleLine" ⟨"MangleLine", "mostLeft", "(II)I"⟩ ⟨"MangleLine", "mostLeft", "(II)I"⟩ ∈ mm_ws := mm_i0 (i := 46) rfl rfl
theorem mw_0_47 : Cond.selects "MangleLine$Laundry" ⟨"MangleLine$Laundry", "soil", "(II)V"⟩ ⟨"MangleLine$Laundry", "soil", "(II)V"⟩ ∈ mm_ws := mm_i0 (i := 47) rfl rfl
theorem mw_0_48 : Cond.selects "MangleLine$Sightings" ⟨"MangleLine$Sightings", "become", "(LMangleLine$Sightings;)V"⟩ ⟨"MangleLine$Sightings", "become", "(LMangleLine$Sightings;)V"⟩ ∈ mm_ws := mm_i0 (i := 48) rfl rfl
theorem mw_0_49 : Cond.selects "MangleLine$Sheet" ⟨"MangleLine$Sheet", "renew", "(II)V"⟩ ⟨"MangleLine$Sheet", "renew", "(II)V"⟩ ∈ mm_ws := mm_i0 (i := 49) rfl rfl
theorem mw_0_50 : Cond.selects "MangleLine$Sheet" ⟨"MangleLine$Sheet", "isNothing", "()Z"⟩ ⟨"MangleLine$Sheet", "isNothing", "()Z"⟩ ∈ mm_ws := mm_i0 (i := 50) rfl rfl
theorem mw_0_51 : Cond.selects "MangleLine$Sheet" ⟨"MangleLine$Sheet", "hasCell", "(I)Z"⟩ ⟨"MangleLine$Sheet", "hasCell", "(I)Z"⟩ ∈ mm_ws := mm_i0 (i := 51) rfl rfl
theorem mw_0_52 : Cond.selects "MangleLine$Sheet" ⟨"MangleLine$Sheet", "write", "(II)V"⟩ ⟨"MangleLine$Sheet", "write", "(II)V"⟩ ∈ mm_ws := mm_i0 (i := 52) rfl rfl
theorem mw_0_53 : Cond.selects "MangleLine$Sheet" ⟨"MangleLine$Sheet", "wholePairs", "(III)I"⟩ ⟨"MangleLine$Sheet", "wholePairs", "(III)I"⟩ ∈ mm_ws := mm_i0 (i := 53) rfl rfl
theorem mw_0_54 : Cond.selects "MangleLine$Sheet" ⟨"MangleLine$Sheet", "isAnotherLane", "(I)Z"⟩ ⟨"MangleLine$Sheet", "isAnotherLane", "(I)Z"⟩ ∈ mm_ws := mm_i0 (i := 54) rfl rfl
theorem mw_0_55 : Cond.selects "MangleLine$Sheet" ⟨"MangleLine$Sheet", "faultOfReading", "(IZ)I"⟩ ⟨"MangleLine$Sheet", "faultOfReading", "(IZ)I"⟩ ∈ mm_ws := mm_i0 (i := 55) rfl rfl
theorem mw_0_56 : Cond.selects "MangleLine" ⟨"MangleLine", "imagesKept", "()I"⟩ ⟨"MangleLine", "imagesKept", "()I"⟩ ∈ mm_ws := mm_i0 (i := 56) rfl rfl
theorem mw_0_57 : Cond.selects "MangleLine$Laundry" ⟨"MangleLine$Laundry", "wetOfAll", "()I"⟩ ⟨"MangleLine$Laundry", "wetOfAll", "()I"⟩ ∈ mm_ws := mm_i0 (i := 57) rfl rfl
theorem mw_0_58 : Cond.selects "MangleLine$Laundry" ⟨"MangleLine$Laundry", "sunOfAll", "()I"⟩ ⟨"MangleLine$Laundry", "sunOfAll", "()I"⟩ ∈ mm_ws := mm_i0 (i := 58) rfl rfl
theorem mw_0_59 : Cond.selects "MangleLineModel" ⟨"MangleLineModel", "firstDraft", "()V"⟩ ⟨"MangleLineModel", "firstDraft", "()V"⟩ ∈ mm_ws := mm_i0 (i := 59) rfl rfl
theorem mw_0_60 : Cond.selects "MangleLineModel" ⟨"MangleLineModel", "keepDraft", "()V"⟩ ⟨"MangleLineModel", "keepDraft", "()V"⟩ ∈ mm_ws := mm_i0 (i := 60) rfl rfl
theorem mw_0_61 : Cond.selects "MangleLineModel" ⟨"MangleLineModel", "reads", "()V"⟩ ⟨"MangleLineModel", "reads", "()V"⟩ ∈ mm_ws := mm_i0 (i := 61) rfl rfl
theorem mw_0_62 : Cond.selects "MangleLineModel" ⟨"MangleLineModel", "byteAt", "(I)I"⟩ ⟨"MangleLineModel", "byteAt", "(I)I"⟩ ∈ mm_ws := mm_i0 (i := 62) rfl rfl
theorem mw_0_63 : Cond.selects "MangleLineModel" ⟨"MangleLineModel", "requires", "(ZI)V"⟩ ⟨"MangleLineModel", "requires", "(ZI)V"⟩ ∈ mm_ws := mm_i0 (i := 63) rfl rfl
theorem mw_0_64 : Cond.selects "MangleLineModel" ⟨"MangleLineModel", "readLine", "()V"⟩ ⟨"MangleLineModel", "readLine", "()V"⟩ ∈ mm_ws := mm_i0 (i := 64) rfl rfl
theorem mw_0_65 : Cond.selects "MangleLineModel" ⟨"MangleLineModel", "lineNow", "()I"⟩ ⟨"MangleLineModel", "lineNow", "()I"⟩ ∈ mm_ws := mm_i0 (i := 65) rfl rfl
theorem mw_0_66 : Cond.selects "MangleLineModel" ⟨"MangleLineModel", "is", "(IIII)Z"⟩ ⟨"MangleLineModel", "is", "(IIII)Z"⟩ ∈ mm_ws := mm_i0 (i := 66) rfl rfl
theorem mw_0_67 : Cond.selects "MangleLineModel" ⟨"MangleLineModel", "endsIn", "(III)Z"⟩ ⟨"MangleLineModel", "endsIn", "(III)Z"⟩ ∈ mm_ws := mm_i0 (i := 67) rfl rfl
theorem mw_0_68 : Cond.selects "MangleLineModel" ⟨"MangleLineModel", "ruleNow", "()I"⟩ ⟨"MangleLineModel", "ruleNow", "()I"⟩ ∈ mm_ws := mm_i0 (i := 68) rfl rfl
theorem mw_0_69 : Cond.selects "MangleLineModel" ⟨"MangleLineModel", "readLineOf", "(I)V"⟩ ⟨"MangleLineModel", "readLineOf", "(I)V"⟩ ∈ mm_ws := mm_i0 (i := 69) rfl rfl
theorem mw_0_70 : Cond.selects "MangleLineModel" ⟨"MangleLineModel", "readNumber", "(II)I"⟩ ⟨"MangleLineModel", "readNumber", "(II)I"⟩ ∈ mm_ws := mm_i0 (i := 70) rfl rfl
theorem mw_0_71 : Cond.selects "MangleLineModel" ⟨"MangleLineModel", "readSuns", "()V"⟩ ⟨"MangleLineModel", "readSuns", "()V"⟩ ∈ mm_ws := mm_i0 (i := 71) rfl rfl
theorem mw_0_72 : Cond.selects "MangleLineModel" ⟨"MangleLineModel", "starts", "()V"⟩ ⟨"MangleLineModel", "starts", "()V"⟩ ∈ mm_ws := mm_i0 (i := 72) rfl rfl
theorem mw_0_73 : Cond.selects "MangleLineModel" ⟨"MangleLineModel", "those", "(I)I"⟩ ⟨"MangleLineModel", "those", "(I)I"⟩ ∈ mm_ws := mm_i0 (i := 73) rfl rfl
theorem mw_0_74 : Cond.selects "MangleLineModel" ⟨"MangleLineModel", "of", "(II)I"⟩ ⟨"MangleLineModel", "of", "(II)I"⟩ ∈ mm_ws := mm_i0 (i := 74) rfl rfl
theorem mw_0_75 : Cond.selects "MangleLineModel" ⟨"MangleLineModel", "sumOf", "(I)I"⟩ ⟨"MangleLineModel", "sumOf", "(I)I"⟩ ∈ mm_ws := mm_i0 (i := 75) rfl rfl
theorem mw_0_76 : Cond.selects "MangleLineModel" ⟨"MangleLineModel", "sunNow", "()I"⟩ ⟨"MangleLineModel", "sunNow", "()I"⟩ ∈ mm_ws := mm_i0 (i := 76) rfl rfl
theorem mw_0_77 : Cond.selects "MangleLineModel" ⟨"MangleLineModel", "isOne", "(I)Z"⟩ ⟨"MangleLineModel", "isOne", "(I)Z"⟩ ∈ mm_ws := mm_i0 (i := 77) rfl rfl
theorem mw_0_78 : Cond.selects "MangleLineModel" ⟨"MangleLineModel", "scrubs", "(I)I"⟩ ⟨"MangleLineModel", "scrubs", "(I)I"⟩ ∈ mm_ws := mm_i0 (i := 78) rfl rfl
theorem mw_0_79 : Cond.selects "MangleLineModel" ⟨"MangleLineModel", "dries", "(II)I"⟩ ⟨"MangleLineModel", "dries", "(II)I"⟩ ∈ mm_ws := mm_i0 (i := 79) rfl rfl
theorem mw_0_80 : Cond.selects "MangleLineModel" ⟨"MangleLineModel", "becomes", "(II)I"⟩ ⟨"MangleLineModel", "becomes", "(II)I"⟩ ∈ mm_ws := mm_i0 (i := 80) rfl rfl
theorem mw_0_81 : Cond.selects "MangleLineModel" ⟨"MangleLineModel", "daysGo", "(I)V"⟩ ⟨"MangleLineModel", "daysGo", "(I)V"⟩ ∈ mm_ws := mm_i0 (i := 81) rfl rfl
theorem mw_0_82 : Cond.selects "MangleLineModel" ⟨"MangleLineModel", "dayGoesBy", "(I)V"⟩ ⟨"MangleLineModel", "dayGoesBy", "(I)V"⟩ ∈ mm_ws := mm_i0 (i := 82) rfl rfl
theorem mw_0_83 : Cond.selects "MangleLineModel" ⟨"MangleLineModel", "boils", "()V"⟩ ⟨"MangleLineModel", "boils", "()V"⟩ ∈ mm_ws := mm_i0 (i := 83) rfl rfl
theorem mw_0_84 : Cond.selects "MangleLineModel" ⟨"MangleLineModel", "becomesOf", "(III)V"⟩ ⟨"MangleLineModel", "becomesOf", "(III)V"⟩ ∈ mm_ws := mm_i0 (i := 84) rfl rfl
theorem mw_0_85 : Cond.selects "MangleLineModel" ⟨"MangleLineModel", "manyAt", "(I)I"⟩ ⟨"MangleLineModel", "manyAt", "(I)I"⟩ ∈ mm_ws := mm_i0 (i := 85) rfl rfl
theorem mw_0_86 : Cond.selects "MangleLineModel" ⟨"MangleLineModel", "hangs", "(II)V"⟩ ⟨"MangleLineModel", "hangs", "(II)V"⟩ ∈ mm_ws := mm_i0 (i := 86) rfl rfl
theorem mw_0_87 : Cond.selects "MangleLineModel" ⟨"MangleLineModel", "settles", "()V"⟩ ⟨"MangleLineModel", "settles", "()V"⟩ ∈ mm_ws := mm_i0 (i := 87) rfl rfl
theorem mw_0_88 : Cond.selects "MangleLineModel" ⟨"MangleLineModel", "daysTo", "()I"⟩ ⟨"MangleLineModel", "daysTo", "()I"⟩ ∈ mm_ws := mm_i0 (i := 88) rfl rfl
theorem mw_0_89 : Cond.selects "MangleLineModel" ⟨"MangleLineModel", "isDone", "()Z"⟩ ⟨"MangleLineModel", "isDone", "()Z"⟩ ∈ mm_ws := mm_i0 (i := 89) rfl rfl
theorem mw_0_90 : Cond.selects "MangleLineModel" ⟨"MangleLineModel", "leastRule", "(II)I"⟩ ⟨"MangleLineModel", "leastRule", "(II)I"⟩ ∈ mm_ws := mm_i0 (i := 90) rfl rfl
theorem mw_0_91 : Cond.selects "MangleLineModel" ⟨"MangleLineModel", "startsJudging", "(I)V"⟩ ⟨"MangleLineModel", "startsJudging", "(I)V"⟩ ∈ mm_ws := mm_i0 (i := 91) rfl rfl
theorem mw_0_92 : Cond.selects "MangleLineModel" ⟨"MangleLineModel", "judges", "(II)V"⟩ ⟨"MangleLineModel", "judges", "(II)V"⟩ ∈ mm_ws := mm_i0 (i := 92) rfl rfl
theorem mw_0_93 : Cond.selects "MangleLineModel" ⟨"MangleLineModel", "judged", "(I)I"⟩ ⟨"MangleLineModel", "judged", "(I)I"⟩ ∈ mm_ws := mm_i0 (i := 93) rfl rfl
theorem mw_0_94 : Cond.selects "MangleLineModel" ⟨"MangleLineModel", "findOdds", "(III)V"⟩ ⟨"MangleLineModel", "findOdds", "(III)V"⟩ ∈ mm_ws := mm_i0 (i := 94) rfl rfl
theorem mw_0_95 : Cond.selects "MangleLineModel" ⟨"MangleLineModel", "which", "(II)I"⟩ ⟨"MangleLineModel", "which", "(II)I"⟩ ∈ mm_ws := mm_i0 (i := 95) rfl rfl
theorem mw_0_96 : Cond.selects "MangleLineModel" ⟨"MangleLineModel", "isSoWith", "(II)Z"⟩ ⟨"MangleLineModel", "isSoWith", "(II)Z"⟩ ∈ mm_ws := mm_i0 (i := 96) rfl rfl
theorem mw_0_97 : Cond.selects "MangleLineModel" ⟨"MangleLineModel", "copies", "(II)V"⟩ ⟨"MangleLineModel", "copies", "(II)V"⟩ ∈ mm_ws := mm_i0 (i := 97) rfl rfl
end
section
/-! memory of a system whose objects are all there: cell, place, number; the shape of each cell; the world of it -/
abbrev mm_M : Type := Nat → Nat → Int32
abbrev mm_S : Type := List ((Nat → Int32) → va_E)
def mm_row (M : mm_M) (o : Nat) (g : Nat → Int32) : mm_M := fun a => if a = o then g else M a
def mm_up (M : mm_M) (o k : Nat) (v : Int32) : mm_M := mm_row M o (upd (M o) k v)
def mm_w (ad : Nat → Nat) (sh : mm_S) (M : mm_M) : va_W := sh.mapIdx (fun o f => (ad o, f (M o)))
theorem mm_w_get {ad : Nat → Nat} {sh : mm_S} {M : mm_M} {o : Nat} {f : (Nat → Int32) → va_E} (h : sh[o]? = some f) : (mm_w ad sh M)[o]? = some (ad o, f (M o)) := by
  simp [mm_w, h]
theorem mm_w_set {ad : Nat → Nat} {sh : mm_S} {M : mm_M} {o : Nat} {f : (Nat → Int32) → va_E} {g : Nat → Int32} (h : sh[o]? = some f) : (mm_w ad sh M).set o (ad o, f g) = mm_w ad sh (mm_row M o g) := by
  apply List.ext_getElem?
  intro k
  have hlt : o < sh.length := (List.getElem?_eq_some_iff.mp h).1
  by_cases hk : o = k
  · subst hk
    simp [mm_w, List.getElem?_set, mm_row, hlt, (List.getElem?_eq_some_iff.mp h).2]
  · have hk2 : ¬ k = o := fun e => hk e.symm
    simp [mm_w, List.getElem?_set, hk, mm_row, hk2]
/-- an index inside -/
def mm_in (i : Int32) (n : Nat) : Bool := !decide (i < 0) && decide (i.toNatClampNeg < n)
theorem mm_in_vp {i : Int32} {n : Nat} (h : mm_in i n = true) : vp_in i n := by
  simp only [mm_in, Bool.and_eq_true, Bool.not_eq_true', decide_eq_false_iff_not, decide_eq_true_eq] at h
  intro q
  rcases q with q | q
  · exact h.1 q
  · omega
theorem mm_in_lt {i : Int32} {n : Nat} (h : mm_in i n = true) : i.toNatClampNeg < n := by
  simp only [mm_in, Bool.and_eq_true, Bool.not_eq_true', decide_eq_false_iff_not, decide_eq_true_eq] at h
  exact h.2
/-- the surroundings: class numbers, addresses of cells, what may change, array classes (int, boolean, Image, Laundry, Sheet), static arrays, String constants and their bytes -/
abbrev mm_G : Type := va_G × (Nat → Nat) × (Nat → Prop) × (Nat → ClassId) × (Nat → Nat) × (Nat → Nat) × (Nat → Nat)
abbrev mm_D (G : mm_G) : va_G := G.1
abbrev mm_ad (G : mm_G) : Nat → Nat := G.2.1
abbrev mm_A (G : mm_G) : Nat → Prop := G.2.2.1
abbrev mm_cy (G : mm_G) : Nat → ClassId := G.2.2.2.1
abbrev mm_sa (G : mm_G) : Nat → Nat := G.2.2.2.2.1
abbrev mm_aK (G : mm_G) : Nat → Nat := G.2.2.2.2.2.1
abbrev mm_aV (G : mm_G) : Nat → Nat := G.2.2.2.2.2.2
abbrev mm_ty (G : mm_G) : List (ClassId × FieldType) := [(mm_cy G 0, .int), (mm_cy G 1, .boolean), (mm_cy G 2, .object RX1), (mm_cy G 3, .object RX2), (mm_cy G 4, .object RX4)]
def mm_nest : List Cond := [.methodLinkNest "MangleLine" 11 ⟨"MangleLine$Laundry", "<init>", "()V"⟩ "MangleLine",
  .fieldLinkNest "MangleLine$Laundry" 40 "MangleLine" "RULE_AT_FIRST" "[I" "MangleLine",
  .fieldLinkNest "MangleLine$Script" 70 "MangleLine$Laundry" "size" "I" "MangleLine",
  .fieldLinkNest "MangleLine" 101 "MangleLine$Laundry" "size" "I" "MangleLine",
  .fieldLinkNest "MangleLine" 102 "MangleLine$Laundry" "day" "I" "MangleLine",
  .fieldLinkNest "MangleLine" 166 "MangleLine$Laundry" "boiled" "I" "MangleLine",
  .fieldLinkNest "MangleLine" 122 "MangleLine$Laundry" "kinds" "[I" "MangleLine",
  .fieldLinkNest "MangleLine" 125 "MangleLine$Laundry" "greys" "[I" "MangleLine",
  .fieldLinkNest "MangleLine" 128 "MangleLine$Laundry" "wets" "[I" "MangleLine",
  .fieldLinkNest "MangleLine$Sightings" 54 "MangleLine$Laundry" "places" "[I" "MangleLine",
  .fieldLinkNest "MangleLine" 131 "MangleLine$Laundry" "places" "[I" "MangleLine",
  .fieldLinkNest "MangleLine" 116 "MangleLine$Laundry" "rules" "[I" "MangleLine",
  .fieldLinkNest "MangleLine$Script" 94 "MangleLine$Laundry" "rules" "[I" "MangleLine",
  .fieldLinkNest "MangleLine$Script" 97 "MangleLine$Laundry" "suns" "[I" "MangleLine",
  .fieldLinkNest "MangleLine" 144 "MangleLine$Laundry" "suns" "[I" "MangleLine",
  .methodLinkNest "MangleLine" 25 ⟨"MangleLine$Tape", "<init>", "()V"⟩ "MangleLine",
  .fieldLinkNest "MangleLine" 79 "MangleLine$Tape" "length" "I" "MangleLine",
  .fieldLinkNest "MangleLine$Script" 36 "MangleLine$Tape" "token" "I" "MangleLine",
  .fieldLinkNest "MangleLine$Script" 46 "MangleLine$Tape" "start" "I" "MangleLine",
  .fieldLinkNest "MangleLine$Script" 77 "MangleLine$Tape" "number" "I" "MangleLine",
  .methodLinkNest "MangleLine" 32 ⟨"MangleLine$Script", "<init>", "(LMangleLine$Tape;)V"⟩ "MangleLine",
  .fieldLinkNest "MangleLine" 98 "MangleLine$Script" "fault" "I" "MangleLine",
  .methodLinkNest "MangleLine" 41 ⟨"MangleLine$Sightings", "<init>", "()V"⟩ "MangleLine",
  .fieldLinkNest "MangleLine" 91 "MangleLine$Sightings" "size" "I" "MangleLine",
  .methodLinkNest "MangleLine" 48 ⟨"MangleLine$Choice", "<init>", "()V"⟩ "MangleLine",
  .methodLinkNest "MangleLine" 69 ⟨"MangleLine$Image", "<init>", "()V"⟩ "MangleLine",
  .methodLinkNest "MangleLine$Image" 9 ⟨"MangleLine$Laundry", "<init>", "()V"⟩ "MangleLine",
  .methodLinkNest "MangleLine$Image" 18 ⟨"MangleLine$Sightings", "<init>", "()V"⟩ "MangleLine",
  .fieldLinkNest "MangleLine" 94 "MangleLine$Image" "kept" "Z" "MangleLine",
  .fieldLinkNest "MangleLine" 231 "MangleLine$Image" "laundry" "LMangleLine$Laundry;" "MangleLine",
  .fieldLinkNest "MangleLine" 234 "MangleLine$Image" "seen" "LMangleLine$Sightings;" "MangleLine",
  .methodLinkNest "MangleLine" 70 ⟨"MangleLine$Sheet", "<init>", "()V"⟩ "MangleLine",
  .fieldLinkNest "MangleLine" 274 "MangleLine$Sheet" "length" "I" "MangleLine",
  .fieldLinkNest "MangleLine" 261 "MangleLine$Sheet" "cells" "[I" "MangleLine",
  .methodLinkNest "MangleLine" 75 ⟨"MangleLine$Tape", "append", "(I)Z"⟩ "MangleLine",
  .methodLinkNest "MangleLine" 83 ⟨"MangleLine$Script", "tell", "(LMangleLine$Laundry;)I"⟩ "MangleLine",
  .methodLinkNest "MangleLine$Script" 22 ⟨"MangleLine$Laundry", "clear", "()V"⟩ "MangleLine",
  .methodLinkNest "MangleLine$Script" 27 ⟨"MangleLine$Tape", "rewind", "()V"⟩ "MangleLine",
  .methodLinkNest "MangleLine$Script" 49 ⟨"MangleLine$Tape", "readToken", "()V"⟩ "MangleLine",
  .methodLinkNest "MangleLine$Script" 56 ⟨"MangleLine$Tape", "word", "()I"⟩ "MangleLine",
  .methodLinkNest "MangleLine$Script" 100 ⟨"MangleLine", "within", "(III)Z"⟩ "MangleLine",
  .methodLinkNest "MangleLine$Script" 80 ⟨"MangleLine$Laundry", "admit", "(II)I"⟩ "MangleLine",
  .methodLinkNest "MangleLine$Laundry" 55 ⟨"MangleLine", "within", "(III)Z"⟩ "MangleLine",
  .fieldLinkNest "MangleLine$Script" 87 "MangleLine" "RULE_LEAST" "[I" "MangleLine",
  .fieldLinkNest "MangleLine$Script" 91 "MangleLine" "RULE_MOST" "[I" "MangleLine",
  .methodLinkNest "MangleLine" 87 ⟨"MangleLine$Laundry", "become", "(LMangleLine$Laundry;)V"⟩ "MangleLine",
  .methodLinkNest "MangleLine" 105 ⟨"MangleLine$Laundry", "whoIsAt", "(I)I"⟩ "MangleLine",
  .methodLinkNest "MangleLine" 109 ⟨"MangleLine$Laundry", "greyOfAll", "()I"⟩ "MangleLine",
  .methodLinkNest "MangleLine" 113 ⟨"MangleLine$Laundry", "sunToday", "()I"⟩ "MangleLine",
  .methodLinkNest "MangleLine" 134 ⟨"MangleLine$Laundry", "scrubs", "(I)I"⟩ "MangleLine",
  .methodLinkNest "MangleLine" 137 ⟨"MangleLine$Laundry", "dries", "(II)I"⟩ "MangleLine",
  .methodLinkNest "MangleLine" 157 ⟨"MangleLine$Laundry", "admit", "(II)I"⟩ "MangleLine",
  .methodLinkNest "MangleLine" 160 ⟨"MangleLine$Laundry", "passDays", "(I)I"⟩ "MangleLine",
  .methodLinkNest "MangleLine" 163 ⟨"MangleLine$Laundry", "passDay", "(I)I"⟩ "MangleLine",
  .methodLinkNest "MangleLine" 174 ⟨"MangleLine$Laundry", "daysTillHome", "(II)I"⟩ "MangleLine",
  .methodLinkNest "MangleLine" 193 ⟨"MangleLine$Laundry", "daysTillDone", "(I)I"⟩ "MangleLine",
  .methodLinkNest "MangleLine" 189 ⟨"MangleLine$Choice", "begin", "(I)V"⟩ "MangleLine",
  .methodLinkNest "MangleLine" 196 ⟨"MangleLine$Choice", "offer", "(II)V"⟩ "MangleLine",
  .methodLinkNest "MangleLine" 200 ⟨"MangleLine$Choice", "tell", "(I)I"⟩ "MangleLine",
  .methodLinkNest "MangleLine" 202 ⟨"MangleLine$Laundry", "exchange", "(II)V"⟩ "MangleLine",
  .methodLinkNest "MangleLine" 211 ⟨"MangleLine$Sightings", "note", "(III)Z"⟩ "MangleLine",
  .methodLinkNest "MangleLine" 214 ⟨"MangleLine$Sightings", "agreeWith", "(LMangleLine$Laundry;)Z"⟩ "MangleLine",
  .methodLinkNest "MangleLine$Sightings" 39 ⟨"MangleLine$Laundry", "sunToday", "()I"⟩ "MangleLine",
  .methodLinkNest "MangleLine$Sightings" 44 ⟨"MangleLine$Laundry", "passDay", "(I)I"⟩ "MangleLine",
  .methodLinkNest "MangleLine" 228 ⟨"MangleLine$Laundry", "soil", "(II)V"⟩ "MangleLine",
  .methodLinkNest "MangleLine" 235 ⟨"MangleLine$Sightings", "become", "(LMangleLine$Sightings;)V"⟩ "MangleLine",
  .methodLinkNest "MangleLine" 244 ⟨"MangleLine$Sheet", "renew", "(II)V"⟩ "MangleLine",
  .methodLinkNest "MangleLine" 247 ⟨"MangleLine$Sheet", "isNothing", "()Z"⟩ "MangleLine",
  .methodLinkNest "MangleLine" 251 ⟨"MangleLine$Sheet", "hasCell", "(I)Z"⟩ "MangleLine",
  .methodLinkNest "MangleLine$Sheet" 28 ⟨"MangleLine", "within", "(III)Z"⟩ "MangleLine",
  .methodLinkNest "MangleLine" 254 ⟨"MangleLine$Sheet", "write", "(II)V"⟩ "MangleLine",
  .methodLinkNest "MangleLine" 257 ⟨"MangleLine$Sheet", "wholePairs", "(III)I"⟩ "MangleLine",
  .methodLinkNest "MangleLine" 264 ⟨"MangleLine$Sheet", "faultOfReading", "(IZ)I"⟩ "MangleLine",
  .methodLinkNest "MangleLine" 275 ⟨"MangleLine$Laundry", "wetOfAll", "()I"⟩ "MangleLine",
  .methodLinkNest "MangleLine" 278 ⟨"MangleLine$Laundry", "sunOfAll", "()I"⟩ "MangleLine"]
theorem mm_nest_ok : ∀ w ∈ mm_nest, w.onTables = true := by decide +kernel
theorem mm_nest_in : ∀ w ∈ mm_nest, w ∈ lw_tbl := by decide +kernel
def mm_isN (w : Cond) : Bool := match w with
  | .fieldLinkNest .. => true
  | .methodLinkNest .. => true
  | _ => false
theorem mm_nest_is : ∀ w ∈ mm_nest, mm_isN w = true := by decide +kernel
theorem mm_nest_warm {w : Cond} (h : w ∈ mm_nest) {s U : State} (hW : s.WarmedH U.vm) (hZ : va_Nw w s) : va_Nw w U := by
  have h1 := mm_nest_is w h
  cases w <;> first | exact va_Nw.warmF hW hZ | exact va_Nw.warmM hW hZ | (simp [mm_isN] at h1)
def mm_least (j : Nat) : Int32 := [0, 1, 0, 0, 1].getD j 0
def mm_most (j : Nat) : Int32 := [9, 6, 6, 30, 20].getD j 0
def mm_first (j : Nat) : Int32 := [3, 2, 3, 0, 8].getD j 0
def mm_len : List Nat := [5, 6, 7, 6, 4, 5, 4, 4, 4, 3]
def mm_byt : List (List Int32) := [[112, 108, 97, 105, 110], [119, 105, 99, 107, 101, 100], [99, 114, 101, 97, 115, 101, 100], [110, 97, 112, 107, 105, 110], [98, 108, 117, 101], [98, 97, 116, 99, 104], [112, 101, 103, 115], [112, 97, 115, 115], [115, 111, 97, 107], [115, 117, 110]]
def mm_wix : List Nat := [46, 48, 50, 52, 54, 56, 58, 60, 62, 64]
def mm_wtx : List String := ["plain", "wicked", "creased", "napkin", "blue", "batch", "pegs", "pass", "soak", "sun"]
/-- what nobody changes: the tables' words, the static arrays, the String constants -/
def mm_E (G : mm_G) (U : State) (H : Heap) : Prop :=
  va_K (mm_D G) vwCl (mm_ty G) U ∧ (∀ w ∈ mm_nest, va_Nw w U) ∧
  (va_Z "MangleLine" "RULE_LEAST" "[I" (.ref (mm_sa G 0)) (mm_A G) U H ∧ va_T .int (mm_sa G 0) 5 (fun j => .int (mm_least j)) (mm_A G) U H) ∧
  (va_Z "MangleLine" "RULE_MOST" "[I" (.ref (mm_sa G 1)) (mm_A G) U H ∧ va_T .int (mm_sa G 1) 5 (fun j => .int (mm_most j)) (mm_A G) U H) ∧
  (va_Z "MangleLine" "RULE_AT_FIRST" "[I" (.ref (mm_sa G 2)) (mm_A G) U H ∧ va_T .int (mm_sa G 2) 5 (fun j => .int (mm_first j)) (mm_A G) U H) ∧
  va_Z "java/lang/String" "COMPACT_STRINGS" "Z" (.int 1) (mm_A G) U H ∧
  (∀ i : Nat, i < 10 → vk_R RX6 (mm_wix.getD i 0) (mm_wtx.getD i "") (mm_aK G i) U) ∧ vk_S 10 mm_len mm_byt (mm_aK G) (mm_aV G) (mm_A G) U H
theorem mm_E_warm {G : mm_G} {s U : State} {H : Heap} {locs : List Loc} (h : mm_E G s s.heap) (hW : s.WarmedH U.vm) (hS : va_S (mm_A G) s.heap H locs) (hU : U.heap = H) : mm_E G U U.heap := by
  obtain ⟨h1, h2, ⟨h3, h4⟩, ⟨h5, h6⟩, ⟨h7, h8⟩, h9, h10, h11⟩ := h
  have hk := hS.2.1
  rw [hU]
  exact ⟨va_K.moved hW.alike h1, fun w hw => mm_nest_warm hw hW (h2 w hw), ⟨(h3.kept hk).moved hW.alike, (h4.kept hk).moved hW.alike⟩, ⟨(h5.kept hk).moved hW.alike, (h6.kept hk).moved hW.alike⟩, ⟨(h7.kept hk).moved hW.alike, (h8.kept hk).moved hW.alike⟩, (h9.kept hk).moved hW.alike, fun i hi => vk_R.warm hW (h10 i hi), (h11.kept hk).moved hW.alike⟩
theorem mm_E_same {G : mm_G} {u U : State} (hv : u.vm = U.vm) (hH : u.heap = U.heap) (h : mm_E G u u.heap) : mm_E G U U.heap := by
  obtain ⟨h1, h2, ⟨h3, h4⟩, ⟨h5, h6⟩, ⟨h7, h8⟩, h9, h10, h11⟩ := h
  have ha : u.vm.Alike U.vm := by rw [hv]; exact Vm.Alike.refl _
  rw [← hH]
  exact ⟨va_K.moved ha h1, fun w hw => va_Nw.same (mm_nest_ok w hw) hv (h2 w hw), ⟨h3.moved ha, h4.moved ha⟩, ⟨h5.moved ha, h6.moved ha⟩, ⟨h7.moved ha, h8.moved ha⟩, h9.moved ha, fun i hi => vk_R.same hv.symm (h10 i hi), h11.moved ha⟩
/-- the world of a memory -/
def mm_Wd (G : mm_G) (sh : mm_S) (M : mm_M) (U : State) : Prop := va_P (mm_D G) vwCl (mm_w (mm_ad G) sh M) U.heap ∧ va_D (mm_A G) (mm_w (mm_ad G) sh M) ∧ mm_E G U U.heap
def mm_rm (d : Nat) : Room := { frames := d, cells := 0, slots := 0, locals := 100 * d }
/-- how a method ends: what it answers, the shapes, the memory -/
abbrev mm_F : Type := Option Value × mm_S × mm_M
def mm_Q (G : mm_G) (q : mm_F) : Array Value → State → Outcome → State → Prop := fun _ st oc t => (oc = .returned q.1 ∧ mm_Wd G q.2.1 q.2.2 t) ∧ va_F (mm_A G) st t
/-- a method that is running: program, launch, environment, its start's state, method, arguments, frames below, method, code -/
abbrev mm_X : Type := Program × Launch × Env × State × MethodId × Array Value × List Frame × Method × Code
/-- its text: bytes, locals, class, what it returns, room -/
abbrev mm_Y : Type := ByteArray × Nat × String × Option FieldType × Nat
def mm_C (X : mm_X) (G : mm_G) (Y : mm_Y) : Prop :=
  X.1.tables.exec = Jvm.exec ∧ X.2.2.2.2.2.2.2.2.code = Y.1 ∧ X.2.2.2.2.2.2.2.2.maxLocals = Y.2.1 ∧ X.2.2.2.1.vm.findClass Y.2.2.1 = some X.2.2.2.2.1.cls ∧ (∀ w ∈ mm_ws, w.before X.2.2.2.2.2.1 X.2.2.2.1 = true) ∧ X.2.2.2.2.2.2.2.1.sig.returnType = Y.2.2.2.1 ∧ X.2.2.2.2.2.2.2.1.locks = false ∧ mm_E G X.2.2.2.1 X.2.2.2.1.heap
/-- from here the method comes to what f says, if f says anything -/
def mm_T (X : mm_X) (G : mm_G) (Y : mm_Y) {ρ : Type} (fin : ρ → mm_F) (sh : mm_S) (M : mm_M) (pc : Nat) (lv : List (Nat × Value)) (st : List Value) (f : Option ρ) : Prop :=
  mm_C X G Y → ∀ r : ρ, f = some r → ∀ (H : Heap) (locs : List Loc) (ls : Array Slot), va_P (mm_D G) vwCl (mm_w (mm_ad G) sh M) H → va_D (mm_A G) (mm_w (mm_ad G) sh M) → va_S (mm_A G) X.2.2.2.1.heap H locs → lv_has ls Y.2.1 lv →
    W X.1 X.2.1 X.2.2.1 (mm_rm Y.2.2.2.2) X.2.2.2.1 X.2.2.2.2.1 X.2.2.2.2.2.1 X.2.2.2.2.2.2.1 X.2.2.2.2.2.2.2.1 X.2.2.2.2.2.2.2.2 H locs 0 0 (MQ X.2.2.2.2.2.2.1 (mm_Q G (fin r)) X.2.2.2.2.2.1 X.2.2.2.1 0 0 (mm_A G)) (F0 X.2.2.2.2.1 pc ls st)
/-- a method's contract -/
def mm_K (l : Launch) (G : mm_G) (y : MethodName) (Y : mm_Y) (as : List Value) {ρ : Type} (fin : ρ → mm_F) (sh : mm_S) (M : mm_M) (f : Option ρ) : Prop :=
  ∀ r : ρ, f = some r → Met l y (.code y Y.1 Y.2.1 Y.2.2.2.1 :: mm_ws) (mm_rm Y.2.2.2.2) (va_Pc as (mm_Wd G sh M)) (mm_Q G (fin r)) 0 0 (mm_A G)
theorem mm_met {l : Launch} {G : mm_G} {y : MethodName} {Y : mm_Y} {as : List Value} {ρ : Type} {fin : ρ → mm_F} {sh : mm_S} {M : mm_M} {f : Option ρ} (hy : plainName y.cls = true) (hc : y.cls = Y.2.2.1) (hn : (lg_sl as).length ≤ Y.2.1)
    (k : ∀ X : mm_X, X.2.1 = l → mm_T X G Y fin sh M 0 (lv_args 0 as) [] f) : mm_K l G y Y as fin sh M f := by
  intro r hr
  refine Met.ofW (cc := Y.1) (maxL := Y.2.1) (ret := Y.2.2.2.1) hy rfl ?_
  intro p e s m args below meth c s₁ B hml hv
  obtain ⟨rfl, hP, hD, hE⟩ := hv
  have hts : ∀ w ∈ (Cond.code y Y.1 Y.2.1 Y.2.2.2.1 :: mm_ws), w.before as.toArray s = true := atoms_spec (ws := Cond.code y Y.1 Y.2.1 Y.2.2.2.1 :: mm_ws) B.pre
  have hl := lv_entry as (n := Y.2.1) hn
  rw [lg_entry_eq]
  generalize (lg_sl as ++ List.replicate (Y.2.1 - (lg_sl as).length) Slot.unset).toArray = ls at hl ⊢
  exact k (p, l, e, s, m, as.toArray, below, meth, c) rfl ⟨B.exec, B.bytes, hml, by rw [← hc]; exact findClass_of_methodNamed B.named, fun w hw => hts w (List.mem_cons_of_mem _ hw), B.returns, B.notSynchronized, hE⟩ r hr s.heap [] ls hP hD va_S.rf hl
theorem mm_none {X : mm_X} {G : mm_G} {Y : mm_Y} {ρ : Type} {fin : ρ → mm_F} {sh : mm_S} {M : mm_M} {pc : Nat} {lv : List (Nat × Value)} {st : List Value} : mm_T X G Y fin sh M pc lv st none := fun _ _ h => by cases h
theorem mm_lv {X : mm_X} {G : mm_G} {Y : mm_Y} {ρ : Type} {fin : ρ → mm_F} {sh : mm_S} {M : mm_M} {pc : Nat} {lv lv' : List (Nat × Value)} {st : List Value} {f : Option ρ} (ks : List Nat) (hl : lv_pick lv ks = lv') (k : mm_T X G Y fin sh M pc lv' st f) : mm_T X G Y fin sh M pc lv st f :=
  fun C r hr H locs ls hP hD hS h => k C r hr H locs ls hP hD hS (lv_sub h ks hl)
theorem mm_pc {X : mm_X} {G : mm_G} {Y : mm_Y} {ρ : Type} {fin : ρ → mm_F} {sh : mm_S} {M : mm_M} {pc pc' : Nat} {lv : List (Nat × Value)} {st : List Value} {f : Option ρ} (h : pc' = pc) (k : mm_T X G Y fin sh M pc lv st f) : mm_T X G Y fin sh M pc' lv st f := h ▸ k
theorem mm_f {X : mm_X} {G : mm_G} {Y : mm_Y} {ρ : Type} {fin : ρ → mm_F} {sh : mm_S} {M : mm_M} {pc : Nat} {lv : List (Nat × Value)} {st : List Value} {f g : Option ρ} (h : g = f) (k : mm_T X G Y fin sh M pc lv st f) : mm_T X G Y fin sh M pc lv st g := h ▸ k
end
section
section
variable {X : mm_X} {G : mm_G} {Y : mm_Y} {ρ : Type} {fin : ρ → mm_F} {sh : mm_S} {M : mm_M} {pc : Nat} {lv : List (Nat × Value)} {st : List Value} {f : Option ρ}
theorem mm_iconst (q : Nat) (hq : q = pc + 1) {n : Int} {v : Int32} (hd : decode Y.1 pc = .ok (.iconst n, 1)) (hv : Int32.ofInt n = v) (k : mm_T X G Y fin sh M q lv (.int v :: st) f) : mm_T X G Y fin sh M pc lv st f := by
  subst hq
  exact fun C r hr H locs ls hP hD hS hl => lv_iconst C.1 C.2.1 hd hv (k C r hr H locs ls hP hD hS hl)
theorem mm_bipush (q : Nat) (hq : q = pc + 2) {n : Int} {v : Int32} (hd : decode Y.1 pc = .ok (.bipush n, 2)) (hv : (Int8.ofInt n).toInt32 = v) (k : mm_T X G Y fin sh M q lv (.int v :: st) f) : mm_T X G Y fin sh M pc lv st f := by
  subst hq
  exact fun C r hr H locs ls hP hD hS hl => lv_bipush C.1 C.2.1 hd hv (k C r hr H locs ls hP hD hS hl)
theorem mm_sipush (q : Nat) (hq : q = pc + 3) {n : Int} {v : Int32} (hd : decode Y.1 pc = .ok (.sipush n, 3)) (hv : (Int16.ofInt n).toInt32 = v) (k : mm_T X G Y fin sh M q lv (.int v :: st) f) : mm_T X G Y fin sh M pc lv st f := by
  subst hq
  exact fun C r hr H locs ls hP hD hS hl => lv_sipush C.1 C.2.1 hd hv (k C r hr H locs ls hP hD hS hl)
theorem mm_lconst (q : Nat) (hq : q = pc + 1) {n : Fin 2} {v : Int64} (hd : decode Y.1 pc = .ok (.lconst n, 1)) (hv : Int64.ofNat (n : Nat) = v) (k : mm_T X G Y fin sh M q lv (.long v :: st) f) : mm_T X G Y fin sh M pc lv st f := by
  subst hq
  exact fun C r hr H locs ls hP hD hS hl => lv_lconst C.1 C.2.1 hd hv (k C r hr H locs ls hP hD hS hl)
theorem mm_iload_n (q : Nat) (hq : q = pc + 1) {n : Fin 4} {i : Nat} {x : Int32} (hd : decode Y.1 pc = .ok (.iload_n n, 1)) (hi : (n : Nat) = i) (j : Nat) (hj : lv[j]? = some (i, .int x)) (k : mm_T X G Y fin sh M q lv (.int x :: st) f) : mm_T X G Y fin sh M pc lv st f := by
  subst hq
  exact fun C r hr H locs ls hP hD hS hl => lv_iload_n C.1 C.2.1 hd hi (lv_at hl j hj) (k C r hr H locs ls hP hD hS hl)
theorem mm_iload (q : Nat) (hq : q = pc + 2) {i : Nat} {x : Int32} (hd : decode Y.1 pc = .ok (.iload i, 2)) (j : Nat) (hj : lv[j]? = some (i, .int x)) (k : mm_T X G Y fin sh M q lv (.int x :: st) f) : mm_T X G Y fin sh M pc lv st f := by
  subst hq
  exact fun C r hr H locs ls hP hD hS hl => lv_iload C.1 C.2.1 hd (lv_at hl j hj) (k C r hr H locs ls hP hD hS hl)
theorem mm_lload_n (q : Nat) (hq : q = pc + 1) {n : Fin 4} {i : Nat} {x : Int64} (hd : decode Y.1 pc = .ok (.lload_n n, 1)) (hi : (n : Nat) = i) (j : Nat) (hj : lv[j]? = some (i, .long x)) (k : mm_T X G Y fin sh M q lv (.long x :: st) f) : mm_T X G Y fin sh M pc lv st f := by
  subst hq
  exact fun C r hr H locs ls hP hD hS hl => lv_lload_n C.1 C.2.1 hd hi (lv_at hl j hj) (k C r hr H locs ls hP hD hS hl)
theorem mm_lload (q : Nat) (hq : q = pc + 2) {i : Nat} {x : Int64} (hd : decode Y.1 pc = .ok (.lload i, 2)) (j : Nat) (hj : lv[j]? = some (i, .long x)) (k : mm_T X G Y fin sh M q lv (.long x :: st) f) : mm_T X G Y fin sh M pc lv st f := by
  subst hq
  exact fun C r hr H locs ls hP hD hS hl => lv_lload C.1 C.2.1 hd (lv_at hl j hj) (k C r hr H locs ls hP hD hS hl)
theorem mm_aload_n (q : Nat) (hq : q = pc + 1) {n : Fin 4} {i : Nat} {x : Nat} (hd : decode Y.1 pc = .ok (.aload_n n, 1)) (hi : (n : Nat) = i) (j : Nat) (hj : lv[j]? = some (i, .ref x)) (k : mm_T X G Y fin sh M q lv (.ref x :: st) f) : mm_T X G Y fin sh M pc lv st f := by
  subst hq
  exact fun C r hr H locs ls hP hD hS hl => lv_aload_n C.1 C.2.1 hd hi (lv_at hl j hj) (k C r hr H locs ls hP hD hS hl)
theorem mm_aload (q : Nat) (hq : q = pc + 2) {i : Nat} {x : Nat} (hd : decode Y.1 pc = .ok (.aload i, 2)) (j : Nat) (hj : lv[j]? = some (i, .ref x)) (k : mm_T X G Y fin sh M q lv (.ref x :: st) f) : mm_T X G Y fin sh M pc lv st f := by
  subst hq
  exact fun C r hr H locs ls hP hD hS hl => lv_aload C.1 C.2.1 hd (lv_at hl j hj) (k C r hr H locs ls hP hD hS hl)
theorem mm_istore_n (q : Nat) (hq : q = pc + 1) {n : Fin 4} {i : Nat} {x : Int32} (hd : decode Y.1 pc = .ok (.istore_n n, 1)) (hi : (n : Nat) = i) {lv' : List (Nat × Value)} (hn : i < Y.2.1) (hj : (i, Value.int x) :: lv.filter (fun q => !(q.1 == i) && !(q.1 + 1 == i && q.2.category == 2)) = lv') (k : mm_T X G Y fin sh M q lv' st f) : mm_T X G Y fin sh M pc lv (.int x :: st) f := by
  subst hq
  exact fun C r hr H locs ls hP hD hS hl => lv_istore_n C.1 C.2.1 hd hi hl hn hj (fun ls hl => k C r hr H locs ls hP hD hS hl)
theorem mm_istore (q : Nat) (hq : q = pc + 2) {i : Nat} {x : Int32} (hd : decode Y.1 pc = .ok (.istore i, 2)) {lv' : List (Nat × Value)} (hn : i < Y.2.1) (hj : (i, Value.int x) :: lv.filter (fun q => !(q.1 == i) && !(q.1 + 1 == i && q.2.category == 2)) = lv') (k : mm_T X G Y fin sh M q lv' st f) : mm_T X G Y fin sh M pc lv (.int x :: st) f := by
  subst hq
  exact fun C r hr H locs ls hP hD hS hl => lv_istore C.1 C.2.1 hd hl hn hj (fun ls hl => k C r hr H locs ls hP hD hS hl)
theorem mm_astore_n (q : Nat) (hq : q = pc + 1) {n : Fin 4} {i : Nat} {x : Nat} (hd : decode Y.1 pc = .ok (.astore_n n, 1)) (hi : (n : Nat) = i) {lv' : List (Nat × Value)} (hn : i < Y.2.1) (hj : (i, Value.ref x) :: lv.filter (fun q => !(q.1 == i) && !(q.1 + 1 == i && q.2.category == 2)) = lv') (k : mm_T X G Y fin sh M q lv' st f) : mm_T X G Y fin sh M pc lv (.ref x :: st) f := by
  subst hq
  exact fun C r hr H locs ls hP hD hS hl => lv_astore_n C.1 C.2.1 hd hi hl hn hj (fun ls hl => k C r hr H locs ls hP hD hS hl)
theorem mm_astore (q : Nat) (hq : q = pc + 2) {i : Nat} {x : Nat} (hd : decode Y.1 pc = .ok (.astore i, 2)) {lv' : List (Nat × Value)} (hn : i < Y.2.1) (hj : (i, Value.ref x) :: lv.filter (fun q => !(q.1 == i) && !(q.1 + 1 == i && q.2.category == 2)) = lv') (k : mm_T X G Y fin sh M q lv' st f) : mm_T X G Y fin sh M pc lv (.ref x :: st) f := by
  subst hq
  exact fun C r hr H locs ls hP hD hS hl => lv_astore C.1 C.2.1 hd hl hn hj (fun ls hl => k C r hr H locs ls hP hD hS hl)
theorem mm_lstore_n (q : Nat) (hq : q = pc + 1) {n : Fin 4} {i : Nat} {x : Int64} (hd : decode Y.1 pc = .ok (.lstore_n n, 1)) (hi : (n : Nat) = i) {lv' : List (Nat × Value)} (hn : i + 1 < Y.2.1) (hj : (i, Value.long x) :: lv.filter (fun q => !(q.1 == i) && (!(q.1 == i + 1) && !(q.1 + 1 == i && q.2.category == 2))) = lv') (k : mm_T X G Y fin sh M q lv' st f) : mm_T X G Y fin sh M pc lv (.long x :: st) f := by
  subst hq
  exact fun C r hr H locs ls hP hD hS hl => lv_lstore_n C.1 C.2.1 hd hi hl hn hj (fun ls hl => k C r hr H locs ls hP hD hS hl)
theorem mm_lstore (q : Nat) (hq : q = pc + 2) {i : Nat} {x : Int64} (hd : decode Y.1 pc = .ok (.lstore i, 2)) {lv' : List (Nat × Value)} (hn : i + 1 < Y.2.1) (hj : (i, Value.long x) :: lv.filter (fun q => !(q.1 == i) && (!(q.1 == i + 1) && !(q.1 + 1 == i && q.2.category == 2))) = lv') (k : mm_T X G Y fin sh M q lv' st f) : mm_T X G Y fin sh M pc lv (.long x :: st) f := by
  subst hq
  exact fun C r hr H locs ls hP hD hS hl => lv_lstore C.1 C.2.1 hd hl hn hj (fun ls hl => k C r hr H locs ls hP hD hS hl)
theorem mm_iinc (q : Nat) (hq : q = pc + 3) {i : Nat} {n : Int} {x : Int32} (hd : decode Y.1 pc = .ok (.iinc i n, 3)) (j : Nat) (hk : lv[j]? = some (i, .int x)) {v : Int32} (hv : x + Int32.ofInt n = v) {lv' : List (Nat × Value)} (hn : i < Y.2.1) (hj : (i, Value.int v) :: lv.filter (fun q => !(q.1 == i) && !(q.1 + 1 == i && q.2.category == 2)) = lv') (k : mm_T X G Y fin sh M q lv' st f) : mm_T X G Y fin sh M pc lv st f := by
  subst hq
  exact fun C r hr H locs ls hP hD hS hl => lv_iinc C.1 C.2.1 hd hl hk hv hn hj (fun ls hl => k C r hr H locs ls hP hD hS hl)
theorem mm_iadd (q : Nat) (hq : q = pc + 1) {x y : Int32} (hd : decode Y.1 pc = .ok (.iadd, 1))  (k : mm_T X G Y fin sh M q lv (.int (x + y) :: st) f) : mm_T X G Y fin sh M pc lv (.int y :: .int x :: st) f := by
  subst hq
  exact fun C r hr H locs ls hP hD hS hl => lv_iadd C.1 C.2.1 hd (k C r hr H locs ls hP hD hS hl)
theorem mm_isub (q : Nat) (hq : q = pc + 1) {x y : Int32} (hd : decode Y.1 pc = .ok (.isub, 1))  (k : mm_T X G Y fin sh M q lv (.int (x - y) :: st) f) : mm_T X G Y fin sh M pc lv (.int y :: .int x :: st) f := by
  subst hq
  exact fun C r hr H locs ls hP hD hS hl => lv_isub C.1 C.2.1 hd (k C r hr H locs ls hP hD hS hl)
theorem mm_imul (q : Nat) (hq : q = pc + 1) {x y : Int32} (hd : decode Y.1 pc = .ok (.imul, 1))  (k : mm_T X G Y fin sh M q lv (.int (x * y) :: st) f) : mm_T X G Y fin sh M pc lv (.int y :: .int x :: st) f := by
  subst hq
  exact fun C r hr H locs ls hP hD hS hl => lv_imul C.1 C.2.1 hd (k C r hr H locs ls hP hD hS hl)
theorem mm_iand (q : Nat) (hq : q = pc + 1) {x y : Int32} (hd : decode Y.1 pc = .ok (.iand, 1))  (k : mm_T X G Y fin sh M q lv (.int (x &&& y) :: st) f) : mm_T X G Y fin sh M pc lv (.int y :: .int x :: st) f := by
  subst hq
  exact fun C r hr H locs ls hP hD hS hl => lv_iand C.1 C.2.1 hd (k C r hr H locs ls hP hD hS hl)
theorem mm_ior (q : Nat) (hq : q = pc + 1) {x y : Int32} (hd : decode Y.1 pc = .ok (.ior, 1))  (k : mm_T X G Y fin sh M q lv (.int (x ||| y) :: st) f) : mm_T X G Y fin sh M pc lv (.int y :: .int x :: st) f := by
  subst hq
  exact fun C r hr H locs ls hP hD hS hl => lv_ior C.1 C.2.1 hd (k C r hr H locs ls hP hD hS hl)
theorem mm_ishl (q : Nat) (hq : q = pc + 1) {x y : Int32} (hd : decode Y.1 pc = .ok (.ishl, 1))  (k : mm_T X G Y fin sh M q lv (.int (x <<< (y &&& 31)) :: st) f) : mm_T X G Y fin sh M pc lv (.int y :: .int x :: st) f := by
  subst hq
  exact fun C r hr H locs ls hP hD hS hl => lv_ishl C.1 C.2.1 hd (k C r hr H locs ls hP hD hS hl)
theorem mm_ishr (q : Nat) (hq : q = pc + 1) {x y : Int32} (hd : decode Y.1 pc = .ok (.ishr, 1))  (k : mm_T X G Y fin sh M q lv (.int (x >>> (y &&& 31)) :: st) f) : mm_T X G Y fin sh M pc lv (.int y :: .int x :: st) f := by
  subst hq
  exact fun C r hr H locs ls hP hD hS hl => lv_ishr C.1 C.2.1 hd (k C r hr H locs ls hP hD hS hl)
theorem mm_iushr (q : Nat) (hq : q = pc + 1) {x y : Int32} (hd : decode Y.1 pc = .ok (.iushr, 1))  (k : mm_T X G Y fin sh M q lv (.int (x.toUInt32 >>> (y.toUInt32 &&& Int32.toUInt32 31)).toInt32 :: st) f) : mm_T X G Y fin sh M pc lv (.int y :: .int x :: st) f := by
  subst hq
  exact fun C r hr H locs ls hP hD hS hl => lv_iushr C.1 C.2.1 hd rfl (k C r hr H locs ls hP hD hS hl)
theorem mm_ladd (q : Nat) (hq : q = pc + 1) {x y : Int64} (hd : decode Y.1 pc = .ok (.ladd, 1))  (k : mm_T X G Y fin sh M q lv (.long (x + y) :: st) f) : mm_T X G Y fin sh M pc lv (.long y :: .long x :: st) f := by
  subst hq
  exact fun C r hr H locs ls hP hD hS hl => lv_ladd C.1 C.2.1 hd (k C r hr H locs ls hP hD hS hl)
theorem mm_lmul (q : Nat) (hq : q = pc + 1) {x y : Int64} (hd : decode Y.1 pc = .ok (.lmul, 1))  (k : mm_T X G Y fin sh M q lv (.long (x * y) :: st) f) : mm_T X G Y fin sh M pc lv (.long y :: .long x :: st) f := by
  subst hq
  exact fun C r hr H locs ls hP hD hS hl => lv_lmul C.1 C.2.1 hd (k C r hr H locs ls hP hD hS hl)
theorem mm_idiv (q : Nat) (hq : q = pc + 1) {x y : Int32} (hd : decode Y.1 pc = .ok (.idiv, 1)) (hne : ¬ y = 0) (k : mm_T X G Y fin sh M q lv (.int (x / y) :: st) f) : mm_T X G Y fin sh M pc lv (.int y :: .int x :: st) f := by
  subst hq
  exact fun C r hr H locs ls hP hD hS hl => lv_idiv C.1 C.2.1 hd hne (k C r hr H locs ls hP hD hS hl)
theorem mm_idivU (q : Nat) (hq : q = pc + 1) {x y : Int32} (hd : decode Y.1 pc = .ok (.idiv, 1)) (k : ¬ y = 0 → mm_T X G Y fin sh M q lv (.int (x / y) :: st) f) : mm_T X G Y fin sh M pc lv (.int y :: .int x :: st) (if y = 0 then none else f) := by
  by_cases h : y = 0
  · rw [if_pos h]; exact mm_none
  · rw [if_neg h]; exact mm_idiv q hq hd h (k h)
theorem mm_irem (q : Nat) (hq : q = pc + 1) {x y : Int32} (hd : decode Y.1 pc = .ok (.irem, 1)) (hne : ¬ y = 0) (k : mm_T X G Y fin sh M q lv (.int (x - x / y * y) :: st) f) : mm_T X G Y fin sh M pc lv (.int y :: .int x :: st) f := by
  subst hq
  exact fun C r hr H locs ls hP hD hS hl => lv_irem C.1 C.2.1 hd hne (k C r hr H locs ls hP hD hS hl)
theorem mm_iremU (q : Nat) (hq : q = pc + 1) {x y : Int32} (hd : decode Y.1 pc = .ok (.irem, 1)) (k : ¬ y = 0 → mm_T X G Y fin sh M q lv (.int (x - x / y * y) :: st) f) : mm_T X G Y fin sh M pc lv (.int y :: .int x :: st) (if y = 0 then none else f) := by
  by_cases h : y = 0
  · rw [if_pos h]; exact mm_none
  · rw [if_neg h]; exact mm_irem q hq hd h (k h)
theorem mm_ldiv (q : Nat) (hq : q = pc + 1) {x y : Int64} (hd : decode Y.1 pc = .ok (.ldiv, 1)) (hne : ¬ y = 0) (k : mm_T X G Y fin sh M q lv (.long (x / y) :: st) f) : mm_T X G Y fin sh M pc lv (.long y :: .long x :: st) f := by
  subst hq
  exact fun C r hr H locs ls hP hD hS hl => lv_ldiv C.1 C.2.1 hd hne (k C r hr H locs ls hP hD hS hl)
theorem mm_ldivU (q : Nat) (hq : q = pc + 1) {x y : Int64} (hd : decode Y.1 pc = .ok (.ldiv, 1)) (k : ¬ y = 0 → mm_T X G Y fin sh M q lv (.long (x / y) :: st) f) : mm_T X G Y fin sh M pc lv (.long y :: .long x :: st) (if y = 0 then none else f) := by
  by_cases h : y = 0
  · rw [if_pos h]; exact mm_none
  · rw [if_neg h]; exact mm_ldiv q hq hd h (k h)
theorem mm_lrem (q : Nat) (hq : q = pc + 1) {x y : Int64} (hd : decode Y.1 pc = .ok (.lrem, 1)) (hne : ¬ y = 0) (k : mm_T X G Y fin sh M q lv (.long (x - x / y * y) :: st) f) : mm_T X G Y fin sh M pc lv (.long y :: .long x :: st) f := by
  subst hq
  exact fun C r hr H locs ls hP hD hS hl => lv_lrem C.1 C.2.1 hd hne (k C r hr H locs ls hP hD hS hl)
theorem mm_lremU (q : Nat) (hq : q = pc + 1) {x y : Int64} (hd : decode Y.1 pc = .ok (.lrem, 1)) (k : ¬ y = 0 → mm_T X G Y fin sh M q lv (.long (x - x / y * y) :: st) f) : mm_T X G Y fin sh M pc lv (.long y :: .long x :: st) (if y = 0 then none else f) := by
  by_cases h : y = 0
  · rw [if_pos h]; exact mm_none
  · rw [if_neg h]; exact mm_lrem q hq hd h (k h)
theorem mm_i2l (q : Nat) (hq : q = pc + 1) {x : Int32} (hd : decode Y.1 pc = .ok (.i2l, 1))  (k : mm_T X G Y fin sh M q lv (.long x.toInt64 :: st) f) : mm_T X G Y fin sh M pc lv (.int x :: st) f := by
  subst hq
  exact fun C r hr H locs ls hP hD hS hl => lv_i2l C.1 C.2.1 hd rfl (k C r hr H locs ls hP hD hS hl)
theorem mm_i2b (q : Nat) (hq : q = pc + 1) {x : Int32} (hd : decode Y.1 pc = .ok (.i2b, 1))  (k : mm_T X G Y fin sh M q lv (.int x.toInt8.toInt32 :: st) f) : mm_T X G Y fin sh M pc lv (.int x :: st) f := by
  subst hq
  exact fun C r hr H locs ls hP hD hS hl => lv_i2b C.1 C.2.1 hd rfl (k C r hr H locs ls hP hD hS hl)
theorem mm_i2s (q : Nat) (hq : q = pc + 1) {x : Int32} (hd : decode Y.1 pc = .ok (.i2s, 1))  (k : mm_T X G Y fin sh M q lv (.int x.toInt16.toInt32 :: st) f) : mm_T X G Y fin sh M pc lv (.int x :: st) f := by
  subst hq
  exact fun C r hr H locs ls hP hD hS hl => lv_i2s C.1 C.2.1 hd rfl (k C r hr H locs ls hP hD hS hl)
theorem mm_i2c (q : Nat) (hq : q = pc + 1) {x : Int32} (hd : decode Y.1 pc = .ok (.i2c, 1))  (k : mm_T X G Y fin sh M q lv (.int (x.toUInt32 % 65536).toInt32 :: st) f) : mm_T X G Y fin sh M pc lv (.int x :: st) f := by
  subst hq
  exact fun C r hr H locs ls hP hD hS hl => lv_i2c C.1 C.2.1 hd rfl (k C r hr H locs ls hP hD hS hl)
theorem mm_dup (q : Nat) (hq : q = pc + 1) {a : Value} (hd : decode Y.1 pc = .ok (.dup, 1)) (ha : a.category = 1) (k : mm_T X G Y fin sh M q lv (a :: a :: st) f) : mm_T X G Y fin sh M pc lv (a :: st) f := by
  subst hq
  exact fun C r hr H locs ls hP hD hS hl => lv_dup C.1 C.2.1 hd ha (k C r hr H locs ls hP hD hS hl)
theorem mm_pop (q : Nat) (hq : q = pc + 1) {a : Value} (hd : decode Y.1 pc = .ok (.pop, 1)) (ha : a.category = 1) (k : mm_T X G Y fin sh M q lv st f) : mm_T X G Y fin sh M pc lv (a :: st) f := by
  subst hq
  exact fun C r hr H locs ls hP hD hS hl => lv_pop C.1 C.2.1 hd ha (k C r hr H locs ls hP hD hS hl)
theorem mm_dup2 (q : Nat) (hq : q = pc + 1) {a b : Value} (hd : decode Y.1 pc = .ok (.dup2, 1)) (ha : a.category = 1) (hb : b.category = 1) (k : mm_T X G Y fin sh M q lv (a :: b :: a :: b :: st) f) : mm_T X G Y fin sh M pc lv (a :: b :: st) f := by
  subst hq
  exact fun C r hr H locs ls hP hD hS hl => lv_dup2_11 C.1 C.2.1 hd ha hb (k C r hr H locs ls hP hD hS hl)
theorem mm_lcmp (q : Nat) (hq : q = pc + 1) {x y : Int64} (hd : decode Y.1 pc = .ok (.lcmp, 1))  (k : mm_T X G Y fin sh M q lv (.int (lg_cmp x y) :: st) f) : mm_T X G Y fin sh M pc lv (.long y :: .long x :: st) f := by
  subst hq
  exact fun C r hr H locs ls hP hD hS hl => W.lcmp C.1 C.2.1 hd (k C r hr H locs ls hP hD hS hl)
theorem mm_ldc (q : Nat) (hq : q = pc + 2) {i : Nat} {v : Int32} (hd : decode Y.1 pc = .ok (.ldc i, 2)) (hw : Cond.constant Y.2.2.1 i v ∈ mm_ws) (k : mm_T X G Y fin sh M q lv (.int v :: st) f) : mm_T X G Y fin sh M pc lv st f := by
  subst hq
  exact fun C r hr H locs ls hP hD hS hl => lv_ldc C.1 C.2.1 C.2.2.2.1 (C.2.2.2.2.1 _ hw) hd (k C r hr H locs ls hP hD hS hl)
theorem mm_ldcw (q : Nat) (hq : q = pc + 3) {i : Nat} {v : Int32} (hd : decode Y.1 pc = .ok (.ldc_w i, 3)) (hw : Cond.constant Y.2.2.1 i v ∈ mm_ws) (k : mm_T X G Y fin sh M q lv (.int v :: st) f) : mm_T X G Y fin sh M pc lv st f := by
  subst hq
  exact fun C r hr H locs ls hP hD hS hl => lv_ldcw C.1 C.2.1 C.2.2.2.1 (C.2.2.2.2.1 _ hw) hd (k C r hr H locs ls hP hD hS hl)
theorem mm_ldc2 (q : Nat) (hq : q = pc + 3) {i : Nat} {v : Int64} (hd : decode Y.1 pc = .ok (.ldc2_w i, 3)) (hw : Cond.constantLong Y.2.2.1 i v ∈ mm_ws) (k : mm_T X G Y fin sh M q lv (.long v :: st) f) : mm_T X G Y fin sh M pc lv st f := by
  subst hq
  exact fun C r hr H locs ls hP hD hS hl => lv_ldc2 C.1 C.2.1 C.2.2.2.1 (C.2.2.2.2.1 _ hw) hd (k C r hr H locs ls hP hD hS hl)
theorem mm_ite {c : Prop} [hdc : Decidable c] {a b : Option ρ} (ka : c → mm_T X G Y fin sh M pc lv st a) (kb : ¬ c → mm_T X G Y fin sh M pc lv st b) : mm_T X G Y fin sh M pc lv st (if c then a else b) := by
  by_cases h : c
  · rw [if_pos h]; exact ka h
  · rw [if_neg h]; exact kb h
theorem mm_if_eq (q t : Nat) (hq : q = pc + 3) {x : Int32} {off : Int} (hd : decode Y.1 pc = .ok (.ifCond .eq off, 3)) (ht : (pc : Int) + off = (t : Int)) {a b : Option ρ} (ka : x = 0 → mm_T X G Y fin sh M t lv st a) (kb : ¬ x = 0 → mm_T X G Y fin sh M q lv st b) : mm_T X G Y fin sh M pc lv (.int x :: st) (if x = 0 then a else b) := by
  subst hq
  intro C r hr H locs ls hP hD hS hl
  refine lv_if_eq C.1 C.2.1 hd ht (fun h => ?_) (fun h => ?_)
  · rw [if_pos h] at hr
    exact ka h C r hr H locs ls hP hD hS hl
  · rw [if_neg h] at hr
    exact kb h C r hr H locs ls hP hD hS hl
theorem mm_if_eqY (t : Nat) {x : Int32} {off : Int} (hd : decode Y.1 pc = .ok (.ifCond .eq off, 3)) (ht : (pc : Int) + off = (t : Int)) (h0 : x = 0) (k : mm_T X G Y fin sh M t lv st f) : mm_T X G Y fin sh M pc lv (.int x :: st) f := fun C r hr H locs ls hP hD hS hl => lv_if_eq C.1 C.2.1 hd ht (fun _ => k C r hr H locs ls hP hD hS hl) (fun h => absurd h0 h)
theorem mm_if_eqN (q : Nat) (hq : q = pc + 3) (t : Nat) {x : Int32} {off : Int} (hd : decode Y.1 pc = .ok (.ifCond .eq off, 3)) (ht : (pc : Int) + off = (t : Int)) (h0 : ¬ x = 0) (k : mm_T X G Y fin sh M q lv st f) : mm_T X G Y fin sh M pc lv (.int x :: st) f := by
  subst hq
  exact fun C r hr H locs ls hP hD hS hl => lv_if_eq C.1 C.2.1 hd ht (fun h => absurd h h0) (fun _ => k C r hr H locs ls hP hD hS hl)
theorem mm_icmp_eq (q t : Nat) (hq : q = pc + 3) {x y : Int32} {off : Int} (hd : decode Y.1 pc = .ok (.if_icmp .eq off, 3)) (ht : (pc : Int) + off = (t : Int)) {a b : Option ρ} (ka : x = y → mm_T X G Y fin sh M t lv st a) (kb : ¬ x = y → mm_T X G Y fin sh M q lv st b) : mm_T X G Y fin sh M pc lv (.int y :: .int x :: st) (if x = y then a else b) := by
  subst hq
  intro C r hr H locs ls hP hD hS hl
  refine lv_icmp_eq C.1 C.2.1 hd ht (fun h => ?_) (fun h => ?_)
  · rw [if_pos h] at hr
    exact ka h C r hr H locs ls hP hD hS hl
  · rw [if_neg h] at hr
    exact kb h C r hr H locs ls hP hD hS hl
theorem mm_icmp_eqY (t : Nat) {x y : Int32} {off : Int} (hd : decode Y.1 pc = .ok (.if_icmp .eq off, 3)) (ht : (pc : Int) + off = (t : Int)) (h0 : x = y) (k : mm_T X G Y fin sh M t lv st f) : mm_T X G Y fin sh M pc lv (.int y :: .int x :: st) f := fun C r hr H locs ls hP hD hS hl => lv_icmp_eq C.1 C.2.1 hd ht (fun _ => k C r hr H locs ls hP hD hS hl) (fun h => absurd h0 h)
theorem mm_icmp_eqN (q : Nat) (hq : q = pc + 3) (t : Nat) {x y : Int32} {off : Int} (hd : decode Y.1 pc = .ok (.if_icmp .eq off, 3)) (ht : (pc : Int) + off = (t : Int)) (h0 : ¬ x = y) (k : mm_T X G Y fin sh M q lv st f) : mm_T X G Y fin sh M pc lv (.int y :: .int x :: st) f := by
  subst hq
  exact fun C r hr H locs ls hP hD hS hl => lv_icmp_eq C.1 C.2.1 hd ht (fun h => absurd h h0) (fun _ => k C r hr H locs ls hP hD hS hl)
theorem mm_if_ne (q t : Nat) (hq : q = pc + 3) {x : Int32} {off : Int} (hd : decode Y.1 pc = .ok (.ifCond .ne off, 3)) (ht : (pc : Int) + off = (t : Int)) {a b : Option ρ} (ka : ¬ x = 0 → mm_T X G Y fin sh M t lv st a) (kb : x = 0 → mm_T X G Y fin sh M q lv st b) : mm_T X G Y fin sh M pc lv (.int x :: st) (if x = 0 then b else a) := by
  subst hq
  intro C r hr H locs ls hP hD hS hl
  refine lv_if_ne C.1 C.2.1 hd ht (fun h => ?_) (fun h => ?_)
  · rw [if_neg h] at hr
    exact ka h C r hr H locs ls hP hD hS hl
  · rw [if_pos h] at hr
    exact kb h C r hr H locs ls hP hD hS hl
theorem mm_if_neY (t : Nat) {x : Int32} {off : Int} (hd : decode Y.1 pc = .ok (.ifCond .ne off, 3)) (ht : (pc : Int) + off = (t : Int)) (h0 : ¬ x = 0) (k : mm_T X G Y fin sh M t lv st f) : mm_T X G Y fin sh M pc lv (.int x :: st) f := fun C r hr H locs ls hP hD hS hl => lv_if_ne C.1 C.2.1 hd ht (fun _ => k C r hr H locs ls hP hD hS hl) (fun h => absurd h0 (fun g => g h))
theorem mm_if_neN (q : Nat) (hq : q = pc + 3) (t : Nat) {x : Int32} {off : Int} (hd : decode Y.1 pc = .ok (.ifCond .ne off, 3)) (ht : (pc : Int) + off = (t : Int)) (h0 : x = 0) (k : mm_T X G Y fin sh M q lv st f) : mm_T X G Y fin sh M pc lv (.int x :: st) f := by
  subst hq
  exact fun C r hr H locs ls hP hD hS hl => lv_if_ne C.1 C.2.1 hd ht (fun h => absurd h (fun g => g h0)) (fun _ => k C r hr H locs ls hP hD hS hl)
theorem mm_icmp_ne (q t : Nat) (hq : q = pc + 3) {x y : Int32} {off : Int} (hd : decode Y.1 pc = .ok (.if_icmp .ne off, 3)) (ht : (pc : Int) + off = (t : Int)) {a b : Option ρ} (ka : ¬ x = y → mm_T X G Y fin sh M t lv st a) (kb : x = y → mm_T X G Y fin sh M q lv st b) : mm_T X G Y fin sh M pc lv (.int y :: .int x :: st) (if x = y then b else a) := by
  subst hq
  intro C r hr H locs ls hP hD hS hl
  refine lv_icmp_ne C.1 C.2.1 hd ht (fun h => ?_) (fun h => ?_)
  · rw [if_neg h] at hr
    exact ka h C r hr H locs ls hP hD hS hl
  · rw [if_pos h] at hr
    exact kb h C r hr H locs ls hP hD hS hl
theorem mm_icmp_neY (t : Nat) {x y : Int32} {off : Int} (hd : decode Y.1 pc = .ok (.if_icmp .ne off, 3)) (ht : (pc : Int) + off = (t : Int)) (h0 : ¬ x = y) (k : mm_T X G Y fin sh M t lv st f) : mm_T X G Y fin sh M pc lv (.int y :: .int x :: st) f := fun C r hr H locs ls hP hD hS hl => lv_icmp_ne C.1 C.2.1 hd ht (fun _ => k C r hr H locs ls hP hD hS hl) (fun h => absurd h0 (fun g => g h))
theorem mm_icmp_neN (q : Nat) (hq : q = pc + 3) (t : Nat) {x y : Int32} {off : Int} (hd : decode Y.1 pc = .ok (.if_icmp .ne off, 3)) (ht : (pc : Int) + off = (t : Int)) (h0 : x = y) (k : mm_T X G Y fin sh M q lv st f) : mm_T X G Y fin sh M pc lv (.int y :: .int x :: st) f := by
  subst hq
  exact fun C r hr H locs ls hP hD hS hl => lv_icmp_ne C.1 C.2.1 hd ht (fun h => absurd h (fun g => g h0)) (fun _ => k C r hr H locs ls hP hD hS hl)
theorem mm_if_lt (q t : Nat) (hq : q = pc + 3) {x : Int32} {off : Int} (hd : decode Y.1 pc = .ok (.ifCond .lt off, 3)) (ht : (pc : Int) + off = (t : Int)) {a b : Option ρ} (ka : x < 0 → mm_T X G Y fin sh M t lv st a) (kb : ¬ x < 0 → mm_T X G Y fin sh M q lv st b) : mm_T X G Y fin sh M pc lv (.int x :: st) (if x < 0 then a else b) := by
  subst hq
  intro C r hr H locs ls hP hD hS hl
  refine lv_if_lt C.1 C.2.1 hd ht (fun h => ?_) (fun h => ?_)
  · rw [if_pos h] at hr
    exact ka h C r hr H locs ls hP hD hS hl
  · rw [if_neg h] at hr
    exact kb h C r hr H locs ls hP hD hS hl
theorem mm_if_ltY (t : Nat) {x : Int32} {off : Int} (hd : decode Y.1 pc = .ok (.ifCond .lt off, 3)) (ht : (pc : Int) + off = (t : Int)) (h0 : x < 0) (k : mm_T X G Y fin sh M t lv st f) : mm_T X G Y fin sh M pc lv (.int x :: st) f := fun C r hr H locs ls hP hD hS hl => lv_if_lt C.1 C.2.1 hd ht (fun _ => k C r hr H locs ls hP hD hS hl) (fun h => absurd h0 h)
theorem mm_if_ltN (q : Nat) (hq : q = pc + 3) (t : Nat) {x : Int32} {off : Int} (hd : decode Y.1 pc = .ok (.ifCond .lt off, 3)) (ht : (pc : Int) + off = (t : Int)) (h0 : ¬ x < 0) (k : mm_T X G Y fin sh M q lv st f) : mm_T X G Y fin sh M pc lv (.int x :: st) f := by
  subst hq
  exact fun C r hr H locs ls hP hD hS hl => lv_if_lt C.1 C.2.1 hd ht (fun h => absurd h h0) (fun _ => k C r hr H locs ls hP hD hS hl)
theorem mm_icmp_lt (q t : Nat) (hq : q = pc + 3) {x y : Int32} {off : Int} (hd : decode Y.1 pc = .ok (.if_icmp .lt off, 3)) (ht : (pc : Int) + off = (t : Int)) {a b : Option ρ} (ka : x < y → mm_T X G Y fin sh M t lv st a) (kb : ¬ x < y → mm_T X G Y fin sh M q lv st b) : mm_T X G Y fin sh M pc lv (.int y :: .int x :: st) (if x < y then a else b) := by
  subst hq
  intro C r hr H locs ls hP hD hS hl
  refine lv_icmp_lt C.1 C.2.1 hd ht (fun h => ?_) (fun h => ?_)
  · rw [if_pos h] at hr
    exact ka h C r hr H locs ls hP hD hS hl
  · rw [if_neg h] at hr
    exact kb h C r hr H locs ls hP hD hS hl
theorem mm_icmp_ltY (t : Nat) {x y : Int32} {off : Int} (hd : decode Y.1 pc = .ok (.if_icmp .lt off, 3)) (ht : (pc : Int) + off = (t : Int)) (h0 : x < y) (k : mm_T X G Y fin sh M t lv st f) : mm_T X G Y fin sh M pc lv (.int y :: .int x :: st) f := fun C r hr H locs ls hP hD hS hl => lv_icmp_lt C.1 C.2.1 hd ht (fun _ => k C r hr H locs ls hP hD hS hl) (fun h => absurd h0 h)
theorem mm_icmp_ltN (q : Nat) (hq : q = pc + 3) (t : Nat) {x y : Int32} {off : Int} (hd : decode Y.1 pc = .ok (.if_icmp .lt off, 3)) (ht : (pc : Int) + off = (t : Int)) (h0 : ¬ x < y) (k : mm_T X G Y fin sh M q lv st f) : mm_T X G Y fin sh M pc lv (.int y :: .int x :: st) f := by
  subst hq
  exact fun C r hr H locs ls hP hD hS hl => lv_icmp_lt C.1 C.2.1 hd ht (fun h => absurd h h0) (fun _ => k C r hr H locs ls hP hD hS hl)
theorem mm_if_ge (q t : Nat) (hq : q = pc + 3) {x : Int32} {off : Int} (hd : decode Y.1 pc = .ok (.ifCond .ge off, 3)) (ht : (pc : Int) + off = (t : Int)) {a b : Option ρ} (ka : 0 ≤ x → mm_T X G Y fin sh M t lv st a) (kb : ¬ 0 ≤ x → mm_T X G Y fin sh M q lv st b) : mm_T X G Y fin sh M pc lv (.int x :: st) (if 0 ≤ x then a else b) := by
  subst hq
  intro C r hr H locs ls hP hD hS hl
  refine lv_if_ge C.1 C.2.1 hd ht (fun h => ?_) (fun h => ?_)
  · rw [if_pos h] at hr
    exact ka h C r hr H locs ls hP hD hS hl
  · rw [if_neg h] at hr
    exact kb h C r hr H locs ls hP hD hS hl
theorem mm_if_geY (t : Nat) {x : Int32} {off : Int} (hd : decode Y.1 pc = .ok (.ifCond .ge off, 3)) (ht : (pc : Int) + off = (t : Int)) (h0 : 0 ≤ x) (k : mm_T X G Y fin sh M t lv st f) : mm_T X G Y fin sh M pc lv (.int x :: st) f := fun C r hr H locs ls hP hD hS hl => lv_if_ge C.1 C.2.1 hd ht (fun _ => k C r hr H locs ls hP hD hS hl) (fun h => absurd h0 h)
theorem mm_if_geN (q : Nat) (hq : q = pc + 3) (t : Nat) {x : Int32} {off : Int} (hd : decode Y.1 pc = .ok (.ifCond .ge off, 3)) (ht : (pc : Int) + off = (t : Int)) (h0 : ¬ 0 ≤ x) (k : mm_T X G Y fin sh M q lv st f) : mm_T X G Y fin sh M pc lv (.int x :: st) f := by
  subst hq
  exact fun C r hr H locs ls hP hD hS hl => lv_if_ge C.1 C.2.1 hd ht (fun h => absurd h h0) (fun _ => k C r hr H locs ls hP hD hS hl)
theorem mm_icmp_ge (q t : Nat) (hq : q = pc + 3) {x y : Int32} {off : Int} (hd : decode Y.1 pc = .ok (.if_icmp .ge off, 3)) (ht : (pc : Int) + off = (t : Int)) {a b : Option ρ} (ka : y ≤ x → mm_T X G Y fin sh M t lv st a) (kb : ¬ y ≤ x → mm_T X G Y fin sh M q lv st b) : mm_T X G Y fin sh M pc lv (.int y :: .int x :: st) (if y ≤ x then a else b) := by
  subst hq
  intro C r hr H locs ls hP hD hS hl
  refine lv_icmp_ge C.1 C.2.1 hd ht (fun h => ?_) (fun h => ?_)
  · rw [if_pos h] at hr
    exact ka h C r hr H locs ls hP hD hS hl
  · rw [if_neg h] at hr
    exact kb h C r hr H locs ls hP hD hS hl
theorem mm_icmp_geY (t : Nat) {x y : Int32} {off : Int} (hd : decode Y.1 pc = .ok (.if_icmp .ge off, 3)) (ht : (pc : Int) + off = (t : Int)) (h0 : y ≤ x) (k : mm_T X G Y fin sh M t lv st f) : mm_T X G Y fin sh M pc lv (.int y :: .int x :: st) f := fun C r hr H locs ls hP hD hS hl => lv_icmp_ge C.1 C.2.1 hd ht (fun _ => k C r hr H locs ls hP hD hS hl) (fun h => absurd h0 h)
theorem mm_icmp_geN (q : Nat) (hq : q = pc + 3) (t : Nat) {x y : Int32} {off : Int} (hd : decode Y.1 pc = .ok (.if_icmp .ge off, 3)) (ht : (pc : Int) + off = (t : Int)) (h0 : ¬ y ≤ x) (k : mm_T X G Y fin sh M q lv st f) : mm_T X G Y fin sh M pc lv (.int y :: .int x :: st) f := by
  subst hq
  exact fun C r hr H locs ls hP hD hS hl => lv_icmp_ge C.1 C.2.1 hd ht (fun h => absurd h h0) (fun _ => k C r hr H locs ls hP hD hS hl)
theorem mm_if_gt (q t : Nat) (hq : q = pc + 3) {x : Int32} {off : Int} (hd : decode Y.1 pc = .ok (.ifCond .gt off, 3)) (ht : (pc : Int) + off = (t : Int)) {a b : Option ρ} (ka : 0 < x → mm_T X G Y fin sh M t lv st a) (kb : ¬ 0 < x → mm_T X G Y fin sh M q lv st b) : mm_T X G Y fin sh M pc lv (.int x :: st) (if 0 < x then a else b) := by
  subst hq
  intro C r hr H locs ls hP hD hS hl
  refine lv_if_gt C.1 C.2.1 hd ht (fun h => ?_) (fun h => ?_)
  · rw [if_pos h] at hr
    exact ka h C r hr H locs ls hP hD hS hl
  · rw [if_neg h] at hr
    exact kb h C r hr H locs ls hP hD hS hl
theorem mm_if_gtY (t : Nat) {x : Int32} {off : Int} (hd : decode Y.1 pc = .ok (.ifCond .gt off, 3)) (ht : (pc : Int) + off = (t : Int)) (h0 : 0 < x) (k : mm_T X G Y fin sh M t lv st f) : mm_T X G Y fin sh M pc lv (.int x :: st) f := fun C r hr H locs ls hP hD hS hl => lv_if_gt C.1 C.2.1 hd ht (fun _ => k C r hr H locs ls hP hD hS hl) (fun h => absurd h0 h)
theorem mm_if_gtN (q : Nat) (hq : q = pc + 3) (t : Nat) {x : Int32} {off : Int} (hd : decode Y.1 pc = .ok (.ifCond .gt off, 3)) (ht : (pc : Int) + off = (t : Int)) (h0 : ¬ 0 < x) (k : mm_T X G Y fin sh M q lv st f) : mm_T X G Y fin sh M pc lv (.int x :: st) f := by
  subst hq
  exact fun C r hr H locs ls hP hD hS hl => lv_if_gt C.1 C.2.1 hd ht (fun h => absurd h h0) (fun _ => k C r hr H locs ls hP hD hS hl)
theorem mm_icmp_gt (q t : Nat) (hq : q = pc + 3) {x y : Int32} {off : Int} (hd : decode Y.1 pc = .ok (.if_icmp .gt off, 3)) (ht : (pc : Int) + off = (t : Int)) {a b : Option ρ} (ka : y < x → mm_T X G Y fin sh M t lv st a) (kb : ¬ y < x → mm_T X G Y fin sh M q lv st b) : mm_T X G Y fin sh M pc lv (.int y :: .int x :: st) (if y < x then a else b) := by
  subst hq
  intro C r hr H locs ls hP hD hS hl
  refine lv_icmp_gt C.1 C.2.1 hd ht (fun h => ?_) (fun h => ?_)
  · rw [if_pos h] at hr
    exact ka h C r hr H locs ls hP hD hS hl
  · rw [if_neg h] at hr
    exact kb h C r hr H locs ls hP hD hS hl
theorem mm_icmp_gtY (t : Nat) {x y : Int32} {off : Int} (hd : decode Y.1 pc = .ok (.if_icmp .gt off, 3)) (ht : (pc : Int) + off = (t : Int)) (h0 : y < x) (k : mm_T X G Y fin sh M t lv st f) : mm_T X G Y fin sh M pc lv (.int y :: .int x :: st) f := fun C r hr H locs ls hP hD hS hl => lv_icmp_gt C.1 C.2.1 hd ht (fun _ => k C r hr H locs ls hP hD hS hl) (fun h => absurd h0 h)
theorem mm_icmp_gtN (q : Nat) (hq : q = pc + 3) (t : Nat) {x y : Int32} {off : Int} (hd : decode Y.1 pc = .ok (.if_icmp .gt off, 3)) (ht : (pc : Int) + off = (t : Int)) (h0 : ¬ y < x) (k : mm_T X G Y fin sh M q lv st f) : mm_T X G Y fin sh M pc lv (.int y :: .int x :: st) f := by
  subst hq
  exact fun C r hr H locs ls hP hD hS hl => lv_icmp_gt C.1 C.2.1 hd ht (fun h => absurd h h0) (fun _ => k C r hr H locs ls hP hD hS hl)
theorem mm_if_le (q t : Nat) (hq : q = pc + 3) {x : Int32} {off : Int} (hd : decode Y.1 pc = .ok (.ifCond .le off, 3)) (ht : (pc : Int) + off = (t : Int)) {a b : Option ρ} (ka : x ≤ 0 → mm_T X G Y fin sh M t lv st a) (kb : ¬ x ≤ 0 → mm_T X G Y fin sh M q lv st b) : mm_T X G Y fin sh M pc lv (.int x :: st) (if x ≤ 0 then a else b) := by
  subst hq
  intro C r hr H locs ls hP hD hS hl
  refine lv_if_le C.1 C.2.1 hd ht (fun h => ?_) (fun h => ?_)
  · rw [if_pos h] at hr
    exact ka h C r hr H locs ls hP hD hS hl
  · rw [if_neg h] at hr
    exact kb h C r hr H locs ls hP hD hS hl
theorem mm_if_leY (t : Nat) {x : Int32} {off : Int} (hd : decode Y.1 pc = .ok (.ifCond .le off, 3)) (ht : (pc : Int) + off = (t : Int)) (h0 : x ≤ 0) (k : mm_T X G Y fin sh M t lv st f) : mm_T X G Y fin sh M pc lv (.int x :: st) f := fun C r hr H locs ls hP hD hS hl => lv_if_le C.1 C.2.1 hd ht (fun _ => k C r hr H locs ls hP hD hS hl) (fun h => absurd h0 h)
theorem mm_if_leN (q : Nat) (hq : q = pc + 3) (t : Nat) {x : Int32} {off : Int} (hd : decode Y.1 pc = .ok (.ifCond .le off, 3)) (ht : (pc : Int) + off = (t : Int)) (h0 : ¬ x ≤ 0) (k : mm_T X G Y fin sh M q lv st f) : mm_T X G Y fin sh M pc lv (.int x :: st) f := by
  subst hq
  exact fun C r hr H locs ls hP hD hS hl => lv_if_le C.1 C.2.1 hd ht (fun h => absurd h h0) (fun _ => k C r hr H locs ls hP hD hS hl)
theorem mm_icmp_le (q t : Nat) (hq : q = pc + 3) {x y : Int32} {off : Int} (hd : decode Y.1 pc = .ok (.if_icmp .le off, 3)) (ht : (pc : Int) + off = (t : Int)) {a b : Option ρ} (ka : x ≤ y → mm_T X G Y fin sh M t lv st a) (kb : ¬ x ≤ y → mm_T X G Y fin sh M q lv st b) : mm_T X G Y fin sh M pc lv (.int y :: .int x :: st) (if x ≤ y then a else b) := by
  subst hq
  intro C r hr H locs ls hP hD hS hl
  refine lv_icmp_le C.1 C.2.1 hd ht (fun h => ?_) (fun h => ?_)
  · rw [if_pos h] at hr
    exact ka h C r hr H locs ls hP hD hS hl
  · rw [if_neg h] at hr
    exact kb h C r hr H locs ls hP hD hS hl
theorem mm_icmp_leY (t : Nat) {x y : Int32} {off : Int} (hd : decode Y.1 pc = .ok (.if_icmp .le off, 3)) (ht : (pc : Int) + off = (t : Int)) (h0 : x ≤ y) (k : mm_T X G Y fin sh M t lv st f) : mm_T X G Y fin sh M pc lv (.int y :: .int x :: st) f := fun C r hr H locs ls hP hD hS hl => lv_icmp_le C.1 C.2.1 hd ht (fun _ => k C r hr H locs ls hP hD hS hl) (fun h => absurd h0 h)
theorem mm_icmp_leN (q : Nat) (hq : q = pc + 3) (t : Nat) {x y : Int32} {off : Int} (hd : decode Y.1 pc = .ok (.if_icmp .le off, 3)) (ht : (pc : Int) + off = (t : Int)) (h0 : ¬ x ≤ y) (k : mm_T X G Y fin sh M q lv st f) : mm_T X G Y fin sh M pc lv (.int y :: .int x :: st) f := by
  subst hq
  exact fun C r hr H locs ls hP hD hS hl => lv_icmp_le C.1 C.2.1 hd ht (fun h => absurd h h0) (fun _ => k C r hr H locs ls hP hD hS hl)
theorem mm_goto (t : Nat) {off : Int} (hd : decode Y.1 pc = .ok (.goto off, 3)) (ht : (pc : Int) + off = (t : Int)) (k : mm_T X G Y fin sh M t lv st f) : mm_T X G Y fin sh M pc lv st f := fun C r hr H locs ls hP hD hS hl => lv_goto C.1 C.2.1 hd ht (k C r hr H locs ls hP hD hS hl)
theorem mm_tabIn (t : Nat) {dflt lo hi : Int} {offs : Array Int} {len : Nat} {x : Int32} {off : Int} (v : Int32) (hx : x = v) (hd : decode Y.1 pc = .ok (.tableswitch dflt lo hi offs, len)) (h1 : ¬ v.toInt < lo) (h2 : ¬ hi < v.toInt) (ho : offs[(v.toInt - lo).toNat]? = some off) (ht : (pc : Int) + off = (t : Int)) (k : mm_T X G Y fin sh M t lv st f) : mm_T X G Y fin sh M pc lv (.int x :: st) f := by
  subst hx
  exact fun C r hr H locs ls hP hD hS hl => lv_tableIn C.1 C.2.1 hd h1 h2 ho ht (k C r hr H locs ls hP hD hS hl)
theorem mm_tabOut (t : Nat) {dflt lo hi : Int} {offs : Array Int} {len : Nat} {x : Int32} (hd : decode Y.1 pc = .ok (.tableswitch dflt lo hi offs, len)) (h : x.toInt < lo ∨ hi < x.toInt) (ht : (pc : Int) + dflt = (t : Int)) (k : mm_T X G Y fin sh M t lv st f) : mm_T X G Y fin sh M pc lv (.int x :: st) f := fun C r hr H locs ls hP hD hS hl => lv_tableOut C.1 C.2.1 hd h ht (k C r hr H locs ls hP hD hS hl)
theorem mm_lkup (t : Nat) {dflt : Int} {ps : Array (Int × Int)} {len : Nat} {x : Int32} {off : Int} (hd : decode Y.1 pc = .ok (.lookupswitch dflt ps, len)) (hp : (ps.toList.zip (ps.toList.drop 1)).all (fun (a, next) => a.1 < next.1) = true) (ho : Op.lookupswitch.offset ps.toList dflt x.toInt = off) (ht : (pc : Int) + off = (t : Int)) (k : mm_T X G Y fin sh M t lv st f) : mm_T X G Y fin sh M pc lv (.int x :: st) f := fun C r hr H locs ls hP hD hS hl => lv_lookup C.1 C.2.1 hd hp ho ht (k C r hr H locs ls hP hD hS hl)
theorem mm_get (q : Nat) (hq : q = pc + 3) {i : Nat} (hd : decode Y.1 pc = .ok (.getfield i, 3)) {o : Nat} {g : (Nat → Int32) → va_E} (hs : sh[o]? = some g) {ci N : Nat} {fs : List Value} {C0 : String} {T0 : u_T} (hf : g (M o) = .inr (ci, fs)) (hc : vwCl[ci]? = some (C0, T0, N)) (hin : ∀ w ∈ u_ws C0 T0 N, w ∈ mm_ws) (j : Nat) (hj : j < N) (hw : Cond.fieldLink Y.2.2.1 i (T0 j).1 (T0 j).2.1 (T0 j).2.2.1 ∈ mm_ws) {v : Value} (hv : fs[j]? = some v) (k : mm_T X G Y fin sh M q lv (v :: st) f) : mm_T X G Y fin sh M pc lv (.ref (mm_ad G o) :: st) f := by
  subst hq
  exact fun C r hr H locs ls hP hD hS hl => va_get (D := mm_D G) C.1 C.2.1 C.2.2.2.2.1 hin C.2.2.2.1 C.2.2.2.2.2.2.2.1 hP o (by rw [mm_w_get hs, hf]) hc j hj (C.2.2.2.2.1 _ hw) (fun _ h => h) hv hd (k C r hr H locs ls hP hD hS hl)
theorem mm_getN (q : Nat) (hq : q = pc + 3) {i : Nat} {host : String} (hd : decode Y.1 pc = .ok (.getfield i, 3)) {o : Nat} {g : (Nat → Int32) → va_E} (hs : sh[o]? = some g) {ci N : Nat} {fs : List Value} {C0 : String} {T0 : u_T} (hf : g (M o) = .inr (ci, fs)) (hc : vwCl[ci]? = some (C0, T0, N)) (hin : ∀ w ∈ u_ws C0 T0 N, w ∈ mm_ws) (j : Nat) (hj : j < N) (hw : Cond.fieldLinkNest Y.2.2.1 i (T0 j).1 (T0 j).2.1 (T0 j).2.2.1 host ∈ mm_nest) {v : Value} (hv : fs[j]? = some v) (k : mm_T X G Y fin sh M q lv (v :: st) f) : mm_T X G Y fin sh M pc lv (.ref (mm_ad G o) :: st) f := by
  subst hq
  exact fun C r hr H locs ls hP hD hS hl => va_getN (D := mm_D G) C.1 C.2.1 C.2.2.2.2.1 hin C.2.2.2.1 C.2.2.2.2.2.2.2.1 hP o (by rw [mm_w_get hs, hf]) hc j hj (va_Nw.use rfl (C.2.2.2.2.2.2.2.2.1 _ hw)) (fun _ h => h) hv hd (k C r hr H locs ls hP hD hS hl)
theorem mm_put (q : Nat) (hq : q = pc + 3) {i : Nat} (hd : decode Y.1 pc = .ok (.putfield i, 3)) {o : Nat} {g : (Nat → Int32) → va_E} (hs : sh[o]? = some g) {ci N : Nat} {fs : List Value} {C0 : String} {T0 : u_T} (hf : g (M o) = .inr (ci, fs)) (hc : vwCl[ci]? = some (C0, T0, N)) (hin : ∀ w ∈ u_ws C0 T0 N, w ∈ mm_ws) (ty0 : Nat → FieldType) (hty : ∀ k, k < N → parseFieldDescriptor (T0 k).2.2.1 = some (ty0 k)) (hnm : ∀ a, a < N → ∀ b, b < N → a ≠ b → (T0 a).2.1 ≠ (T0 b).2.1) (j : Nat) (hj : j < N) (hw : Cond.fieldLink Y.2.2.1 i (T0 j).1 (T0 j).2.1 (T0 j).2.2.1 ∈ mm_ws) (hfin : (T0 j).2.2.2 = false) {ty : FieldType} {v : Int32} (hdd : parseFieldDescriptor (T0 j).2.2.1 = some ty) (hn : narrow ty (.int v) = .int v) (hfit : fits ty (.int v) = true) (hlen : j < fs.length) (hset : g (upd (M o) j v) = .inr (ci, fs.set j (.int v))) (k : mm_T X G Y fin sh (mm_up M o j v) q lv st f) : mm_T X G Y fin sh M pc lv (.int v :: .ref (mm_ad G o) :: st) f := by
  subst hq
  intro C r hr H locs ls hP hD hS hl
  have he : (mm_w (mm_ad G) sh M)[o]? = some (mm_ad G o, .inr (ci, fs)) := by rw [mm_w_get hs, hf]
  refine va_put (D := mm_D G) C.1 C.2.1 C.2.2.2.2.1 hin ty0 hty hnm C.2.2.2.1 C.2.2.2.2.2.2.2.1 hP hD hS o he hc j hj (C.2.2.2.2.1 _ hw) (fun _ h => h) hfin hdd hn hfit hlen hd (fun H1 locs1 hP1 hD1 hS1 => ?_)
  rw [← hset, mm_w_set hs] at hP1 hD1
  exact k C r hr H1 locs1 ls hP1 hD1 hS1 hl
theorem mm_putN (q : Nat) (hq : q = pc + 3) {i : Nat} {host : String} (hd : decode Y.1 pc = .ok (.putfield i, 3)) {o : Nat} {g : (Nat → Int32) → va_E} (hs : sh[o]? = some g) {ci N : Nat} {fs : List Value} {C0 : String} {T0 : u_T} (hf : g (M o) = .inr (ci, fs)) (hc : vwCl[ci]? = some (C0, T0, N)) (hin : ∀ w ∈ u_ws C0 T0 N, w ∈ mm_ws) (ty0 : Nat → FieldType) (hty : ∀ k, k < N → parseFieldDescriptor (T0 k).2.2.1 = some (ty0 k)) (hnm : ∀ a, a < N → ∀ b, b < N → a ≠ b → (T0 a).2.1 ≠ (T0 b).2.1) (j : Nat) (hj : j < N) (hw : Cond.fieldLinkNest Y.2.2.1 i (T0 j).1 (T0 j).2.1 (T0 j).2.2.1 host ∈ mm_nest) (hfin : (T0 j).2.2.2 = false) {ty : FieldType} {v : Int32} (hdd : parseFieldDescriptor (T0 j).2.2.1 = some ty) (hn : narrow ty (.int v) = .int v) (hfit : fits ty (.int v) = true) (hlen : j < fs.length) (hset : g (upd (M o) j v) = .inr (ci, fs.set j (.int v))) (k : mm_T X G Y fin sh (mm_up M o j v) q lv st f) : mm_T X G Y fin sh M pc lv (.int v :: .ref (mm_ad G o) :: st) f := by
  subst hq
  intro C r hr H locs ls hP hD hS hl
  have he : (mm_w (mm_ad G) sh M)[o]? = some (mm_ad G o, .inr (ci, fs)) := by rw [mm_w_get hs, hf]
  refine va_putN (D := mm_D G) C.1 C.2.1 C.2.2.2.2.1 hin ty0 hty hnm C.2.2.2.1 C.2.2.2.2.2.2.2.1 hP hD hS o he hc j hj (va_Nw.use rfl (C.2.2.2.2.2.2.2.2.1 _ hw)) (fun _ h => h) hfin hdd hn hfit hlen hd (fun H1 locs1 hP1 hD1 hS1 => ?_)
  rw [← hset, mm_w_set hs] at hP1 hD1
  exact k C r hr H1 locs1 ls hP1 hD1 hS1 hl
def mm_ia (G : mm_G) (n : Nat) : (Nat → Int32) → va_E := fun row => .inl (mm_cy G 0, n, .inl row)
def mm_za (G : mm_G) (n : Nat) : (Nat → Int32) → va_E := fun row => .inl (mm_cy G 1, n, .inl row)
theorem mm_iald (q : Nat) (hq : q = pc + 1) (hd : decode Y.1 pc = .ok (.iaload, 1)) {a n : Nat} (hs : sh[a]? = some (mm_ia G n)) {i : Int32} (k : mm_in i n = true → mm_T X G Y fin sh M q lv (.int (M a i.toNatClampNeg) :: st) f) : mm_T X G Y fin sh M pc lv (.int i :: .ref (mm_ad G a) :: st) (if mm_in i n then f else none) := by
  subst hq
  by_cases h : mm_in i n = true
  · rw [if_pos h]
    exact fun C r hr H locs ls hP hD hS hl => va_iald (D := mm_D G) C.1 C.2.1 C.2.2.2.2.2.2.2.1 hP a 0 (mm_w_get hs) rfl (mm_in_vp h) hd (k h C r hr H locs ls hP hD hS hl)
  · rw [if_neg h]; exact mm_none
theorem mm_ialdK (q : Nat) (hq : q = pc + 1) (hd : decode Y.1 pc = .ok (.iaload, 1)) {a n : Nat} (hs : sh[a]? = some (mm_ia G n)) {i : Int32} (h : mm_in i n = true) (j : Nat) (hj : i.toNatClampNeg = j) (k : mm_T X G Y fin sh M q lv (.int (M a j) :: st) f) : mm_T X G Y fin sh M pc lv (.int i :: .ref (mm_ad G a) :: st) f := by
  subst hq; subst hj
  exact fun C r hr H locs ls hP hD hS hl => va_iald (D := mm_D G) C.1 C.2.1 C.2.2.2.2.2.2.2.1 hP a 0 (mm_w_get hs) rfl (mm_in_vp h) hd (k C r hr H locs ls hP hD hS hl)
theorem mm_iastK (q : Nat) (hq : q = pc + 1) (hd : decode Y.1 pc = .ok (.iastore, 1)) {a n : Nat} (hs : sh[a]? = some (mm_ia G n)) {i x : Int32} (h : mm_in i n = true) (j : Nat) (hj : i.toNatClampNeg = j) (k : mm_T X G Y fin sh (mm_up M a j x) q lv st f) : mm_T X G Y fin sh M pc lv (.int x :: .int i :: .ref (mm_ad G a) :: st) f := by
  subst hq; subst hj
  intro C r hr H locs ls hP hD hS hl
  refine va_iast (D := mm_D G) C.1 C.2.1 C.2.2.2.2.2.2.2.1 hP hD hS a 0 (mm_w_get hs) rfl (mm_in_vp h) hd (fun H1 locs1 hP1 hD1 hS1 => ?_)
  have e : (mm_w (mm_ad G) sh M).set a (mm_ad G a, .inl (mm_cy G 0, n, .inl (upd (M a) i.toNatClampNeg x))) = mm_w (mm_ad G) sh (mm_up M a i.toNatClampNeg x) := mm_w_set (f := mm_ia G n) hs
  rw [e] at hP1 hD1
  exact k C r hr H1 locs1 ls hP1 hD1 hS1 hl
theorem mm_iast (q : Nat) (hq : q = pc + 1) (hd : decode Y.1 pc = .ok (.iastore, 1)) {a n : Nat} (hs : sh[a]? = some (mm_ia G n)) {i x : Int32} (k : mm_in i n = true → mm_T X G Y fin sh (mm_up M a i.toNatClampNeg x) q lv st f) : mm_T X G Y fin sh M pc lv (.int x :: .int i :: .ref (mm_ad G a) :: st) (if mm_in i n then f else none) := by
  by_cases h : mm_in i n = true
  · rw [if_pos h]; exact mm_iastK q hq hd hs h _ rfl (k h)
  · rw [if_neg h]; exact mm_none
theorem mm_alen (q : Nat) (hq : q = pc + 1) (hd : decode Y.1 pc = .ok (.arraylength, 1)) {a n : Nat} (hs : sh[a]? = some (mm_ia G n)) {v : Int32} (hv : Int32.ofNat n = v) (k : mm_T X G Y fin sh M q lv (.int v :: st) f) : mm_T X G Y fin sh M pc lv (.ref (mm_ad G a) :: st) f := by
  subst hq
  exact fun C r hr H locs ls hP hD hS hl => va_alen (D := mm_D G) C.1 C.2.1 C.2.2.2.2.2.2.2.1 hP a 0 (mm_w_get hs) rfl hv hd (k C r hr H locs ls hP hD hS hl)
theorem mm_zaldK (q : Nat) (hq : q = pc + 1) (hd : decode Y.1 pc = .ok (.baload, 1)) {a n : Nat} (hs : sh[a]? = some (mm_za G n)) {i : Int32} (h : mm_in i n = true) (j : Nat) (hj : i.toNatClampNeg = j) (k : mm_T X G Y fin sh M q lv (.int (M a j) :: st) f) : mm_T X G Y fin sh M pc lv (.int i :: .ref (mm_ad G a) :: st) f := by
  subst hq; subst hj
  exact fun C r hr H locs ls hP hD hS hl => va_zald (D := mm_D G) C.1 C.2.1 C.2.2.2.2.2.2.2.1 hP a 1 (mm_w_get hs) rfl (mm_in_vp h) hd (k C r hr H locs ls hP hD hS hl)
theorem mm_zald (q : Nat) (hq : q = pc + 1) (hd : decode Y.1 pc = .ok (.baload, 1)) {a n : Nat} (hs : sh[a]? = some (mm_za G n)) {i : Int32} (k : mm_in i n = true → mm_T X G Y fin sh M q lv (.int (M a i.toNatClampNeg) :: st) f) : mm_T X G Y fin sh M pc lv (.int i :: .ref (mm_ad G a) :: st) (if mm_in i n then f else none) := by
  by_cases h : mm_in i n = true
  · rw [if_pos h]; exact mm_zaldK q hq hd hs h _ rfl (k h)
  · rw [if_neg h]; exact mm_none
/-- an array of references that stay -/
def mm_ra (G : mm_G) (ty n b s : Nat) : (Nat → Int32) → va_E := fun _ => .inl (mm_cy G ty, n, .inr (.inr (.inr (.inr (fun i => some (mm_ad G (b + s * i)))))))
theorem mm_aald (q : Nat) (hq : q = pc + 1) (hd : decode Y.1 pc = .ok (.aaload, 1)) {a n ty b s : Nat} {E : String} (hs : sh[a]? = some (mm_ra G ty n b s)) (ht : (mm_ty G)[ty]? = some (mm_cy G ty, .object E)) {i : Int32} (k : mm_in i n = true → mm_T X G Y fin sh M q lv (.ref (mm_ad G (b + s * i.toNatClampNeg)) :: st) f) : mm_T X G Y fin sh M pc lv (.int i :: .ref (mm_ad G a) :: st) (if mm_in i n then f else none) := by
  subst hq
  by_cases h : mm_in i n = true
  · rw [if_pos h]
    exact fun C r hr H locs ls hP hD hS hl => va_aldq (D := mm_D G) C.1 C.2.1 C.2.2.2.2.2.2.2.1 hP a ty (mm_w_get hs) ht (mm_in_vp h) hd (k h C r hr H locs ls hP hD hS hl)
  · rw [if_neg h]; exact mm_none
theorem mm_aaldK (q : Nat) (hq : q = pc + 1) (hd : decode Y.1 pc = .ok (.aaload, 1)) {a n ty b s : Nat} {E : String} (hs : sh[a]? = some (mm_ra G ty n b s)) (ht : (mm_ty G)[ty]? = some (mm_cy G ty, .object E)) {i : Int32} (h : mm_in i n = true) (j : Nat) (hj : b + s * i.toNatClampNeg = j) (k : mm_T X G Y fin sh M q lv (.ref (mm_ad G j) :: st) f) : mm_T X G Y fin sh M pc lv (.int i :: .ref (mm_ad G a) :: st) f := by
  subst hq; subst hj
  exact fun C r hr H locs ls hP hD hS hl => va_aldq (D := mm_D G) C.1 C.2.1 C.2.2.2.2.2.2.2.1 hP a ty (mm_w_get hs) ht (mm_in_vp h) hd (k C r hr H locs ls hP hD hS hl)
theorem mm_alenR (q : Nat) (hq : q = pc + 1) (hd : decode Y.1 pc = .ok (.arraylength, 1)) {a n ty b s : Nat} {E : String} (hs : sh[a]? = some (mm_ra G ty n b s)) (ht : (mm_ty G)[ty]? = some (mm_cy G ty, .object E)) {v : Int32} (hv : Int32.ofNat n = v) (k : mm_T X G Y fin sh M q lv (.int v :: st) f) : mm_T X G Y fin sh M pc lv (.ref (mm_ad G a) :: st) f := by
  subst hq
  exact fun C r hr H locs ls hP hD hS hl => va_alen (D := mm_D G) C.1 C.2.1 C.2.2.2.2.2.2.2.1 hP a ty (mm_w_get hs) ht hv hd (k C r hr H locs ls hP hD hS hl)
/-! the ends -/
def mm_fi (sh : mm_S) : Int32 × mm_M → mm_F := fun r => (some (.int r.1), sh, r.2)
def mm_fl (sh : mm_S) : Int64 × mm_M → mm_F := fun r => (some (.long r.1), sh, r.2)
def mm_fv (sh : mm_S) : mm_M → mm_F := fun r => (none, sh, r)
def mm_fr (ad : Nat → Nat) (sh : mm_S) : Nat × mm_M → mm_F := fun r => (some (.ref (ad r.1)), sh, r.2)
theorem mm_end {H : Heap} {locs : List Loc} (C : mm_C X G Y) (hP : va_P (mm_D G) vwCl (mm_w (mm_ad G) sh M) H) (hD : va_D (mm_A G) (mm_w (mm_ad G) sh M)) (hS : va_S (mm_A G) X.2.2.2.1.heap H locs) {v : Option Value} {F : mm_F} (hF : F = (v, sh, M)) (t : State) (ht : t.heap = H) (hW : X.2.2.2.1.WarmedH t.vm) : mm_Q G F X.2.2.2.2.2.1 X.2.2.2.1 (.returned v) t := by
  subst hF
  exact ⟨⟨rfl, by rw [ht]; exact hP, hD, mm_E_warm C.2.2.2.2.2.2.2 hW hS ht⟩, hS.F ht⟩
theorem mm_iret (hd : decode Y.1 pc = .ok (.ireturn, 1)) (hY : Y.2.2.2.1 = some .int) {v : Int32} {r0 : ρ} (hF : fin r0 = (some (.int v), sh, M)) : mm_T X G Y fin sh M pc lv [.int v] (some r0) := by
  intro C r hr H locs ls hP hD hS hl
  cases hr
  exact W.iret C.1 C.2.1 (by rw [C.2.2.2.2.2.1, hY]) (fun t ht hW => mm_end C hP hD hS hF t ht hW) hS.2.2 hd (hlocks := C.2.2.2.2.2.2.1)
theorem mm_zretK (hd : decode Y.1 pc = .ok (.ireturn, 1)) {ty : FieldType} (hY : Y.2.2.2.1 = some ty) {v : Int32} (hn : narrow ty (.int v) = .int v) {r0 : ρ} (hF : fin r0 = (some (.int v), sh, M)) : mm_T X G Y fin sh M pc lv [.int v] (some r0) := by
  intro C r hr H locs ls hP hD hS hl
  cases hr
  exact W.zret C.1 C.2.1 (by rw [C.2.2.2.2.2.1, hY]) hn (fun t ht hW => mm_end C hP hD hS hF t ht hW) hS.2.2 hd (hlocks := C.2.2.2.2.2.2.1)
theorem mm_zret (hd : decode Y.1 pc = .ok (.ireturn, 1)) (hY : Y.2.2.2.1 = some .boolean) {v : Int32} {r0 : ρ} (hF : fin r0 = (some (.int v), sh, M)) : mm_T X G Y fin sh M pc lv [.int v] (if v = 0 ∨ v = 1 then some r0 else none) := by
  by_cases h : v = 0 ∨ v = 1
  · rw [if_pos h]
    exact mm_zretK hd hY (by rcases h with h | h <;> subst h <;> rfl) hF
  · rw [if_neg h]; exact mm_none
theorem mm_vret (hd : decode Y.1 pc = .ok (.return_, 1)) (hY : Y.2.2.2.1 = none) {r0 : ρ} (hF : fin r0 = (none, sh, M)) : mm_T X G Y fin sh M pc lv [] (some r0) := by
  intro C r hr H locs ls hP hD hS hl
  cases hr
  exact W.vret C.1 C.2.1 (by rw [C.2.2.2.2.2.1, hY]) (fun t ht hW => mm_end C hP hD hS hF t ht hW) hS.2.2 hd (hlocks := C.2.2.2.2.2.2.1)
theorem mm_lret (hd : decode Y.1 pc = .ok (.lreturn, 1)) (hY : Y.2.2.2.1 = some .long) {v : Int64} {r0 : ρ} (hF : fin r0 = (some (.long v), sh, M)) : mm_T X G Y fin sh M pc lv [.long v] (some r0) := by
  intro C r hr H locs ls hP hD hS hl
  cases hr
  exact W.lret C.1 C.2.1 (by rw [C.2.2.2.2.2.1, hY]) (fun t ht hW => mm_end C hP hD hS hF t ht hW) hS.2.2 hd (hlocks := C.2.2.2.2.2.2.1)
end
end
